theorem law_pure (L : Nat) (xs : Nat → Int32) (hL : L ≤ 2048) : ∃ σ' : Mm, f_L_law L xs ((0, fun _ => (0, 0), fun _ _ => none, fun _ _ => 0) : Mm) = some (1, σ') := sorry
