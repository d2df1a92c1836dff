theorem law_pure (L : Nat) (xs : Nat → Int32) (hL : L ≤ 2048) : ∃ σ' : Mm, f_L_law L xs ((0, fun _ => (0, 0), fun _ _ => none, fun _ _ => 0) : Mm) = some (1, σ') := by
  show LR (f_L_law L xs mz)
  obtain ⟨s1, s2, e1, h1, e2, hg⟩ := start_ok
  unfold f_L_law
  rw [zlt_eq, e1, zcb_some, zlt_eq, h1, e2, zcb_some, ← nI_0]
  exact law_loop L xs hL 513 0 s2 (by omega) (by omega) hg
