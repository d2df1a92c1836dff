/-! ===== the way from the root to a number ===== -/
def wkF (f : Nat → Int32) (x : Nat) : Nat → Nat → Nat → Nat → Option Nat → Nat × Nat × Nat × Option Nat
  | 0, lo, hi, d, p => (lo, hi, d, p)
  | n + 1, lo, hi, d, p => match bs f lo hi with
    | none => (lo, hi, d, p)
    | some b => if x = b then (lo, hi, d, p) else if x < b then wkF f x n lo b (d + 1) (some b) else wkF f x n (b + 1) hi (d + 1) (some b)
theorem wkF_fuel (f : Nat → Int32) (x : Nat) : ∀ (n m lo hi d : Nat) (p : Option Nat), hi - lo ≤ n → hi - lo ≤ m → wkF f x n lo hi d p = wkF f x m lo hi d p := by
  intro n
  induction n with
  | zero =>
    intro m lo hi d p h1 h2
    have e : bs f lo hi = none := bs_none_of (fun j a b => by omega)
    cases m with
    | zero => rfl
    | succ m => simp only [wkF, e]
  | succ n ih =>
    intro m lo hi d p h1 h2
    cases m with
    | zero =>
      have e : bs f lo hi = none := bs_none_of (fun j a b => by omega)
      simp only [wkF, e]
    | succ m =>
      cases e : bs f lo hi with
      | none => simp only [wkF, e]
      | some b =>
        obtain ⟨a1, a2, -, -⟩ := bs_some e
        simp only [wkF, e]
        rw [ih m lo b (d + 1) (some b) (by omega) (by omega), ih m (b + 1) hi (d + 1) (some b) (by omega) (by omega)]
def wk (f : Nat → Int32) (x lo hi d : Nat) (p : Option Nat) : Nat × Nat × Nat × Option Nat := wkF f x (hi - lo) lo hi d p
theorem wk_none {f : Nat → Int32} {x lo hi d : Nat} {p : Option Nat} (e : bs f lo hi = none) : wk f x lo hi d p = (lo, hi, d, p) := by
  unfold wk
  cases hi - lo with
  | zero => rfl
  | succ n => simp only [wkF, e]
theorem wk_some {f : Nat → Int32} {x lo hi d b : Nat} {p : Option Nat} (e : bs f lo hi = some b) : wk f x lo hi d p = if x = b then (lo, hi, d, p) else if x < b then wk f x lo b (d + 1) (some b) else wk f x (b + 1) hi (d + 1) (some b) := by
  obtain ⟨a1, a2, -, -⟩ := bs_some e
  unfold wk
  rw [show hi - lo = (hi - lo - 1) + 1 by omega]
  simp only [wkF, e]
  rw [wkF_fuel f x (hi - lo - 1) (b - lo) lo b (d + 1) (some b) (by omega) (by omega), wkF_fuel f x (hi - lo - 1) (hi - (b + 1)) (b + 1) hi (d + 1) (some b) (by omega) (by omega)]
/-- the way stays within its borders -/
theorem wk_in {f : Nat → Int32} {x : Nat} : ∀ (n lo hi d : Nat) (p : Option Nat), hi - lo ≤ n → lo ≤ hi → lo ≤ (wk f x lo hi d p).1 ∧ (wk f x lo hi d p).2.1 ≤ hi := by
  intro n
  induction n with
  | zero =>
    intro lo hi d p h1 h2
    have e : bs f lo hi = none := bs_none_of (fun j a b => by omega)
    rw [wk_none e]
    exact ⟨Nat.le_refl _, Nat.le_refl _⟩
  | succ n ih =>
    intro lo hi d p h1 h2
    cases e : bs f lo hi with
    | none => rw [wk_none e]; exact ⟨Nat.le_refl _, Nat.le_refl _⟩
    | some b =>
      obtain ⟨a1, a2, -, -⟩ := bs_some e
      rw [wk_some e]
      by_cases h3 : x = b
      · rw [if_pos h3]; exact ⟨Nat.le_refl _, Nat.le_refl _⟩
      · rw [if_neg h3]
        by_cases h4 : x < b
        · rw [if_pos h4]
          have := ih lo b (d + 1) (some b) (by omega) a1
          exact ⟨this.1, by omega⟩
        · rw [if_neg h4]
          have := ih (b + 1) hi (d + 1) (some b) (by omega) (by omega)
          exact ⟨by omega, this.2⟩
/-- where a key's own node is -/
theorem wk_key {f : Nat → Int32} {k : Nat} (hk : f k ≠ -9) : ∀ (n lo hi d : Nat) (p : Option Nat), hi - lo ≤ n → lo ≤ k → k < hi → Bd f lo hi → d ≤ 100 - (hi - lo) → ∃ lo' hi' d' p', wk f k lo hi d p = (lo', hi', d', p') ∧ Bd f lo' hi' ∧ bs f lo' hi' = some k ∧ d' < 100 ∧ (∀ o, p' = some o → (o < 100 ∧ f o ≠ -9) ∨ p = some o) ∧ ∀ x, lo' ≤ x → x < hi' → wk f x lo hi d p = wk f x lo' hi' d' p' := by
  intro n
  induction n with
  | zero => intro lo hi d p h1 h2 h3; omega
  | succ n ih =>
    intro lo hi d p h1 h2 h3 hB hd
    have hh := hB.2.1
    cases e : bs f lo hi with
    | none => exact absurd (bs_none e k h2 h3) hk
    | some b =>
      obtain ⟨a1, a2, a3, a4⟩ := bs_some e
      by_cases hkb : k = b
      · subst hkb
        exact ⟨lo, hi, d, p, by rw [wk_some e, if_pos rfl], hB, e, by omega, fun o h => Or.inr h, fun x _ _ => rfl⟩
      · by_cases hlt : k < b
        · obtain ⟨lo', hi', d', p', q1, q2, q3, q4, q5, q6⟩ := ih lo b (d + 1) (some b) (by omega) h2 hlt (Bd_left hB e) (by omega)
          obtain ⟨c1, c2, -, -⟩ := bs_some q3
          refine ⟨lo', hi', d', p', by rw [wk_some e, if_neg hkb, if_pos hlt]; exact q1, q2, q3, q4, fun o h => ?_, fun x x1 x2 => ?_⟩
          · rcases q5 o h with q | q
            · exact Or.inl q
            · cases q; exact Or.inl ⟨by omega, a3⟩
          · rw [← q6 x x1 x2]
            have hx : x < b := by
              rcases Nat.lt_or_ge x b with q | q
              · exact q
              · exfalso
                have : hi' ≤ b := by
                  have hw := wk_in (f := f) (x := k) b lo b (d + 1) (some b) (by omega) (by omega)
                  rw [q1] at hw
                  exact hw.2
                omega
            rw [wk_some e, if_neg (by omega), if_pos hx]
        · obtain ⟨lo', hi', d', p', q1, q2, q3, q4, q5, q6⟩ := ih (b + 1) hi (d + 1) (some b) (by omega) (by omega) h3 (Bd_right hB e) (by omega)
          refine ⟨lo', hi', d', p', by rw [wk_some e, if_neg hkb, if_neg hlt]; exact q1, q2, q3, q4, fun o h => ?_, fun x x1 x2 => ?_⟩
          · rcases q5 o h with q | q
            · exact Or.inl q
            · cases q; exact Or.inl ⟨by omega, a3⟩
          · rw [← q6 x x1 x2]
            have hx : b < x := by
              have hw := wk_in (f := f) (x := k) hi (b + 1) hi (d + 1) (some b) (by omega) (by omega)
              rw [q1] at hw
              have := hw.1
              omega
            rw [wk_some e, if_neg (by omega), if_neg (by omega)]
/-- a key's place in the tree: borders, how many are above it, on which it hangs -/
def pl (f : Nat → Int32) (k : Nat) : Nat × Nat × Nat × Option Nat := wk f k 0 100 0 none
theorem pl_spec {f : Nat → Int32} {k : Nat} (hk : f k ≠ -9) (h100 : k < 100) : Bd f (pl f k).1 (pl f k).2.1 ∧ bs f (pl f k).1 (pl f k).2.1 = some k ∧ (pl f k).2.2.1 < 100 ∧ (∀ o, (pl f k).2.2.2 = some o → o < 100 ∧ f o ≠ -9) ∧ ∀ x, (pl f k).1 ≤ x → x < (pl f k).2.1 → pl f x = wk f x (pl f k).1 (pl f k).2.1 (pl f k).2.2.1 (pl f k).2.2.2 := by
  obtain ⟨lo', hi', d', p', q1, q2, q3, q4, q5, q6⟩ := wk_key hk 100 0 100 0 none (by omega) (by omega) h100 (Bd_top f) (by omega)
  have e : pl f k = (lo', hi', d', p') := q1
  rw [e]
  exact ⟨q2, q3, q4, fun o h => (q5 o h).elim id (fun h => by cases h), q6⟩
/-- the places of what hangs on a node -/
theorem pl_left {f : Nat → Int32} {k c : Nat} (hk : f k ≠ -9) (h100 : k < 100) (hc : bs f (pl f k).1 k = some c) : pl f c = ((pl f k).1, k, (pl f k).2.2.1 + 1, some k) := by
  obtain ⟨h1, h2, h3, -, h4⟩ := pl_spec hk h100
  obtain ⟨a1, a2, -, -⟩ := bs_some hc
  obtain ⟨b1, b2, -, -⟩ := bs_some h2
  rw [h4 c a1 (by omega), wk_some h2, if_neg (by omega), if_pos a2, wk_some hc, if_pos rfl]
theorem pl_right {f : Nat → Int32} {k c : Nat} (hk : f k ≠ -9) (h100 : k < 100) (hc : bs f (k + 1) (pl f k).2.1 = some c) : pl f c = (k + 1, (pl f k).2.1, (pl f k).2.2.1 + 1, some k) := by
  obtain ⟨h1, h2, h3, -, h4⟩ := pl_spec hk h100
  obtain ⟨a1, a2, -, -⟩ := bs_some hc
  obtain ⟨b1, b2, -, -⟩ := bs_some h2
  rw [h4 c (by omega) a2, wk_some h2, if_neg (by omega), if_neg (by omega), wk_some hc, if_pos rfl]
theorem pl_top {f : Nat → Int32} {c : Nat} (hc : bs f 0 100 = some c) : pl f c = (0, 100, 0, none) := by
  unfold pl
  rw [wk_some hc, if_pos rfl]
