/-! ===== leaves of the class ===== -/
theorem n_valueOf {k : Nat} (h : k < 100) (a : Nat) (D : DD) : g_X2_valueOf a (nI k) D = some (D (a + 1) k) := by
  unfold g_X2_valueOf
  rw [n_isNumber h, pcb_some, if_neg one_ne0, zck_nI h (by decide), ix_nI (lt31 h (by decide))]
theorem n_valueOf_f {x : Int32} (h : ¬ isNum x) (a : Nat) (D : DD) : g_X2_valueOf a x D = some (-9) := by
  unfold g_X2_valueOf
  rw [n_isNumber_f h, pcb_some, if_pos rfl]
theorem n_has {k : Nat} (h : k < 100) (a : Nat) (D : DD) : g_X2_has a (nI k) D = some (if D (a + 1) k = -9 then 0 else 1) := by
  unfold g_X2_has
  rw [n_valueOf h, pcb_some]
  by_cases e : D (a + 1) k = -9
  · rw [if_pos e, if_pos e]
  · rw [if_neg e, if_neg e]
theorem n_has_f {x : Int32} (h : ¬ isNum x) (a : Nat) (D : DD) : g_X2_has a x D = some 0 := by
  unfold g_X2_has
  rw [n_valueOf_f h, pcb_some, if_pos rfl]
theorem n_leftOf {k : Nat} (h : k < 100) (a : Nat) (D : DD) : g_X7_leftOf a (nI k) D = some (D (a + 1) k) := by
  unfold g_X7_leftOf
  rw [n_isNumber h, pcb_some, if_neg one_ne0, zck_nI h (by decide), ix_nI (lt31 h (by decide))]
theorem n_rightOf {k : Nat} (h : k < 100) (a : Nat) (D : DD) : g_X7_rightOf a (nI k) D = some (D (a + 2) k) := by
  unfold g_X7_rightOf
  rw [n_isNumber h, pcb_some, if_neg one_ne0, zck_nI h (by decide), ix_nI (lt31 h (by decide))]
theorem n_digestOf {k : Nat} (h : k < 100) (a : Nat) (D : DD) : g_X7_digestOf a (nI k) D = some (D (a + 3) k) := by
  unfold g_X7_digestOf
  rw [n_isNumber h, pcb_some, if_neg one_ne0, zck_nI h (by decide), ix_nI (lt31 h (by decide))]
theorem n_digestOf9 (a : Nat) (D : DD) : g_X7_digestOf a (-9) D = some 0 := by
  unfold g_X7_digestOf
  rw [n_isNumber9, pcb_some, if_pos rfl]
theorem n_digestOr_s {k : Nat} (h : k < 100) (a : Nat) (x : Int32) (D : DD) : g_X7_digestOr a (nI k) x D = some (D (a + 3) k) := by
  unfold g_X7_digestOr
  rw [n_isNumber h, pcb_some, if_neg one_ne0, zck_nI h (by decide), ix_nI (lt31 h (by decide))]
theorem n_digestOr_n {k : Nat} (h : k ≤ 100) (a : Nat) (D : DD) : g_X7_digestOr a (-9) (nI k) D = some (D (a + 4) k) := by
  unfold g_X7_digestOr
  rw [n_isNumber9, pcb_some, if_pos rfl, if_neg (nI_pos (by omega)), if_neg (show ¬ (100 : Int32) < nI k from nI_nlt (a := 100) (b := k) h (by decide)), zck_nI (by omega) (by decide), ix_nI (by omega)]
/-- fill: an array of len ints gets one number -/
theorem n_fill_loop (len a : Nat) (v : Int32) (hl : len ≤ 1000) : ∀ (d k n : Nat) (D : DD), k + d = len → d < n → ∃ f : Nat → Int32, g_J7_fill_53178_5 len n a v (nI k) (nI len) D = some (uA D a f) ∧ (∀ j, k ≤ j → j < len → f j = v) ∧ ∀ j, (j < k ∨ len ≤ j) → f j = D a j := by
  intro d
  induction d with
  | zero =>
    intro k n D h1 h2
    obtain ⟨n, rfl⟩ : ∃ m, n = m + 1 := ⟨n - 1, by omega⟩
    refine ⟨D a, ?_, fun j a b => by omega, fun j _ => rfl⟩
    unfold g_J7_fill_53178_5
    rw [if_pos (nI_le (by omega) (by omega))]
    congr 1
    funext b
    by_cases hb : b = a
    · rw [hb, uA_same]
    · rw [uA_ne D _ hb]
  | succ d ih =>
    intro k n D h1 h2
    obtain ⟨n, rfl⟩ : ∃ m, n = m + 1 := ⟨n - 1, by omega⟩
    unfold g_J7_fill_53178_5
    rw [if_neg (nI_ge (by omega) (by omega)), zck_nI (by omega) (by omega), dlt_eq, nI_1, ix_nI (by omega)]
    obtain ⟨f, e1, e2, e3⟩ := ih (k + 1) n (u2 D a k v) (by omega) (by omega)
    refine ⟨f, ?_, fun j h3 h4 => ?_, fun j h3 => ?_⟩
    · rw [e1]
      congr 1
      funext b
      by_cases hb : b = a
      · rw [hb, uA_same, uA_same]
      · rw [uA_ne _ _ hb, uA_ne _ _ hb, u2_ne _ _ hb]
    · by_cases hj : j = k
      · rw [e3 j (by omega), hj, u2_same, upd_same]
      · exact e2 j (by omega) h4
    · rw [e3 j (by omega), u2_same, upd_ne _ _ (by omega)]
theorem n_fill (len a : Nat) (v : Int32) (D : DD) (hl : len ≤ 900) : ∃ f : Nat → Int32, g_J7_fill_53178 len a v D = some (uA D a f) ∧ (∀ j, j < len → f j = v) := by
  obtain ⟨f, e1, e2, e3⟩ := n_fill_loop len a v (by omega) len 0 1000 D (by omega) (by omega)
  exact ⟨f, e1, fun j h => e2 j (by omega) h⟩
