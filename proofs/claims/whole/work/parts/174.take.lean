/-! ===== the reference takes an item ===== -/
def hgD (m : Nat) (D : DD) (on : Option Nat) (sd : Nat) (nd lf : Int32) : DD := match on with
  | none => u2 D m 37 lf
  | some i => if sd = 0 then u2 (u2 D (m + 25) i nd) (m + 27) i lf else u2 (u2 D (m + 26) i nd) (m + 28) i lf
theorem n_hang {m sd : Nat} {D : DD} {on : Option Nat} (hsd : sd < 2) (hon : ∀ i, on = some i → i < 100) (nd lf : Int32) : g_X9_hang m (oI on) (nI sd) nd lf D = some (hgD m D on sd nd lf) := by
  unfold g_X9_hang
  cases on with
  | none => rw [if_pos (show oI none = -9 from rfl), dlt_eq]; rfl
  | some i =>
    have hi := hon i rfl
    rw [show oI (some i) = nI i from rfl, if_neg (nI_ne9 (by omega))]
    simp only [zck_nI hi (by decide), dlt_eq, ix_nI (show i < 2 ^ 31 by omega)]
    by_cases hs : sd = 0
    · subst hs
      rw [if_pos nI_0]
      simp [hgD]
    · rw [if_neg (nI_ne0 (by omega) (by omega))]
      simp [hgD, hs]
theorem hgD_o {m c : Nat} (D : DD) (on : Option Nat) (sd : Nat) (nd lf : Int32) (h0 : c ≠ m) (h1 : c ≠ m + 25) (h2 : c ≠ m + 26) (h3 : c ≠ m + 27) (h4 : c ≠ m + 28) : hgD m D on sd nd lf c = D c := by
  cases on with
  | none => exact u2_ne _ _ h0
  | some i =>
    show (if sd = 0 then _ else _ : DD) c = _
    split
    · rw [u2_ne _ _ h3, u2_ne _ _ h1]
    · rw [u2_ne _ _ h4, u2_ne _ _ h2]
theorem hgD_m {m j : Nat} (D : DD) (on : Option Nat) (sd : Nat) (nd lf : Int32) (hj : j ≠ 37) : hgD m D on sd nd lf m j = D m j := by
  cases on with
  | none => show u2 D m 37 lf m j = _; rw [u2_same, upd_ne _ _ hj]
  | some i =>
    show (if sd = 0 then _ else _ : DD) m j = _
    split
    · rw [u2_ne _ _ (by omega), u2_ne _ _ (by omega)]
    · rw [u2_ne _ _ (by omega), u2_ne _ _ (by omega)]
theorem hgD_25 {m j : Nat} (D : DD) (on : Option Nat) (sd : Nat) (nd lf : Int32) : hgD m D on sd nd lf (m + 25) j = if on = some j ∧ sd = 0 then nd else D (m + 25) j := by
  cases on with
  | none => show u2 D m 37 lf (m + 25) j = _; rw [u2_ne _ _ (by omega), if_neg (fun h => by cases h.1)]
  | some i =>
    show (if sd = 0 then _ else _ : DD) (m + 25) j = _
    by_cases hs : sd = 0
    · rw [if_pos hs, u2_ne _ _ (by omega), u2_same]
      by_cases hj : j = i
      · subst hj; rw [upd_same, if_pos ⟨rfl, hs⟩]
      · rw [upd_ne _ _ hj, if_neg (fun h => hj (Option.some.inj h.1).symm)]
    · rw [if_neg hs, u2_ne _ _ (by omega), u2_ne _ _ (by omega), if_neg (fun h => hs h.2)]
theorem hgD_27 {m j : Nat} (D : DD) (on : Option Nat) (sd : Nat) (nd lf : Int32) : hgD m D on sd nd lf (m + 27) j = if on = some j ∧ sd = 0 then lf else D (m + 27) j := by
  cases on with
  | none => show u2 D m 37 lf (m + 27) j = _; rw [u2_ne _ _ (by omega), if_neg (fun h => by cases h.1)]
  | some i =>
    show (if sd = 0 then _ else _ : DD) (m + 27) j = _
    by_cases hs : sd = 0
    · rw [if_pos hs, u2_same, u2_ne _ _ (by omega)]
      by_cases hj : j = i
      · subst hj; rw [upd_same, if_pos ⟨rfl, hs⟩]
      · rw [upd_ne _ _ hj, if_neg (fun h => hj (Option.some.inj h.1).symm)]
    · rw [if_neg hs, u2_ne _ _ (by omega), u2_ne _ _ (by omega), if_neg (fun h => hs h.2)]
theorem hgD_26 {m j : Nat} (D : DD) (on : Option Nat) (sd : Nat) (nd lf : Int32) : hgD m D on sd nd lf (m + 26) j = if on = some j ∧ sd ≠ 0 then nd else D (m + 26) j := by
  cases on with
  | none => show u2 D m 37 lf (m + 26) j = _; rw [u2_ne _ _ (by omega), if_neg (fun h => by cases h.1)]
  | some i =>
    show (if sd = 0 then _ else _ : DD) (m + 26) j = _
    by_cases hs : sd = 0
    · rw [if_pos hs, u2_ne _ _ (by omega), u2_ne _ _ (by omega), if_neg (fun h => h.2 hs)]
    · rw [if_neg hs, u2_ne _ _ (by omega), u2_same]
      by_cases hj : j = i
      · subst hj; rw [upd_same, if_pos ⟨rfl, hs⟩]
      · rw [upd_ne _ _ hj, if_neg (fun h => hj (Option.some.inj h.1).symm)]
theorem hgD_28 {m j : Nat} (D : DD) (on : Option Nat) (sd : Nat) (nd lf : Int32) : hgD m D on sd nd lf (m + 28) j = if on = some j ∧ sd ≠ 0 then lf else D (m + 28) j := by
  cases on with
  | none => show u2 D m 37 lf (m + 28) j = _; rw [u2_ne _ _ (by omega), if_neg (fun h => by cases h.1)]
  | some i =>
    show (if sd = 0 then _ else _ : DD) (m + 28) j = _
    by_cases hs : sd = 0
    · rw [if_pos hs, u2_ne _ _ (by omega), u2_ne _ _ (by omega), if_neg (fun h => h.2 hs)]
    · rw [if_neg hs, u2_same, u2_ne _ _ (by omega)]
      by_cases hj : j = i
      · subst hj; rw [upd_same, if_pos ⟨rfl, hs⟩]
      · rw [upd_ne _ _ hj, if_neg (fun h => hj (Option.some.inj h.1).symm)]
/-- the memory when a node has been taken -/
def ndD (m : Nat) (D : DD) (L c k lo : Nat) (hi : Int32) (v : Int32) (on : Option Nat) (sd : Nat) : DD := wt m (wt m (hgD m (u2 (u2 (u2 D (m + 23) c (nI k)) (m + 24) c v) m 36 (nI (c + 1))) on sd (nI c) 0) L (nI (k + 1)) hi (nI c) 1) (L + 1) (nI lo) (nI k - 1) (nI c) 0
set_option maxHeartbeats 2000000 in
theorem n_takeItem {m a b lo H sd L c : Nat} {on par : Option Nat} {x : Int32} {D : DD} (ha : a ≤ b) (hb : b < 100) (hx : isIt x) (hL : L < 105) (hlo : lo ≤ 100) (hH : H ≤ 100) (hsd : sd < 2) (h16 : D (m + 16) L = nI lo) (h17 : D (m + 17) L = nI H - 1) (h18 : D (m + 18) L = oI on) (h19 : D (m + 19) L = nI sd) (h21 : D m 21 = nI L) (h36 : D m 36 = nI c) (hc : c < 100)
    (hon : (on = none ∧ par = none) ∨ ∃ i p, on = some i ∧ par = some p ∧ i < 100 ∧ p < 100 ∧ D (m + 23) i = nI p) :
    g_X9_takeItem m x (nI L) (nI a) (nI b) D = some (if 0 ≤ x then (if x = 0 then (0, hgD m D on sd (-9) x) else if H ≤ lo then (3, D) else if lo ≤ b ∧ a < H then (5, D) else (0, hgD m D on sd (-9) x)) else if ¬ (lo ≤ kx x ∧ kx x < H) then (3, D) else if under (kx x) par = false then (4, D) else (0, ndD m D L c (kx x) lo (nI H - 1) (vx x) on sd)) := by
  have hon' : ∀ i, on = some i → i < 100 := fun i e => by
    rcases hon with ⟨q, -⟩ | ⟨i', p, q, -, q2, -⟩
    · rw [q] at e; cases e
    · rw [q] at e; cases e; exact q2
  have hle : (nI lo ≤ nI H - 1) ↔ lo < H := by rw [← Int32.not_lt, hi_lt (by omega) (by omega)]; omega
  have e72l : 0 ≤ x → g_X9_takeItem_72 m x (nI L) (nI lo) (nI H - 1) (oI on) D = some (0, hgD m D on sd (-9) x) := by
    intro h0
    unfold g_X9_takeItem_72
    rw [if_neg (Int32.not_lt.mpr h0), zck_nI (by omega) (by decide), ix_nI (by omega), h19, n_hang hsd hon', vcb_some]
  unfold g_X9_takeItem
  simp only [zck_nI (show L < 110 by omega) (by decide)]
  rw [ix_nI (by omega), h16, h17, h18]
  by_cases h0 : 0 ≤ x
  · rw [if_pos h0]
    by_cases h1 : x = 0
    · rw [if_pos h1, if_pos (by rw [h1]; exact Int32.le_refl _)]
      unfold g_X9_takeItem_37
      rw [if_pos (by rw [h1]; exact Int32.le_refl _), e72l h0]
    · rw [if_neg h1]
      have h1' : ¬ x ≤ 0 := fun q => h1 (Int32.le_antisymm q h0)
      rw [if_neg h1']
      by_cases h2 : H ≤ lo
      · rw [if_neg (fun q => by have := hle.mp q; omega), if_pos h2]
      · rw [if_pos (hle.mpr (by omega)), if_neg h2]
        unfold g_X9_takeItem_37
        rw [if_neg h1']
        have hbH : (nI b ≤ nI H - 1) ↔ b < H := by rw [← Int32.not_lt, hi_lt (by omega) (by omega)]; omega
        have fin : ∀ (p q : Int32), ((q < p) ↔ ¬ (lo ≤ b ∧ a < H)) → g_X9_takeItem_67 m x (nI L) (nI lo) (nI H - 1) (oI on) p q D = some (if lo ≤ b ∧ a < H then (5, D) else (0, hgD m D on sd (-9) x)) := by
          intro p q hpq
          unfold g_X9_takeItem_67
          by_cases h3 : lo ≤ b ∧ a < H
          · rw [if_neg (fun z => hpq.mp z h3), if_pos h3]
          · rw [if_pos (hpq.mpr h3), if_neg h3, e72l h0]
        by_cases h4 : lo ≤ a
        · rw [if_pos (nI_le h4 (by omega))]
          unfold g_X9_takeItem_53
          by_cases h5 : b < H
          · rw [if_pos (hbH.mpr h5)]
            exact fin _ _ ⟨fun z => absurd z (nI_nlt ha (by omega)), fun z => absurd ⟨by omega, by omega⟩ z⟩
          · rw [if_neg (fun z => h5 (hbH.mp z))]
            exact fin _ _ (by rw [hi_lt (by omega) (by omega)]; omega)
        · rw [if_neg (nI_ge (by omega) (by omega))]
          unfold g_X9_takeItem_53
          by_cases h5 : b < H
          · rw [if_pos (hbH.mpr h5)]
            exact fin _ _ (by rw [nI_ltI (by omega) (by omega)]; omega)
          · rw [if_neg (fun z => h5 (hbH.mp z))]
            exact fin _ _ (by rw [hi_lt (by omega) (by omega)]; omega)
  · rw [if_neg h0]
    have h0' : x ≤ 0 := Int32.le_of_lt (Int32.not_le.mp h0)
    obtain ⟨hk1, hk2⟩ := n_keyOf hx h0
    rw [if_pos h0']
    unfold g_X9_takeItem_37
    rw [if_pos h0']
    unfold g_X9_takeItem_72
    rw [if_pos (Int32.not_le.mp h0), hk1, n_in32, pcb_some]
    have hin : (nI lo ≤ nI (kx x) ∧ nI (kx x) ≤ nI H - 1) ↔ (lo ≤ kx x ∧ kx x < H) := by
      rw [nI_leI (by omega) (by omega), ← Int32.not_lt, hi_lt (by omega) (by omega)]; omega
    by_cases h1 : lo ≤ kx x ∧ kx x < H
    · rw [if_pos (hin.mpr h1), if_neg one_ne0, if_neg (show ¬ ¬ (lo ≤ kx x ∧ kx x < H) from fun q => q h1)]
      have e143 : g_X9_takeItem_143 m x (nI L) (nI lo) (nI H - 1) (oI on) (nI (kx x)) D = some (0, ndD m D L c (kx x) lo (nI H - 1) (vx x) on sd) := by
        unfold g_X9_takeItem_143
        rw [h36, n_valOf hx h0]
        simp only [zck_nI hc (by decide), ix_nI (show c < 2 ^ 31 by omega), dlt_eq]
        unfold ndD
        generalize hD3 : u2 (u2 D (m + 23) c (nI (kx x))) (m + 24) c (vx x) = D3
        have d36 : D3 m 36 = nI c := by rw [← hD3, u2_ne _ _ (by omega), u2_ne _ _ (by omega)]; exact h36
        have d21 : D3 m 21 = nI L := by rw [← hD3, u2_ne _ _ (by omega), u2_ne _ _ (by omega)]; exact h21
        have d19 : D3 (m + 19) L = nI sd := by rw [← hD3, u2_ne _ _ (by omega), u2_ne _ _ (by omega)]; exact h19
        rw [d36, nI_1]
        generalize hE3 : u2 D3 m 36 (nI (c + 1)) = E3
        have s19 : E3 (m + 19) L = nI sd := by rw [← hE3, u2_ne _ _ (by omega)]; exact d19
        have s21 : E3 m 21 = nI L := by rw [← hE3, u2_same, upd_ne _ _ (by omega)]; exact d21
        rw [zck_nI (by omega) (by decide), ix_nI (by omega), s19, n_hang hsd hon', vcb_some, nI_1, n_want (L := L) (by omega) (by rw [hgD_m _ _ _ _ _ (by omega)]; exact s21), vcb_some, n_want (L := L + 1) (by omega) (by rw [wt_f, upd_same]), vcb_some]
      rcases hon with ⟨q1, q2⟩ | ⟨i, p, q1, q2, q3, q4, q5⟩
      · rw [q1, show oI none = -9 from rfl, if_pos rfl]
        rw [q1, show oI none = -9 from rfl] at e143
        rw [e143, q2, if_neg (by simp [under])]
      · rw [q1, show oI (some i) = nI i from rfl, if_neg (nI_ne9 (by omega)), zck_nI q3 (by decide), ix_nI (by omega), q5, n_above9 q4 hk2, pcb_some]
        rw [q1, show oI (some i) = nI i from rfl] at e143
        rw [q2]
        by_cases h3 : rk (kx x) < rk p
        · rw [if_pos h3, if_neg one_ne0, e143, if_neg (by simp [under, h3])]
        · rw [if_neg h3, if_pos rfl, if_pos (by simp [under, h3])]
    · rw [if_neg (fun q => h1 (hin.mp q)), if_pos rfl, if_pos h1]
