/-! ===== more numbers ===== -/
theorem zlg_lt (x y : Int64) : (lg_cmp x y < 0) ↔ x < y := by
  unfold lg_cmp
  by_cases h1 : x > y
  · rw [if_pos h1]
    have : ¬ x < y := Int64.not_lt.mpr (Int64.le_of_lt h1)
    simp [this]
  · rw [if_neg h1]
    by_cases h2 : x = y
    · subst h2
      simp [Int64.lt_irrefl]
    · rw [if_neg h2]
      have h3 : x < y := Int64.lt_of_le_of_ne (Int64.not_lt.mp h1) h2
      simp [h3]
theorem zlg_gt (x y : Int64) : (0 < lg_cmp x y) ↔ y < x := by
  unfold lg_cmp
  by_cases h1 : x > y
  · rw [if_pos h1]
    have : y < x := h1
    simp [this]
  · rw [if_neg h1]
    have h4 : ¬ y < x := h1
    by_cases h2 : x = y
    · subst h2
      simp [Int64.lt_irrefl]
    · rw [if_neg h2]
      simp [h4]
theorem n_in (x y z : Int64) : g_X9_in x y z = some (if y ≤ x ∧ x ≤ z then 1 else 0) := by
  unfold g_X9_in
  by_cases h1 : x < y
  · rw [if_pos ((zlg_lt x y).mpr h1), if_neg (fun q => absurd q.1 (Int64.not_le.mpr h1))]
  · rw [if_neg (fun q => h1 ((zlg_lt x y).mp q))]
    by_cases h2 : z < x
    · rw [if_pos ((zlg_gt x z).mpr h2), if_neg (fun q => absurd q.2 (Int64.not_le.mpr h2))]
    · rw [if_neg (fun q => h2 ((zlg_gt x z).mp q)), if_pos ⟨Int64.not_lt.mp h1, Int64.not_lt.mp h2⟩]
theorem le64 (x y : Int32) : x.toInt64 ≤ y.toInt64 ↔ x ≤ y := by
  rw [Int64.le_iff_toInt_le, Int32.toInt_toInt64, Int32.toInt_toInt64, Int32.le_iff_toInt_le]
theorem n_in32 (x y z : Int32) : g_X9_in x.toInt64 y.toInt64 z.toInt64 = some (if y ≤ x ∧ x ≤ z then 1 else 0) := by
  rw [n_in]
  simp only [le64]
theorem nI_divI {a b : Nat} (ha : a < 2 ^ 31) (hb : b < 2 ^ 31) (hb0 : 0 < b) : nI a / nI b = nI (a / b) := pk_div ha hb0 hb
theorem nI_mul (a b : Nat) : nI a * nI b = nI (a * b) := (Int32.ofNat_mul a b).symm
theorem nI_rem {a b : Nat} (ha : a < 2 ^ 31) (hb : b < 2 ^ 31) (hb0 : 0 < b) : nI a - nI a / nI b * nI b = nI (a % b) := by
  rw [nI_divI ha hb hb0, nI_mul, nI_sub (by rw [Nat.mul_comm]; exact Nat.mul_div_le a b)]
  congr 1
  have := Nat.div_add_mod a b
  rw [Nat.mul_comm] at this
  omega
/-- an item of a node: which key, which value -/
def isIt (x : Int32) : Prop := 0 ≤ x ∨ (-10099 ≤ x ∧ x ≤ -100)
def nx (x : Int32) : Nat := ix (-100 - x)
def kx (x : Int32) : Nat := nx x / 100
def vx (x : Int32) : Int32 := nI (nx x % 100)
theorem it_neg {x : Int32} (h : isIt x) (h0 : ¬ 0 ≤ x) : (-100 : Int32) - x = nI (nx x) ∧ nx x < 10000 := by
  rcases h with h | ⟨h1, h2⟩
  · exact absurd h h0
  · have a1 := Int32.le_iff_toInt_le.mp h1
    have a2 := Int32.le_iff_toInt_le.mp h2
    have c1 : (-10099 : Int32).toInt = -10099 := by decide
    have c2 : (-100 : Int32).toInt = -100 := by decide
    have e : ((-100 : Int32) - x).toInt = -100 - x.toInt := by
      rw [Int32.toInt_sub, c2]
      rw [Int.bmod_eq_of_le (by omega) (by omega)]
    have hn : ¬ ((-100 : Int32) - x) < 0 := by
      rw [Int32.lt_iff_toInt_lt, e, Int32.toInt_zero]; omega
    obtain ⟨j, hj, hj2⟩ := nI_of hn
    have hix : nx x = j := by unfold nx; rw [hj2]; exact ix_nI hj
    rw [hix]
    refine ⟨hj2, ?_⟩
    have := nI_toInt hj
    rw [← hj2, e] at this
    omega
theorem n_keyOf {x : Int32} (h : isIt x) (h0 : ¬ 0 ≤ x) : ((-100 : Int32) - x) / (100 : Int32) = nI (kx x) ∧ kx x < 100 := by
  obtain ⟨h1, h2⟩ := it_neg h h0
  rw [h1, show (100 : Int32) = nI 100 from rfl, nI_divI (by omega) (by decide) (by decide)]
  refine ⟨rfl, ?_⟩
  unfold kx
  omega
theorem n_valOf {x : Int32} (h : isIt x) (h0 : ¬ 0 ≤ x) : ((-100 : Int32) - x) - ((-100 : Int32) - x) / (100 : Int32) * (100 : Int32) = vx x := by
  obtain ⟨h1, h2⟩ := it_neg h h0
  rw [h1, show (100 : Int32) = nI 100 from rfl, nI_rem (by omega) (by decide) (by decide)]
  rfl
theorem vx_ne9 (x : Int32) : vx x ≠ -9 := nI_ne9 (by omega)
