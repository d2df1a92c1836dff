/-! ===== numbers ===== -/
theorem lt31 {k N : Nat} (h : k < N) (hN : N ≤ 100000) : k < 2 ^ 31 := by omega
theorem ix_nI {k : Nat} (h : k < 2 ^ 31) : ix (nI k) = k := nI_clamp h
theorem inb_nI {k len : Nat} (h : k < len) (hl : len ≤ 100000) : inb (nI k) len = true := by
  have h1 : k < 2 ^ 31 := by omega
  simp [inb, ix_nI h1, h, Int32.not_lt.mp (nI_pos h1)]
theorem zck_t {α : Type} {c : Bool} {x : Option α} (h : c = true) : zck c x = x := by subst h; rfl
theorem zck_nI {α : Type} {k len : Nat} {x : Option α} (h : k < len) (hl : len ≤ 100000) : zck (inb (nI k) len) x = x := zck_t (inb_nI h hl)
theorem nI_ne9 {k : Nat} (h : k < 2 ^ 31) : ¬ nI k = -9 := by
  intro q
  have a := nI_toInt h
  rw [q] at a
  have : (-9 : Int32).toInt = -9 := by decide
  omega
theorem nI_100 {k : Nat} (h : k < 100) : ¬ (100 : Int32) ≤ nI k := nI_ge h (by decide)
theorem nI_100' : (100 : Int32) ≤ nI 100 := by decide
theorem nI_sub {a b : Nat} (h : b ≤ a) : nI a - nI b = nI (a - b) := by
  have : nI a = nI (a - b) + nI b := by rw [nI_add]; congr 1; omega
  rw [this, Int32.add_sub_cancel]
/-- a key, or none -/
def oI : Option Nat → Int32
  | none => -9
  | some k => nI k
def isNum (x : Int32) : Prop := 0 ≤ x ∧ x < 100
theorem isNum_nI {k : Nat} (h : k < 100) : isNum (nI k) := ⟨nI_pos' (by omega), nI_lt h (by decide)⟩
theorem isNum_of {x : Int32} (h : isNum x) : ∃ k, k < 100 ∧ x = nI k := by
  obtain ⟨j, hj, rfl⟩ := nI_of (Int32.not_lt.mpr h.1)
  refine ⟨j, ?_, rfl⟩
  have h2 : nI j < nI 100 := h.2
  exact (nI_ltI hj (by decide)).mp h2
theorem num_or (x : Int32) : (∃ k, k < 100 ∧ x = nI k) ∨ ¬ isNum x := by
  by_cases h : isNum x
  · exact Or.inl (isNum_of h)
  · exact Or.inr h
theorem not_num_9 : ¬ isNum (-9) := by unfold isNum; decide
theorem n_isNumber_t {x : Int32} (h : isNum x) : g_X8_isNumber x = some 1 := by
  unfold g_X8_isNumber
  rw [if_neg (Int32.not_lt.mpr h.1), if_neg (Int32.not_le.mpr h.2)]
theorem n_isNumber_f {x : Int32} (h : ¬ isNum x) : g_X8_isNumber x = some 0 := by
  unfold g_X8_isNumber
  by_cases h1 : x < 0
  · rw [if_pos h1]
  · rw [if_neg h1, if_pos]
    by_cases h2 : (100 : Int32) ≤ x
    · exact h2
    · exact absurd ⟨Int32.not_lt.mp h1, Int32.not_le.mp h2⟩ h
theorem n_isNumber {k : Nat} (h : k < 100) : g_X8_isNumber (nI k) = some 1 := n_isNumber_t (isNum_nI h)
theorem n_isNumber9 : g_X8_isNumber (-9) = some 0 := n_isNumber_f not_num_9
theorem pcb_some {α β : Type} (r : α) (f : α → Option β) : pcb (some r) f = f r := rfl
theorem dcb_some {α β : Type} (r : α) (D : DD) (f : α → DD → Option β) : dcb (some (r, D)) f = f r D := rfl
theorem vcb_some {β : Type} (D : DD) (f : DD → Option β) : vcb (some D) f = f D := rfl
theorem dlt_eq {β : Type} (D : DD) (f : DD → Option β) : dlt D f = f D := rfl
theorem one_ne0 : ¬ (1 : Int32) = 0 := by decide
theorem u2_same (D : DD) (a k : Nat) (v : Int32) : u2 D a k v a = upd (D a) k v := by simp [u2, uA]
theorem u2_ne (D : DD) {a b k : Nat} (v : Int32) (h : b ≠ a) : u2 D a k v b = D b := by simp [u2, uA, h]
theorem uA_same (D : DD) (a : Nat) (f : Nat → Int32) : uA D a f a = f := by simp [uA]
theorem uA_ne (D : DD) {a b : Nat} (f : Nat → Int32) (h : b ≠ a) : uA D a f b = D b := by simp [uA, h]
theorem upd_same (f : Nat → Int32) (k : Nat) (v : Int32) : upd f k v k = v := by simp [upd]
theorem upd_ne (f : Nat → Int32) {k j : Nat} (v : Int32) (h : j ≠ k) : upd f k v j = f j := by simp [upd, h]
/-! ===== ranks ===== -/
def rk (k : Nat) : Nat := 4721 * (k + 3) ^ 3 % 10007
theorem rk_inj : ∀ i, i < 100 → ∀ j, j < 100 → rk i = rk j → i = j := by decide +kernel
theorem rk_lt (k : Nat) : rk k < 10007 := Nat.mod_lt _ (by decide)
theorem n_rank8 : ∀ k, k < 100 → g_X8_rankOf (nI k) = some (nI (rk k)) := by decide +kernel
theorem n_rank9 : ∀ k, k < 100 → g_X9_rankOf (nI k) = some (nI (rk k)) := by decide +kernel
theorem n_above8 {i j : Nat} (hi : i < 100) (hj : j < 100) : g_X8_isAbove (nI i) (nI j) = some (if rk j < rk i then 1 else 0) := by
  have r1 := rk_lt i
  have r2 := rk_lt j
  unfold g_X8_isAbove
  rw [n_rank8 i hi, pcb_some, n_rank8 j hj, pcb_some]
  by_cases h : rk i = rk j
  · have := rk_inj i hi j hj h
    subst this
    simp
  · rw [if_neg (fun q => h ((nI_eq (by omega) (by omega)).mp q))]
    by_cases h2 : rk j < rk i
    · rw [if_neg (nI_ge h2 (by omega)), if_pos h2]
    · rw [if_pos (nI_le (by omega) (by omega)), if_neg h2]
theorem above_pure {a b : Nat} {x y : Int32} (ha : a < 10007) (hb : b < 10007) (he : a = b → x = y) : (if nI b < nI a then some (1 : Int32) else if nI a = nI b then (if y ≤ x then some 0 else some 1) else some 0) = some (if b < a then 1 else 0) := by
  by_cases h2 : b < a
  · rw [if_pos (nI_lt h2 (by omega)), if_pos h2]
  · rw [if_neg (nI_nlt (by omega) (by omega)), if_neg h2]
    by_cases h : a = b
    · have := he h
      subst this
      rw [if_pos (by rw [h]), if_pos (Int32.le_refl _)]
    · rw [if_neg (fun q => h ((nI_eq (by omega) (by omega)).mp q))]
theorem isAbove9_of {x y r1 r2 : Int32} (h1 : g_X9_rankOf x = some r1) (h2 : g_X9_rankOf y = some r2) : g_X9_isAbove x y = if r2 < r1 then some (1 : Int32) else if r1 = r2 then (if y ≤ x then some 0 else some 1) else some 0 := by
  unfold g_X9_isAbove
  rw [h1, h2]
  rfl
theorem n_above9 {i j : Nat} (hi : i < 100) (hj : j < 100) : g_X9_isAbove (nI i) (nI j) = some (if rk j < rk i then 1 else 0) :=
  (isAbove9_of (n_rank9 i hi) (n_rank9 j hj)).trans (above_pure (rk_lt i) (rk_lt j) (fun h => by rw [rk_inj i hi j hj h]))
