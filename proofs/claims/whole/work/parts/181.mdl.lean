/-! ===== the reference's state ===== -/
def MU (D : DD) (m nx : Nat) (us : List Mp) : Prop := D m 4 = nI nx ∧ nx < 14 ∧ D m 3 = nI us.length ∧ us.length ≤ 14 ∧ ∀ (j : Nat) (g : Mp), us[j]? = some g → ∀ k, k < 100 → D (m + 3) (100 * ((nx + 14 - us.length + j) % 14) + k) = g k
def MS (D : DD) (m : Nat) (sl : Nat → Option Mp) : Prop := ∀ j, j < 2 → (sl j = none ∧ D (m + 5) j = 0) ∨ ∃ g, sl j = some g ∧ D (m + 5) j = 1 ∧ ∀ k, k < 100 → D (m + 4) (100 * j + k) = g k
def MI (D : DD) (m : Nat) (f : Mp) (us : List Mp) (sl : Nat → Option Mp) (xs : List Int32) (tr : Int32) (fm : List Int32) : Prop := (∀ k, k < 100 → D (m + 1) k = f k) ∧ (∃ nx, MU D m nx us) ∧ MS D m sl ∧ Row D m xs ∧ TruM D m tr fm
theorem uA_self (D : DD) (a : Nat) : uA D a (D a) = D := by
  funext b
  by_cases hb : b = a
  · rw [hb, uA_same]
  · rw [uA_ne _ _ hb]
theorem uA_u2 (D : DD) (a k : Nat) (v : Int32) (f : Nat → Int32) : uA (u2 D a k v) a f = uA D a f := by
  funext b
  by_cases hb : b = a
  · rw [hb, uA_same, uA_same]
  · rw [uA_ne _ _ hb, uA_ne _ _ hb, u2_ne _ _ hb]
theorem c100 (nx k : Nat) : ((100 : Int32) * nI nx) + nI k = nI (100 * nx + k) := by
  rw [show (100 : Int32) = nI 100 from rfl, nI_mul, nI_add]
theorem n_noteLoop {m nx : Nat} (hnx : nx < 14) : ∀ (d k n : Nat) (D : DD), k + d = 100 → d < n → D m 4 = nI nx → ∃ F : Nat → Int32, g_X9_note_2 n m (nI k) D = dlt (u2 (uA D (m + 3) F) m 4 (nI ((nx + 1) % 14))) (fun D2 => if (14 : Int32) ≤ (D2 m 3) then (g_X9_note_68 m (14 : Int32) D2) else (g_X9_note_68 m ((D2 m 3) + (1 : Int32)) D2)) ∧ (∀ j, k ≤ j → j < 100 → F (100 * nx + j) = D (m + 1) j) ∧ ∀ i, (i < 100 * nx + k ∨ 100 * nx + 100 ≤ i) → F i = D (m + 3) i := by
  intro d
  induction d with
  | zero =>
    intro k n D h1 h2 h4
    obtain ⟨n, rfl⟩ : ∃ q, n = q + 1 := ⟨n - 1, by omega⟩
    have hk : k = 100 := by omega
    subst hk
    refine ⟨D (m + 3), ?_, fun j a b => by omega, fun i _ => rfl⟩
    rw [g_X9_note_2, if_pos nI_100', uA_self, h4, nI_1, show (14 : Int32) = nI 14 from rfl, nI_rem (by omega) (by decide) (by decide)]
  | succ d ih =>
    intro k n D h1 h2 h4
    obtain ⟨n, rfl⟩ : ∃ q, n = q + 1 := ⟨n - 1, by omega⟩
    have hk : k < 100 := by omega
    rw [g_X9_note_2, if_neg (nI_100 hk), zck_nI hk (by decide), h4, c100, zck_nI (by omega) (by decide), dlt_eq, ix_nI (by omega), ix_nI (by omega), nI_1]
    obtain ⟨F, e1, e2, e3⟩ := ih (k + 1) n (u2 D (m + 3) (100 * nx + k) (D (m + 1) k)) (by omega) (by omega) (by rw [u2_ne _ _ (by omega)]; exact h4)
    refine ⟨F, by rw [e1, uA_u2], fun j a b => ?_, fun i hi => ?_⟩
    · by_cases hj : j = k
      · subst hj
        rw [e3 _ (by omega), u2_same, upd_same]
      · rw [e2 j (by omega) b, u2_ne _ _ (by omega)]
    · rw [e3 i (by omega), u2_same, upd_ne _ _ (by omega)]
theorem n_note9 {m nx : Nat} {us : List Mp} {f : Mp} {D : DD} (hf : ∀ k, k < 100 → D (m + 1) k = f k) (hu : MU D m nx us) : ∃ D' : DD, g_X9_note m D = some D' ∧ (∃ nx', MU D' m nx' (pushU us f)) ∧ (∀ c, c ≠ m → c ≠ m + 3 → D' c = D c) ∧ ∀ j, j ≠ 3 → j ≠ 4 → D' m j = D m j := by
  obtain ⟨h1, h2, h3, h4, h5⟩ := hu
  obtain ⟨F, e1, e2, e3⟩ := n_noteLoop h2 100 0 1000 D (by omega) (by omega) h1
  unfold g_X9_note
  rw [show (0 : Int32) = nI 0 from nI_0.symm, e1, dlt_eq]
  generalize hE : u2 (uA D (m + 3) F) m 4 (nI ((nx + 1) % 14)) = E
  have em3 : E m 3 = nI us.length := by rw [← hE, u2_same, upd_ne _ _ (by omega), uA_ne _ _ (by omega)]; exact h3
  have em4 : E m 4 = nI ((nx + 1) % 14) := by rw [← hE, u2_same, upd_same]
  have e83 : E (m + 3) = F := by rw [← hE, u2_ne _ _ (by omega), uA_same]
  have eo : ∀ c, c ≠ m → c ≠ m + 3 → E c = D c := fun c c1 c2 => by rw [← hE, u2_ne _ _ c1, uA_ne _ _ c2]
  have em : ∀ j, j ≠ 4 → E m j = D m j := fun j hj => by rw [← hE, u2_same, upd_ne _ _ hj, uA_ne _ _ (by omega)]
  have hpl := pushU_len us f h4
  have fin : ∀ v : Int32, v = nI (pushU us f).length → ∃ D' : DD, g_X9_note_68 m v E = some D' ∧ (∃ nx', MU D' m nx' (pushU us f)) ∧ (∀ c, c ≠ m → c ≠ m + 3 → D' c = D c) ∧ ∀ j, j ≠ 3 → j ≠ 4 → D' m j = D m j := by
    intro v hv
    unfold g_X9_note_68
    rw [dlt_eq]
    refine ⟨_, rfl, ⟨(nx + 1) % 14, by rw [u2_same, upd_ne _ _ (by omega)]; exact em4, by omega, by rw [u2_same, upd_same]; exact hv, by rw [hpl]; split <;> omega, fun j g hj k hk => ?_⟩, fun c c1 c2 => by rw [u2_ne _ _ c1]; exact eo c c1 c2, fun j j1 j2 => by rw [u2_same, upd_ne _ _ j1]; exact em j j2⟩
    rw [u2_ne _ _ (by omega), e83]
    have hjl : j < (pushU us f).length := (List.getElem?_eq_some_iff.mp hj).1
    by_cases e : us.length = 14
    · rw [hpl, if_pos e] at hjl ⊢
      unfold pushU at hj
      rw [if_pos e] at hj
      by_cases hj13 : j = 13
      · subst hj13
        have hg : g = f := by
          rw [List.getElem?_append_right (by simp; omega)] at hj
          simp [e] at hj
          exact hj.symm
        subst hg
        rw [show ((nx + 1) % 14 + 14 - 14 + 13) % 14 = nx by omega, e2 k (by omega) hk]
        exact hf k hk
      · rw [List.getElem?_append_left (by simp; omega)] at hj
        have hj' : us[j + 1]? = some g := by
          cases us with
          | nil => simp at e
          | cons a l => simpa using hj
        rw [show ((nx + 1) % 14 + 14 - 14 + j) % 14 = (nx + 14 - us.length + (j + 1)) % 14 by omega, e3 _ (by omega)]
        exact h5 (j + 1) g hj' k hk
    · rw [hpl, if_neg e] at hjl ⊢
      unfold pushU at hj
      rw [if_neg e] at hj
      by_cases hjn : j = us.length
      · subst hjn
        have hg : g = f := by simpa using hj.symm
        subst hg
        rw [show ((nx + 1) % 14 + 14 - (us.length + 1) + us.length) % 14 = nx by omega, e2 k (by omega) hk]
        exact hf k hk
      · rw [List.getElem?_append_left (by omega)] at hj
        rw [show ((nx + 1) % 14 + 14 - (us.length + 1) + j) % 14 = (nx + 14 - us.length + j) % 14 by omega, e3 _ (by omega)]
        exact h5 j g hj k hk
  rw [em3]
  by_cases e : us.length = 14
  · rw [e, if_pos (show (14 : Int32) ≤ nI 14 from Int32.le_refl _)]
    exact fin 14 (by rw [hpl, if_pos e]; rfl)
  · rw [if_neg (show ¬ (14 : Int32) ≤ nI us.length from nI_ge (b := 14) (by omega) (by decide))]
    exact fin _ (by rw [hpl, if_neg e, nI_1])
theorem n_many {v : Nat} {f : Mp} {D : DD} (hf : ∀ k, k < 100 → D v k = f k) : g_X9_manyOf v D = some (nI (cn f 0 100)) := by
  have loop : ∀ (d k n : Nat), k + d = 100 → d < n → g_X9_manyOf_4 n v (nI (cnF f 0 k)) (nI k) D = some (nI (cn f 0 100)) := by
    intro d
    induction d with
    | zero =>
      intro k n h1 h2
      obtain ⟨n, rfl⟩ : ∃ q, n = q + 1 := ⟨n - 1, by omega⟩
      have hk : k = 100 := by omega
      subst hk
      rw [g_X9_manyOf_4, if_pos nI_100']
      rfl
    | succ d ih =>
      intro k n h1 h2
      obtain ⟨n, rfl⟩ : ∃ q, n = q + 1 := ⟨n - 1, by omega⟩
      have hk : k < 100 := by omega
      have key := ih (k + 1) n (by omega) (by omega)
      rw [cnF, Nat.zero_add] at key
      rw [g_X9_manyOf_4, if_neg (nI_100 hk), zck_nI hk (by decide), ix_nI (by omega), hf k hk]
      unfold g_X9_manyOf_24
      rw [nI_1]
      by_cases e : f k = -9
      · rw [if_pos e] at key ⊢
        rw [show (0 : Int32) = nI 0 from nI_0.symm, nI_add]
        exact key
      · rw [if_neg e] at key ⊢
        rw [show (1 : Int32) = nI 1 from rfl, nI_add]
        exact key
  have := loop 100 0 1000 (by omega) (by omega)
  exact this
theorem n_mayPut {v k : Nat} {f : Mp} {D : DD} (hf : ∀ k, k < 100 → D v k = f k) (hk : k < 100) : g_X9_mayPut v (nI k) D = some (if f k = -9 ∧ 40 ≤ cn f 0 100 then 0 else 1) := by
  have hcn := cn_le f 0 100
  unfold g_X9_mayPut
  rw [zck_nI hk (by decide), ix_nI (by omega), hf k hk]
  by_cases e : f k = -9
  · rw [if_pos e, n_many hf, pcb_some]
    by_cases e2 : 40 ≤ cn f 0 100
    · rw [if_pos (show (40 : Int32) ≤ nI _ from nI_le (a := 40) e2 (by omega)), if_pos ⟨e, e2⟩]
    · rw [if_neg (show ¬ (40 : Int32) ≤ nI _ from nI_ge (b := 40) (by omega) (by decide)), if_neg (fun q => e2 q.2)]
  · rw [if_neg e, if_neg (fun q => e q.1)]
theorem n_isNumber9t {k : Nat} (h : k < 100) : g_X9_isNumber (nI k) = some 1 := by
  unfold g_X9_isNumber
  rw [show (0 : Int64) = (0 : Int32).toInt64 from rfl, show (99 : Int64) = (99 : Int32).toInt64 from rfl, n_in32, if_pos ⟨nI_pos' (by omega), show nI k ≤ nI 99 from nI_le (by omega) (by decide)⟩]
  rfl
theorem n_isNumber9f {x : Int32} (h : ¬ isNum x) : g_X9_isNumber x = some 0 := by
  unfold g_X9_isNumber
  rw [show (0 : Int64) = (0 : Int32).toInt64 from rfl, show (99 : Int64) = (99 : Int32).toInt64 from rfl, n_in32, if_neg (fun q => h ⟨q.1, ?_⟩)]
  · rfl
  · have h1 := Int32.le_iff_toInt_le.mp q.2
    have h2 : (99 : Int32).toInt = 99 := by decide
    rw [Int32.lt_iff_toInt_lt]
    have h3 : (100 : Int32).toInt = 100 := by decide
    omega
