/-! ===== judge ===== -/
theorem lg_eq (x y : Int64) : (lg_cmp x y = 0) ↔ x = y := by
  constructor
  · intro h
    have h1 : ¬ x < y := fun q => by have := (zlg_lt x y).mpr q; rw [h] at this; exact absurd this (by decide)
    have h2 : ¬ y < x := fun q => by have := (zlg_gt x y).mpr q; rw [h] at this; exact absurd this (by decide)
    exact Int64.le_antisymm (Int64.not_lt.mp h2) (Int64.not_lt.mp h1)
  · intro h
    subst h
    have h1 : ¬ lg_cmp x x < 0 := fun q => absurd ((zlg_lt x x).mp q) Int64.lt_irrefl
    have h2 : ¬ 0 < lg_cmp x x := fun q => absurd ((zlg_gt x x).mp q) Int64.lt_irrefl
    exact Int32.le_antisymm (Int32.not_lt.mp h2) (Int32.not_lt.mp h1)
def lI (a : Nat) : Int64 := Int64.ofNat a
theorem lI_toInt {a : Nat} (h : a < 2 ^ 63) : (lI a).toInt = a := Int64.toInt_ofNat_of_lt h
theorem lI_of {x : Int64} (h : ¬ x < 0) : ∃ a, a < 2 ^ 63 ∧ x = lI a := by
  have h0 : 0 ≤ x.toInt := by
    have := Int64.le_iff_toInt_le.mp (Int64.not_lt.mp h)
    simpa using this
  have hlt := Int64.toInt_lt x
  refine ⟨x.toInt.toNat, by omega, ?_⟩
  apply Int64.toInt_inj.mp
  rw [lI_toInt (by omega)]
  omega
theorem lI_div {a b : Nat} (ha : a < 2 ^ 63) (hb : b < 2 ^ 63) (hb0 : 0 < b) : lI a / lI b = lI (a / b) := by
  apply Int64.toInt_inj.mp
  have hd : a / b ≤ a := Nat.div_le_self a b
  rw [Int64.toInt_div, lI_toInt ha, lI_toInt hb, lI_toInt (by omega), Int.tdiv_eq_ediv_of_nonneg (by omega)]
  rw [show ((a : Int) / (b : Int)) = ((a / b : Nat) : Int) from rfl]
  generalize a / b = c at hd ⊢
  exact Int.bmod_eq_of_le (by omega) (by omega)
theorem lI_rem {a : Nat} (ha : a < 2 ^ 63) : lI a - lI a / (100000 : Int64) * (100000 : Int64) = lI (a % 100000) := by
  rw [show (100000 : Int64) = lI 100000 from rfl, lI_div ha (by decide) (by decide)]
  apply Int64.toInt_inj.mp
  rw [Int64.toInt_sub, Int64.toInt_mul, lI_toInt ha, lI_toInt (by omega), lI_toInt (by decide), lI_toInt (by omega), Int.bmod_eq_of_le (n := ((a / 100000 : Nat) : Int) * ((100000 : Nat) : Int)) (by omega) (by omega), Int.bmod_eq_of_le (by omega) (by omega)]
  omega
theorem lI_32 {a : Nat} (ha : a < 2 ^ 31) : (lI a).toInt32 = nI a := by
  apply Int32.toInt_inj.mp
  rw [Int64.toInt_toInt32, lI_toInt (by omega), nI_toInt ha]
  exact Int.bmod_eq_of_le (by omega) (by omega)
theorem lI_le {a b : Nat} (ha : a < 2 ^ 63) (hb : b < 2 ^ 63) : lI a ≤ lI b ↔ a ≤ b := by
  rw [Int64.le_iff_toInt_le, lI_toInt ha, lI_toInt hb]
  omega
theorem n_without {j a : Nat} (hj : j ≤ 3) (ha : a < 2 ^ 63) : g_X8_withoutLast (nI j) (lI a) = some (lI (a / 100000 ^ j)) := by
  have loop : ∀ (d t n a : Nat), t + d = j → d < n → a < 2 ^ 63 → g_X8_withoutLast_5 n (nI j) (lI a) (nI t) = some (lI (a / 100000 ^ d)) := by
    intro d
    induction d with
    | zero =>
      intro t n a h1 h2 h3
      obtain ⟨n, rfl⟩ : ∃ q, n = q + 1 := ⟨n - 1, by omega⟩
      rw [g_X8_withoutLast_5, if_pos (nI_le (by omega) (by omega)), Nat.pow_zero, Nat.div_one]
    | succ d ih =>
      intro t n a h1 h2 h3
      obtain ⟨n, rfl⟩ : ∃ q, n = q + 1 := ⟨n - 1, by omega⟩
      rw [g_X8_withoutLast_5, if_neg (nI_ge (by omega) (by omega)), nI_1, show (100000 : Int64) = lI 100000 from rfl, lI_div h3 (by decide) (by decide), ih (t + 1) n (a / 100000) (by omega) (by omega) (by have := Nat.div_le_self a 100000; omega), Nat.div_div_eq_div_mul, Nat.pow_succ, Nat.mul_comm]
  exact loop j 0 1000 a (by omega) (by omega) ha
theorem n_hundreds : ∀ j, j < 4 → g_X9_hundredThousands (nI j) = some (lI (100000 ^ j)) := by decide +kernel
theorem p_lt : ∀ j, j < 4 → 100000 ^ j < 2 ^ 63 ∧ 0 < 100000 ^ j := by decide +kernel
theorem CI.tr61 {D D' : DD} {f : Mp} {us : List Mp} {sl : Nat → Option Mp} {xs : List Int32} {tr : Int32} {fm : List Int32} (hC : CI D f us sl xs tr fm) (h : ∀ c, c ≠ 61 → c ≠ 62 → D' c = D c) : CI D' f us sl xs tr fm := hC.keep (fun c hc => h c (by omega) (by omega))
theorem MI.tr82 {E : DD} {f : Mp} {us : List Mp} {sl : Nat → Option Mp} {xs : List Int32} {tr : Int32} {fm : List Int32} (hM : MI E 80 f us sl xs tr fm) (F : Nat → Int32) : MI (uA E 82 F) 80 f us sl xs tr fm := hM.keep (fun c hc => by rw [uA_ne _ _ (by omega)]) (fun j hj => by rw [uA_ne _ _ (by omega)])
def JC (g g' : Mp) (q : Nat) (r : Int32) : Prop := ∀ (n : Nat) (K : Nat → Nat × Nat) (R : Nat → Nat → Option Nat) (D : DD) (f : Mp) (us : List Mp) (sl : Nat → Option Mp) (xs : List Int32) (tr : Int32) (fm : List Int32), Sh n K R → CI D f us sl xs tr fm → Prs D 61 g → ∃ (n' : Nat) (K' : Nat → Nat × Nat) (R' : Nat → Nat → Option Nat) (D' : DD), f_X8_canBe 0 (nI q) ((n, K, R, D) : Mm) = some (r, ((n', K', R', D') : Mm)) ∧ Sh n' K' R' ∧ CI D' f us sl xs tr fm ∧ Prs D' 61 g' ∧ ∀ c, 80 ≤ c → c ≤ 116 → D' c = D c
def JM (g g' : Mp) (q : Nat) (r : Int32) : Prop := ∀ (E : DD) (f : Mp) (us : List Mp) (sl : Nat → Option Mp) (xs : List Int32) (tr : Int32) (fm : List Int32), MI E 80 f us sl xs tr fm → (∀ k, k < 100 → E 82 k = g k) → ∃ E' : DD, g_X9_judged 80 (nI (q / 10000)) (nI (q / 100 % 100)) (nI (q % 100)) E = some (r, E') ∧ MI E' 80 f us sl xs tr fm ∧ (∀ k, k < 100 → E' 82 k = g' k) ∧ ∀ c, c < 80 → E' c = E c
theorem n_trialTree {n : Nat} {K : Nat → Nat × Nat} {R : Nat → Nat → Option Nat} {D : DD} {f g : Mp} {us : List Mp} {sl : Nat → Option Mp} {xs : List Int32} {tr : Int32} {fm : List Int32} (hS : Sh n K R) (hC : CI D f us sl xs tr fm) (hP : Prs D 61 g) : ∃ D1 : DD, f_X8_trialTree 0 ((n, K, R, D) : Mm) = some (63, ((n, K, R, D1) : Mm)) ∧ TI D1 63 g ∧ CI D1 f us sl xs tr fm ∧ Prs D1 61 g ∧ ∀ c, 80 ≤ c → D1 c = D c := by
  have h8 := hS.1
  obtain ⟨D1, g1, g2, g3⟩ := n_regrow (D := D) (t := 63) (p := 61) (f := g) (Or.inl (by omega)) hP.1 hC.2.2.2.2.2.2.1
  refine ⟨D1, ?_, g2, hC.grow63 g3, hP.congr (g3.1 _ (by omega) (by omega) (by omega) (by omega) (by omega)) (g3.1 _ (by omega) (by omega) (by omega) (by omega) (by omega)), fun c hc => g3.1 c (by omega) (by omega) (by omega) (by omega) (by omega)⟩
  unfold f_X8_trialTree
  rw [zck_t (X8_o h8), X8_r6 h8, zrb_some, X8_r5 h8, zrb_some, zck_t (X7_o (X8_s6 h8)), G_X7_grow _ _ _ (X8_s6 h8) (X8_s5 h8), show 0 + 63 = 63 from rfl, show 0 + 61 = 61 from rfl, g1, Option.map_some, zcb_some, zck_t (X8_o h8), X8_r6 h8, zrb_some]
theorem n_judged {g : Mp} {q : Nat} (hq : q < 100000) (hg : OkM g) : ∃ (r : Int32) (g' : Mp), (r = 0 ∨ r = 1) ∧ OkM g' ∧ JC g g' q r ∧ JM g g' q r := by
  have e1 : nI q / (10000 : Int32) = nI (q / 10000) := nI_divI (b := 10000) (by omega) (by decide) (by decide)
  have e2 : nI q / (100 : Int32) = nI (q / 100) := nI_divI (b := 100) (by omega) (by decide) (by decide)
  have e3 : nI (q / 100) - nI (q / 100) / (100 : Int32) * (100 : Int32) = nI (q / 100 % 100) := nI_rem (b := 100) (by omega) (by decide) (by decide)
  have e4 : nI q - nI (q / 100) * (100 : Int32) = nI (q % 100) := by rw [← e2]; exact nI_rem (b := 100) (by omega) (by decide) (by decide)
  have hk : q / 100 % 100 < 100 := Nat.mod_lt _ (by decide)
  have hv : q % 100 < 100 := Nat.mod_lt _ (by decide)
  have hh : q / 10000 < 10 := by omega
  unfold JC JM f_X8_canBe g_X9_judged
  simp only [e1, e2, e3, e4]
  generalize q / 100 % 100 = k at *
  generalize q % 100 = v at *
  generalize q / 10000 = h at *
  have hne : ∀ a, a < 10 → a ≠ h → ¬ nI h = nI a := fun a ha hah z => hah ((nI_eq (by omega) (by omega)).mp z).symm
  have rf : ∀ (n : Nat) (K : Nat → Nat × Nat) (R : Nat → Nat → Option Nat) (D : DD) (f : Mp) (us : List Mp) (sl : Nat → Option Mp) (xs : List Int32) (tr : Int32) (fm : List Int32) (r : Int32), Sh n K R → CI D f us sl xs tr fm → Prs D 61 g → ∃ (n' : Nat) (K' : Nat → Nat × Nat) (R' : Nat → Nat → Option Nat) (D' : DD), some (r, ((n, K, R, D) : Mm)) = some (r, ((n', K', R', D') : Mm)) ∧ Sh n' K' R' ∧ CI D' f us sl xs tr fm ∧ Prs D' 61 g ∧ ∀ c, 80 ≤ c → c ≤ 116 → D' c = D c := fun n K R D f us sl xs tr fm r a b c => ⟨n, K, R, D, rfl, a, b, c, fun _ _ _ => rfl⟩
  have rm : ∀ (E : DD) (f : Mp) (us : List Mp) (sl : Nat → Option Mp) (xs : List Int32) (tr : Int32) (fm : List Int32) (r : Int32), MI E 80 f us sl xs tr fm → (∀ k, k < 100 → E 82 k = g k) → ∃ E' : DD, some (r, E) = some (r, E') ∧ MI E' 80 f us sl xs tr fm ∧ (∀ k, k < 100 → E' 82 k = g k) ∧ ∀ c, c < 80 → E' c = E c := fun E f us sl xs tr fm r a b => ⟨E, rfl, a, b, fun _ _ => rfl⟩
  by_cases h1 : h = 1
  · subst h1
    have a1 : nI 1 = (1 : Int32) := rfl
    by_cases c : g k = -9 ∧ 40 ≤ cn g 0 100
    · refine ⟨0, g, Or.inl rfl, hg, fun n K R D f us sl xs tr fm hS hC hP => ?_, fun E f us sl xs tr fm hM hE => ?_⟩
      · rw [if_pos a1, zck_t (X8_o hS.1), G_X8_tryPut _ _ _ _ hS.1]
        unfold g_X8_tryPut
        rw [show 0 + 61 = 61 from rfl, n_room hP hk, pcb_some, if_pos c, if_pos rfl, Option.map_some, zcb_some, zck_t (show zb (0 : Int32) = true by decide)]
        exact rf n K R D f us sl xs tr fm 0 hS hC hP
      · rw [if_pos a1, n_mayPut (v := 80 + 2) hE hk, pcb_some, if_pos c, if_pos rfl]
        exact rm E f us sl xs tr fm 0 hM hE
    · refine ⟨1, upd g k (nI v), Or.inr rfl, hg.put hk (isNum_nI hv) c, fun n K R D f us sl xs tr fm hS hC hP => ?_, fun E f us sl xs tr fm hM hE => ?_⟩
      · obtain ⟨D1, q1, q2, q3⟩ := n_give hP hk (v := nI v) (nI_ne9 (by omega))
        rw [if_pos a1, zck_t (X8_o hS.1), G_X8_tryPut _ _ _ _ hS.1]
        unfold g_X8_tryPut
        rw [show 0 + 61 = 61 from rfl, n_room hP hk, pcb_some, if_neg c, if_neg one_ne0, q1, vcb_some, Option.map_some, zcb_some, zck_t (show zb (1 : Int32) = true by decide)]
        exact ⟨n, K, R, D1, rfl, hS, hC.tr61 (fun c a b => q3 c a b), q2, fun c a b => q3 c (by omega) (by omega)⟩
      · rw [if_pos a1, n_mayPut (v := 80 + 2) hE hk, pcb_some, if_neg c, if_neg one_ne0, zck_nI hk (by decide), dlt_eq, ix_nI (by omega)]
        refine ⟨_, rfl, hM.tr82 _, fun j hj => ?_, fun c hc => by rw [u2_ne _ _ (by omega)]⟩
        rw [u2_same]
        by_cases e : j = k
        · rw [e, upd_same, upd_same]
        · rw [upd_ne _ _ e, upd_ne _ _ e]; exact hE j hj
  have n1 : ¬ nI h = (1 : Int32) := hne 1 (by omega) (fun q => h1 q.symm)
  simp only [if_neg n1]
  by_cases h2 : h = 2
  · subst h2
    have a2 : nI 2 = (2 : Int32) := rfl
    simp only [if_pos a2]
    by_cases c : v = 0 ∧ g k ≠ -9
    · obtain ⟨c0, c1⟩ := c
      subst c0
      have z0 : nI 0 = (0 : Int32) := nI_0
      refine ⟨1, upd g k (-9), Or.inr rfl, hg.drop hk c1, fun n K R D f us sl xs tr fm hS hC hP => ?_, fun E f us sl xs tr fm hM hE => ?_⟩
      · obtain ⟨D1, q1, q2, q3⟩ := n_drop hP hk c1
        rw [if_pos z0, zck_t (X8_o hS.1), G_X8_tryRemove _ _ _ hS.1]
        unfold g_X8_tryRemove
        rw [show 0 + 61 = 61 from rfl, n_has hk, hP.1 k hk, pcb_some, if_neg c1, if_neg one_ne0, q1, vcb_some, Option.map_some, zcb_some, if_neg one_ne0]
        exact ⟨n, K, R, D1, rfl, hS, hC.tr61 (fun c a b => q3 c a b), q2, fun c a b => q3 c (by omega) (by omega)⟩
      · rw [zck_nI hk (by decide), ix_nI (by omega), show 80 + 2 = 82 from rfl, hE k hk, if_neg c1, if_pos z0, zck_nI hk (by decide), dlt_eq]
        refine ⟨_, rfl, hM.tr82 _, fun j hj => ?_, fun c hc => by rw [u2_ne _ _ (by omega)]⟩
        rw [u2_same]
        by_cases e : j = k
        · rw [e, upd_same, upd_same]
        · rw [upd_ne _ _ e, upd_ne _ _ e]; exact hE j hj
    · refine ⟨0, g, Or.inl rfl, hg, fun n K R D f us sl xs tr fm hS hC hP => ?_, fun E f us sl xs tr fm hM hE => ?_⟩
      · by_cases c0 : nI v = 0
        · have cv : v = 0 := (nI_eq (b := 0) (by omega) (by omega)).mp (by rw [c0]; exact nI_0.symm)
          have c1 : g k = -9 := Classical.byContradiction (fun z => c ⟨cv, z⟩)
          rw [if_pos c0, zck_t (X8_o hS.1), G_X8_tryRemove _ _ _ hS.1]
          unfold g_X8_tryRemove
          rw [show 0 + 61 = 61 from rfl, n_has hk, hP.1 k hk, pcb_some, if_pos c1, if_pos rfl, Option.map_some, zcb_some, if_pos rfl]
          exact rf n K R D f us sl xs tr fm 0 hS hC hP
        · rw [if_neg c0]
          exact rf n K R D f us sl xs tr fm 0 hS hC hP
      · rw [zck_nI hk (by decide), ix_nI (by omega), show 80 + 2 = 82 from rfl, hE k hk]
        by_cases c1 : g k = -9
        · rw [if_pos c1]
          exact rm E f us sl xs tr fm 0 hM hE
        · rw [if_neg c1, if_neg (fun z => c ⟨(nI_eq (b := 0) (by omega) (by omega)).mp (by rw [z]; exact nI_0.symm), c1⟩)]
          exact rm E f us sl xs tr fm 0 hM hE
  have n2 : ¬ nI h = (2 : Int32) := hne 2 (by omega) (fun q => h2 q.symm)
  simp only [if_neg n2]
  by_cases h3 : h = 3
  · subst h3
    have a3 : nI 3 = (3 : Int32) := rfl
    simp only [if_pos a3]
    refine ⟨if g k = nI v then 1 else 0, g, by split <;> simp, hg, fun n K R D f us sl xs tr fm hS hC hP => ?_, fun E f us sl xs tr fm hM hE => ?_⟩
    · have h8 := hS.1
      rw [zck_t (X8_o h8), X8_r5 h8, zrb_some, zck_t (X2_o (X8_s5 h8)), G_X2_has _ _ _ (X8_s5 h8), show 0 + 61 = 61 from rfl, n_has hk, hP.1 k hk, Option.map_some, zcb_some]
      by_cases c1 : g k = -9
      · rw [if_pos c1, if_pos rfl, if_neg (show ¬ g k = nI v from fun z => nI_ne9 (by omega) (z.symm.trans c1))]
        exact rf n K R D f us sl xs tr fm 0 hS hC hP
      · rw [if_neg c1, if_neg one_ne0, zck_t (X8_o h8), X8_r5 h8, zrb_some, zck_t (X2_o (X8_s5 h8)), G_X2_valueOf _ _ _ (X8_s5 h8), show 0 + 61 = 61 from rfl, n_valueOf hk, hP.1 k hk, Option.map_some, zcb_some]
        by_cases c2 : g k = nI v
        · rw [if_pos c2, if_pos c2]
          exact rf n K R D f us sl xs tr fm 1 hS hC hP
        · rw [if_neg c2, if_neg c2]
          exact rf n K R D f us sl xs tr fm 0 hS hC hP
    · rw [zck_nI hk (by decide), ix_nI (by omega), show 80 + 2 = 82 from rfl, hE k hk]
      by_cases c2 : g k = nI v
      · rw [if_pos c2, if_pos c2]
        exact rm E f us sl xs tr fm 1 hM hE
      · rw [if_neg c2, if_neg c2]
        exact rm E f us sl xs tr fm 0 hM hE
  have n3 : ¬ nI h = (3 : Int32) := hne 3 (by omega) (fun q => h3 q.symm)
  simp only [if_neg n3]
  by_cases h4 : h = 4
  · subst h4
    have a4 : nI 4 = (4 : Int32) := rfl
    simp only [if_pos a4]
    refine ⟨if g k ≠ -9 ∧ nI (pl g k).2.2.1 = nI v then 1 else 0, g, by split <;> simp, hg, fun n K R D f us sl xs tr fm hS hC hP => ?_, fun E f us sl xs tr fm hM hE => ?_⟩
    · have h8 := hS.1
      have h117 := hS.2.2
      rw [zck_t (X8_o h8), X8_r5 h8, zrb_some, zck_t (X2_o (X8_s5 h8)), G_X2_has _ _ _ (X8_s5 h8), show 0 + 61 = 61 from rfl, n_has hk, hP.1 k hk, Option.map_some, zcb_some]
      by_cases c1 : g k = -9
      · rw [if_pos c1, if_pos rfl, if_neg (fun z => z.1 c1)]
        exact rf n K R D f us sl xs tr fm 0 hS hC hP
      · obtain ⟨D1, t1, t2, t3, t4, t5⟩ := n_trialTree hS hC hP
        have h63 : isX7 n K R 63 := X8_s6 h8
        rw [if_neg c1, if_neg one_ne0, zck_t (X8_o h8), t1, zcb_some, zck_t (X7_o h63), n_place h63 t2.1 t2.2.1 hk]
        obtain ⟨K', R', D', e1, e2, e3, e4, -, -, -, e8⟩ := n_place84 (n := n) (K := K) (R := R) (D := D1) (nI (pl g k).2.2.1) (oI (pl g k).2.2.2) (nI (pl g k).1) (nI (pl g k).2.1 - 1)
        have hkn : kO ((n + 1, K', R', D') : Mm) n 4 = true := by simp [kO, mN, mK, e3]
        have d0 : mD ((n + 1, K', R', D') : Mm) n 0 = nI (pl g k).2.2.1 := e4
        rw [e1, zcb_some, zck_t hkn, d0]
        have fin : ∀ r : Int32, ∃ (n' : Nat) (K'' : Nat → Nat × Nat) (R'' : Nat → Nat → Option Nat) (D'' : DD), some (r, ((n + 1, K', R', D') : Mm)) = some (r, ((n', K'', R'', D'') : Mm)) ∧ Sh n' K'' R'' ∧ CI D'' f us sl xs tr fm ∧ Prs D'' 61 g ∧ ∀ c, 80 ≤ c → c ≤ 116 → D'' c = D c := fun r => ⟨n + 1, K', R', D', rfl, hS.ext e2, t3.congr (fun c hc => e8 c (by omega)), t4.congr (e8 _ (by omega)) (e8 _ (by omega)), fun c a b => by rw [e8 c (by omega), t5 c a]⟩
        by_cases c2 : nI (pl g k).2.2.1 = nI v
        · rw [if_pos c2, if_pos (show g k ≠ -9 ∧ nI (pl g k).2.2.1 = nI v from ⟨c1, c2⟩)]
          exact fin 1
        · rw [if_neg c2, if_neg (show ¬ (g k ≠ -9 ∧ nI (pl g k).2.2.1 = nI v) from fun z => c2 z.2)]
          exact fin 0
    · obtain ⟨E1, m1, m2, m3⟩ := n_make (m := 80) (v := 82) (lev := 0) (f := g) (Or.inr rfl) (by omega) hE
      rw [nI_0] at m1
      have hM1 := hM.fp m3.P
      have hE1 : ∀ k, k < 100 → E1 82 k = g k := fun k hk => by rw [m3.1 82 (by omega) (by omega)]; exact hE k hk
      rw [show 80 + 2 = 82 from rfl, m1, vcb_some, zck_nI hk (by decide), ix_nI (by omega), hE1 k hk]
      have fin : ∀ r : Int32, ∃ E' : DD, some (r, E1) = some (r, E') ∧ MI E' 80 f us sl xs tr fm ∧ (∀ k, k < 100 → E' 82 k = g k) ∧ ∀ c, c < 80 → E' c = E c := fun r => ⟨E1, rfl, hM1, hE1, fun c hc => m3.1 c (by omega) (by omega)⟩
      by_cases c1 : g k = -9
      · rw [if_pos c1, if_neg (show ¬ (g k ≠ -9 ∧ nI (pl g k).2.2.1 = nI v) from fun z => z.1 c1)]
        exact fin 0
      · have hd := (m2.2 k hk c1).1.2.2.1
        rw [Nat.mul_zero, Nat.zero_add] at hd
        rw [if_neg c1, zck_nI (by omega) (by decide), hd]
        by_cases c2 : nI (pl g k).2.2.1 = nI v
        · rw [if_pos c2, if_pos (show g k ≠ -9 ∧ nI (pl g k).2.2.1 = nI v from ⟨c1, c2⟩)]
          exact fin 1
        · rw [if_neg c2, if_neg (show ¬ (g k ≠ -9 ∧ nI (pl g k).2.2.1 = nI v) from fun z => c2 z.2)]
          exact fin 0
  have n4 : ¬ nI h = (4 : Int32) := hne 4 (by omega) (fun q => h4 q.symm)
  simp only [if_neg n4]
  by_cases h5 : h = 5
  · subst h5
    have a5 : nI 5 = (5 : Int32) := rfl
    simp only [if_pos a5]
    refine ⟨if nI (2 * ar g k 0 100 + 1) = nI v then 1 else 0, g, by split <;> simp, hg, fun n K R D f us sl xs tr fm hS hC hP => ?_, fun E f us sl xs tr fm hM hE => ?_⟩
    · have h8 := hS.1
      obtain ⟨D1, t1, t2, t3, t4, t5⟩ := n_trialTree hS hC hP
      have h63 : isX7 n K R 63 := X8_s6 h8
      rw [zck_t (X8_o h8), t1, zcb_some, zck_t (X7_o h63), G_X7_proofLengthOf _ _ _ h63, n_proofLen t2.1 t2.2.1 hk, Option.map_some, zcb_some]
      have fin : ∀ r : Int32, ∃ (n' : Nat) (K'' : Nat → Nat × Nat) (R'' : Nat → Nat → Option Nat) (D'' : DD), some (r, ((n, K, R, D1) : Mm)) = some (r, ((n', K'', R'', D'') : Mm)) ∧ Sh n' K'' R'' ∧ CI D'' f us sl xs tr fm ∧ Prs D'' 61 g ∧ ∀ c, 80 ≤ c → c ≤ 116 → D'' c = D c := fun r => ⟨n, K, R, D1, rfl, hS, t3, t4, fun c a _ => t5 c a⟩
      by_cases c2 : nI (2 * ar g k 0 100 + 1) = nI v
      · rw [if_pos c2, if_pos c2]; exact fin 1
      · rw [if_neg c2, if_neg c2]; exact fin 0
    · obtain ⟨E1, p1, p2, p3⟩ := n_prove (m := 80) (v := 82) (a := k) (b := k) (Or.inr rfl) (Nat.le_refl _) hk hE (by have := hg.2; omega)
      have hE1 : ∀ k, k < 100 → E1 82 k = g k := fun k hk => by rw [p3.1 82 (by omega) (by omega)]; exact hE k hk
      rw [show 80 + 2 = 82 from rfl, p1, vcb_some, p2.1, pf_x hk]
      have fin : ∀ r : Int32, ∃ E' : DD, some (r, E1) = some (r, E') ∧ MI E' 80 f us sl xs tr fm ∧ (∀ k, k < 100 → E' 82 k = g k) ∧ ∀ c, c < 80 → E' c = E c := fun r => ⟨E1, rfl, hM.fp p3, hE1, fun c hc => p3.1 c (by omega) (by omega)⟩
      by_cases c2 : nI (2 * ar g k 0 100 + 1) = nI v
      · rw [if_pos c2, if_pos c2]; exact fin 1
      · rw [if_neg c2, if_neg c2]; exact fin 0
  have n5 : ¬ nI h = (5 : Int32) := hne 5 (by omega) (fun q => h5 q.symm)
  simp only [if_neg n5]
  exact ⟨0, g, Or.inl rfl, hg, fun n K R D f us sl xs tr fm hS hC hP => rf n K R D f us sl xs tr fm 0 hS hC hP, fun E f us sl xs tr fm hM hE => rm E f us sl xs tr fm 0 hM hE⟩
theorem n_judgeLoop {N ρ : Nat} (hN : N ≤ 3) (hρ : ρ < 2 ^ 63) : ∀ (d k : Nat) (g : Mp), k + d = N → OkM g → ∃ r : Int32,
    (∀ (fu n : Nat) (K : Nat → Nat × Nat) (R : Nat → Nat → Option Nat) (D : DD) (f : Mp) (us : List Mp) (sl : Nat → Option Mp) (xs : List Int32) (tr : Int32) (fm : List Int32), d < fu → Sh n K R → CI D f us sl xs tr fm → Prs D 61 g → ∃ (n' : Nat) (K' : Nat → Nat × Nat) (R' : Nat → Nat → Option Nat) (D' : DD), f_X8_judge_43 fu 0 (nI N) (lI ρ) (nI k) ((n, K, R, D) : Mm) = some (r, ((n', K', R', D') : Mm)) ∧ Sh n' K' R' ∧ CI D' f us sl xs tr fm ∧ ∀ c, 80 ≤ c → c ≤ 116 → D' c = D c) ∧
    (∀ (fu : Nat) (E : DD) (f : Mp) (us : List Mp) (sl : Nat → Option Mp) (xs : List Int32) (tr : Int32) (fm : List Int32), d < fu → MI E 80 f us sl xs tr fm → (∀ k, k < 100 → E 82 k = g k) → ∃ E' : DD, g_X9_judge_62 fu 80 (nI N) (lI ρ) (nI k) E = some (r, E') ∧ MI E' 80 f us sl xs tr fm ∧ ∀ c, c < 80 → E' c = E c) := by
  intro d
  induction d with
  | zero =>
    intro k g h1 hg
    refine ⟨-9, fun fu n K R D f us sl xs tr fm hfu hS hC hP => ?_, fun fu E f us sl xs tr fm hfu hM hE => ?_⟩
    · obtain ⟨fu, rfl⟩ : ∃ q, fu = q + 1 := ⟨fu - 1, by omega⟩
      rw [f_X8_judge_43, if_pos (nI_le (by omega) (by omega))]
      exact ⟨n, K, R, D, rfl, hS, hC, fun _ _ _ => rfl⟩
    · obtain ⟨fu, rfl⟩ : ∃ q, fu = q + 1 := ⟨fu - 1, by omega⟩
      rw [g_X9_judge_62, if_pos (nI_le (by omega) (by omega))]
      exact ⟨E, rfl, hM, fun _ _ => rfl⟩
  | succ d ih =>
    intro k g h1 hg
    have ei : nI N - (1 : Int32) - nI k = nI d := by
      obtain ⟨M, rfl⟩ : ∃ M, N = M + 1 := ⟨N - 1, by omega⟩
      rw [nI_pred, nI_sub (by omega), show M - k = d by omega]
    obtain ⟨q, hq⟩ : ∃ q, ρ / 100000 ^ d % 100000 = q := ⟨_, rfl⟩
    have hq5 : q < 100000 := by rw [← hq]; exact Nat.mod_lt _ (by decide)
    have hdv : ρ / 100000 ^ d < 2 ^ 63 := by have := Nat.div_le_self ρ (100000 ^ d); omega
    have hw : g_X8_withoutLast (nI d) (lI ρ) = some (lI (ρ / 100000 ^ d)) := n_without (by omega) hρ
    have h32 : (lI (ρ / 100000 ^ d) - lI (ρ / 100000 ^ d) / (100000 : Int64) * (100000 : Int64)).toInt32 = nI q := by rw [lI_rem hdv, hq, lI_32 (by omega)]
    have hp := p_lt d (by omega)
    have hv : lI ρ / lI (100000 ^ d) = lI (ρ / 100000 ^ d) := lI_div hρ hp.1 hp.2
    have hne : ¬ lI (100000 ^ d) = 0 := by
      intro z
      have := congrArg Int64.toInt z
      rw [lI_toInt hp.1] at this
      have h0 : (0 : Int64).toInt = 0 := by decide
      omega
    have e1 : nI q / (10000 : Int32) = nI (q / 10000) := nI_divI (b := 10000) (by omega) (by decide) (by decide)
    have e2 : nI q / (100 : Int32) = nI (q / 100) := nI_divI (b := 100) (by omega) (by decide) (by decide)
    have e3 : nI (q / 100) - nI (q / 100) / (100 : Int32) * (100 : Int32) = nI (q / 100 % 100) := nI_rem (b := 100) (by omega) (by decide) (by decide)
    have e4 : nI q - nI (q / 100) * (100 : Int32) = nI (q % 100) := by rw [← e2]; exact nI_rem (b := 100) (by omega) (by decide) (by decide)
    obtain ⟨r0, g', hr0, hg', jc, jm⟩ := n_judged hq5 hg
    have cls : ∀ (fu n : Nat) (K : Nat → Nat × Nat) (R : Nat → Nat → Option Nat) (D : DD), Sh n K R → f_X8_judge_43 (fu + 1) 0 (nI N) (lI ρ) (nI k) ((n, K, R, D) : Mm) = zcb (f_X8_canBe 0 (nI q) ((n, K, R, D) : Mm)) (fun r5 σ6 => if r5 = 0 then (some (nI k, σ6)) else (f_X8_judge_43 fu 0 (nI N) (lI ρ) (nI (k + 1)) σ6)) := by
      intro fu n K R D hS
      rw [f_X8_judge_43, if_neg (nI_ge (by omega) (by omega)), ei, G_X8_withoutLast, hw, Option.map_some, zcb_some, zck_t (X8_o hS.1), h32, nI_1]
    have mdl : ∀ (fu : Nat) (E : DD), g_X9_judge_62 (fu + 1) 80 (nI N) (lI ρ) (nI k) E = dcb (g_X9_judged 80 (nI (q / 10000)) (nI (q / 100 % 100)) (nI (q % 100)) E) (fun r3 D4 => if r3 = 0 then (some (nI k, D4)) else (g_X9_judge_62 fu 80 (nI N) (lI ρ) (nI (k + 1)) D4)) := by
      intro fu E
      rw [g_X9_judge_62, if_neg (nI_ge (by omega) (by omega)), ei, n_hundreds d (by omega), pcb_some, zck_t (by simpa using hne), hv, h32, e1, e2, e3, e4, nI_1]
    rcases hr0 with rfl | rfl
    · refine ⟨nI k, fun fu n K R D f us sl xs tr fm hfu hS hC hP => ?_, fun fu E f us sl xs tr fm hfu hM hE => ?_⟩
      · obtain ⟨fu, rfl⟩ : ∃ q, fu = q + 1 := ⟨fu - 1, by omega⟩
        obtain ⟨n', K', R', D', a1, a2, a3, a4, a5⟩ := jc n K R D f us sl xs tr fm hS hC hP
        rw [cls fu n K R D hS, a1, zcb_some, if_pos rfl]
        exact ⟨n', K', R', D', rfl, a2, a3, a5⟩
      · obtain ⟨fu, rfl⟩ : ∃ q, fu = q + 1 := ⟨fu - 1, by omega⟩
        obtain ⟨E', a1, a2, a3, a4⟩ := jm E f us sl xs tr fm hM hE
        rw [mdl fu E, a1, dcb_some, if_pos rfl]
        exact ⟨E', rfl, a2, a4⟩
    · obtain ⟨r, ic, im⟩ := ih (k + 1) g' (by omega) hg'
      refine ⟨r, fun fu n K R D f us sl xs tr fm hfu hS hC hP => ?_, fun fu E f us sl xs tr fm hfu hM hE => ?_⟩
      · obtain ⟨fu, rfl⟩ : ∃ q, fu = q + 1 := ⟨fu - 1, by omega⟩
        obtain ⟨n', K', R', D', a1, a2, a3, a4, a5⟩ := jc n K R D f us sl xs tr fm hS hC hP
        obtain ⟨n'', K'', R'', D'', b1, b2, b3, b4⟩ := ic fu n' K' R' D' f us sl xs tr fm (by omega) a2 a3 a4
        rw [cls fu n K R D hS, a1, zcb_some, if_neg one_ne0]
        exact ⟨n'', K'', R'', D'', b1, b2, b3, fun c c1 c2 => by rw [b4 c c1 c2, a5 c c1 c2]⟩
      · obtain ⟨fu, rfl⟩ : ∃ q, fu = q + 1 := ⟨fu - 1, by omega⟩
        obtain ⟨E', a1, a2, a3, a4⟩ := jm E f us sl xs tr fm hM hE
        obtain ⟨E'', b1, b2, b3⟩ := im fu E' f us sl xs tr fm (by omega) a2 a3
        rw [mdl fu E, a1, dcb_some, if_neg one_ne0]
        exact ⟨E'', b1, b2, fun c hc => by rw [b3 c hc, a4 c hc]⟩
theorem ok_judge (x : Int32) (z : Int64) : OpOk (f_X8_judge 0 x z) (f_X9_judge 80 x z) := by
  rintro σ ⟨n, K, R, D, rfl, hS, hD⟩
  obtain ⟨f, us, sl, xs, tr, fm, hC, hM, hA⟩ := id hD
  have h8 := hS.1
  have good : Good ((n, K, R, D) : Mm) := ⟨n, K, R, D, rfl, hS, hD⟩
  have i1 : (1 : Int64) = (1 : Int32).toInt64 := rfl
  have i3 : (3 : Int64) = (3 : Int32).toInt64 := rfl
  have bad : ∀ Y : Option (Int32 × Mm), Y = some (-2, ((n, K, R, D) : Mm)) → g_X9_judge 80 x z D = some (-2, D) → ∃ (r : Int32) (σ1 σ2 : Mm), Y = some (r, σ1) ∧ kO σ1 80 9 = true ∧ f_X9_judge 80 x z σ1 = some (r, σ2) ∧ Good σ2 := by
    intro Y hY hm
    exact ⟨-2, _, (n, K, R, D), hY, X9_o hS.2.1, by rw [G_X9_judge _ _ _ _ hS.2.1, hm]; rfl, good⟩
  unfold f_X8_judge
  by_cases c1 : x < 1
  · rw [if_pos c1]
    refine bad _ rfl ?_
    unfold g_X9_judge
    rw [i1, i3, n_in32, if_neg (fun q => absurd q.1 (Int32.not_le.mpr c1)), pcb_some, if_pos rfl]
  rw [if_neg c1]
  by_cases c2 : 3 < x
  · rw [if_pos c2]
    refine bad _ rfl ?_
    unfold g_X9_judge
    rw [i1, i3, n_in32, if_neg (fun q => absurd q.2 (Int32.not_le.mpr c2)), pcb_some, if_pos rfl]
  rw [if_neg c2]
  have hin : g_X9_in x.toInt64 1 3 = some 1 := by
    rw [i1, i3, n_in32, if_pos ⟨Int32.not_lt.mp c1, Int32.not_lt.mp c2⟩]
  obtain ⟨N, hN4, rfl⟩ : ∃ N, N < 4 ∧ x = nI N := by
    rcases place_or (L := 4) (by omega) x with q | q
    · exact q
    · exfalso
      rcases q with q | q
      · exact c1 (Int32.lt_of_lt_of_le q (by decide))
      · exact absurd (Int32.le_trans q (Int32.not_lt.mp c2)) (by decide)
  have hp := p_lt N hN4
  have hpp : lI (100000 ^ N) - 1 = lI (100000 ^ N - 1) := by
    apply Int64.toInt_inj.mp
    have h1 : (1 : Int64).toInt = 1 := by decide
    rw [Int64.toInt_sub, lI_toInt hp.1, lI_toInt (by omega), h1]
    obtain ⟨P, hP⟩ : ∃ P, 100000 ^ N = P := ⟨_, rfl⟩
    rw [hP] at hp ⊢
    rw [Int.bmod_eq_of_le (by omega) (by omega)]
    omega
  by_cases c3 : lg_cmp z 0 < 0
  · rw [if_pos c3]
    refine bad _ rfl ?_
    unfold g_X9_judge
    rw [hin, pcb_some, if_neg one_ne0, n_hundreds N hN4, pcb_some, n_in, if_neg (fun q => absurd q.1 (Int64.not_le.mpr ((zlg_lt z 0).mp c3))), pcb_some, if_pos rfl]
  rw [if_neg c3]
  obtain ⟨ρ, hρ, rfl⟩ := lI_of (fun q => c3 ((zlg_lt z 0).mpr q))
  have hdl := Nat.div_le_self ρ (100000 ^ N)
  rw [G_X8_withoutLast, n_without (by omega) hρ, Option.map_some, zcb_some]
  have l0 : (0 : Int64) = lI 0 := rfl
  by_cases c4 : ρ < 100000 ^ N
  · have hz : lI (ρ / 100000 ^ N) = 0 := by rw [Nat.div_eq_of_lt c4]; rfl
    rw [if_pos ((lg_eq _ _).mpr hz), zck_t (X8_o h8), X8_r5 h8, zrb_some, X8_r0 h8, zrb_some, zck_t (X2_o (X8_s5 h8)), G_X2_become _ _ _ (X8_s5 h8) (X8_s0 h8), show 0 + 61 = 61 from rfl, show 0 + 1 = 1 from rfl]
    obtain ⟨D1, q1, q2, q3⟩ := n_become (p := 61) (q := 1) (Or.inr (by omega)) hC.1
    rw [q1, Option.map_some, zcb_some]
    obtain ⟨r, ic, im⟩ := n_judgeLoop (N := N) (by omega) hρ N 0 f (by omega) hA.1
    obtain ⟨n', K', R', D', a1, a2, a3, a4⟩ := ic 4 n K R D1 f us sl xs tr fm (by omega) hS (hC.tr61 q3) q2
    rw [nI_0] at a1
    have a1' : f_X8_judge_43 4 0 (nI N) (lI ρ) 0 (lV n K R D1).2 = _ := a1
    have hM' : MI D' 80 f us sl xs tr fm := hM.congr (fun c c1 c2 => by rw [a4 c c1 c2, q3 c (by omega) (by omega)])
    have copy : ∀ (d k fu : Nat) (F : Nat → Int32), k + d = 100 → d < fu → (∀ j, j < k → F j = f j) → ∃ G : Nat → Int32, g_X9_judge_32 fu 80 (nI N) (lI ρ) (nI k) (uA D' 82 F) = g_X9_judge_62 1000 80 (nI N) (lI ρ) 0 (uA D' 82 G) ∧ ∀ j, j < 100 → G j = f j := by
      intro d
      induction d with
      | zero =>
        intro k fu F h1 h2 h3
        obtain ⟨fu, rfl⟩ : ∃ q, fu = q + 1 := ⟨fu - 1, by omega⟩
        have hk : k = 100 := by omega
        subst hk
        rw [g_X9_judge_32, if_pos nI_100']
        exact ⟨F, rfl, h3⟩
      | succ d ih =>
        intro k fu F h1 h2 h3
        obtain ⟨fu, rfl⟩ : ∃ q, fu = q + 1 := ⟨fu - 1, by omega⟩
        have hk : k < 100 := by omega
        rw [g_X9_judge_32, if_neg (nI_100 hk), zck_nI hk (by decide), zck_nI hk (by decide), dlt_eq, ix_nI (by omega), nI_1, show 80 + 2 = 82 from rfl, show 80 + 1 = 81 from rfl, uA_ne _ _ (by omega), hM'.1 k hk, u2_uA]
        exact ih (k + 1) fu (upd F k (f k)) (by omega) (by omega) (fun j hj => by
          by_cases e : j = k
          · rw [e, upd_same]
          · rw [upd_ne _ _ e]; exact h3 j (by omega))
    obtain ⟨G, b1, b2⟩ := copy 100 0 1000 (D' 82) (by omega) (by omega) (fun j hj => by omega)
    rw [uA_self, nI_0] at b1
    obtain ⟨E', d1, d2, d3⟩ := im 1000 (uA D' 82 G) f us sl xs tr fm (by omega) (hM'.tr82 G) (fun k hk => by rw [uA_same]; exact b2 k hk)
    rw [nI_0] at d1
    refine ⟨r, _, (n', K', R', E'), a1', X9_o a2.2.1, ?_, n', K', R', E', rfl, a2, f, us, sl, xs, tr, fm, a3.congr (fun c hc => by rw [d3 c hc, uA_ne _ _ (by omega)]), d2, hA⟩
    rw [G_X9_judge _ _ _ _ a2.2.1]
    unfold g_X9_judge
    rw [hin, pcb_some, if_neg one_ne0, n_hundreds N hN4, pcb_some, hpp, n_in, if_pos ⟨by rw [l0, lI_le (by decide) hρ]; omega, by rw [lI_le hρ (by omega)]; omega⟩, pcb_some, if_neg one_ne0, b1, d1]
    rfl
  · have hz : ¬ lg_cmp (lI (ρ / 100000 ^ N)) 0 = 0 := by
      intro q
      have h1 := congrArg Int64.toInt ((lg_eq _ _).mp q)
      rw [lI_toInt (by omega)] at h1
      have h0 : (0 : Int64).toInt = 0 := by decide
      have h2 : 0 < ρ / 100000 ^ N := Nat.div_pos (by omega) hp.2
      omega
    rw [if_neg hz]
    refine bad _ rfl ?_
    unfold g_X9_judge
    rw [hin, pcb_some, if_neg one_ne0, n_hundreds N hN4, pcb_some, hpp, n_in, if_neg (fun q => by have := (lI_le hρ (by omega)).mp q.2; omega), pcb_some, if_pos rfl]
