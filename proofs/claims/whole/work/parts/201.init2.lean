/-! ===== the constructors of class and reference ===== -/
theorem X8_loop {v : Nat} : ∀ (d i n : Nat) (t : Mm), i + d = 2 → d < n → kO t v 8 = true → mR t v 4 = some (v + 60) → mN t = v + 74 + 3 * i → mK t (v + 60) = (4, 2) → (∀ j, j < i → (mR t (v + 60) j = some (v + 74 + 3 * j) ∧ isX6 (mN t) (mK t) (mR t) (v + 74 + 3 * j)) ∧ DX6 (mD t) (v + 74 + 3 * j)) → Ends (f_X8_init_91 n v (nI i) t) (fun s => Pt (v + 60) t s ∧ mN s = v + 80 ∧ ∀ j, j < 2 → (mR s (v + 60) j = some (v + 74 + 3 * j) ∧ isX6 (mN s) (mK s) (mR s) (v + 74 + 3 * j)) ∧ DX6 (mD s) (v + 74 + 3 * j)) := by
  intro d
  induction d with
  | zero =>
    intro i n t h1 h2 hk hr hn hK hA
    obtain ⟨n, rfl⟩ : ∃ q, n = q + 1 := ⟨n - 1, by omega⟩
    have hi : i = 2 := by omega
    subst hi
    rw [f_X8_init_91, if_pos (show (2 : Int32) ≤ nI 2 from Int32.le_refl _)]
    exact ⟨t, rfl, Pt.rf _ _, by omega, hA⟩
  | succ d ih =>
    intro i n t h1 h2 hk hr hn hK hA
    obtain ⟨n, rfl⟩ : ∃ q, n = q + 1 := ⟨n - 1, by omega⟩
    have hi : i < 2 := by omega
    obtain ⟨s, e1, hx, e3, e4, e5⟩ := I_X6 t _ rfl
    have hv := (kO_iff.mp hk).1
    have hks : mK s (v + 60) = (4, 2) := (hx.2 (v + 60) (by omega)).1.trans hK
    rw [f_X8_init_91, if_neg (show ¬ (2 : Int32) ≤ nI i from nI_ge (b := 2) hi (by decide)), zck_t hk, hr, zrb_some, zlt_eq, e1, zcb_some, zck_t (kA_nI (by omega) hks hi (by decide)), zck_t (kO_iff.mpr ⟨e4.1, e4.2.1⟩), zlt_eq, ix_nI (by omega), nI_1]
    have hp : Pt (v + 60) t (sR s (v + 60) i (mN t)) := (hx.pt _).tr (Pt_sR _ _ _ _)
    obtain ⟨s', g1, g2, g3, g4⟩ := ih (i + 1) n (sR s (v + 60) i (mN t)) (by omega) (by omega) (kO_pt hk hp) ((congrFun ((hp.2 v hv).2 (by omega)).1 4).trans hr) (by show mN s = _; omega) ((hp.2 (v + 60) (by omega)).1.trans hK) (fun j hj => by
      by_cases e : j = i
      · subst e
        exact ⟨⟨by rw [sR_at, hn], exv_X6 (Pt_sR _ _ _ _) (by omega) (hn ▸ e4)⟩, hn ▸ e5⟩
      · refine ⟨⟨by rw [sR_ne _ _ _ _ e, (hx.2 (v + 60) (by omega)).2.1]; exact (hA j (by omega)).1.1, exv_X6 hp (by omega) (hA j (by omega)).1.2⟩, ?_⟩
        have h := (hA j (by omega)).2
        unfold DX6 at h ⊢
        rw [((hp.2 (v + 74 + 3 * j) (by omega)).2 (by omega)).2]
        exact h)
    exact ⟨s', g1, hp.tr g2, g3, g4⟩
theorem X9_loop {n : Nat} {K : Nat → Nat × Nat} {R : Nat → Nat → Option Nat} {v : Nat} (hS : isX9 n K R v) : ∀ (d k m : Nat) (D : DD), k + d = 100 → d < m → ∃ F : Nat → Int32, f_X9_init_302 m v (nI k) ((n, K, R, D) : Mm) = some ((), ((n, K, R, uA D (v + 1) F) : Mm)) ∧ (∀ j, k ≤ j → j < 100 → F j = -9) ∧ ∀ j, j < k → F j = D (v + 1) j := by
  intro d
  induction d with
  | zero =>
    intro k m D h1 h2
    obtain ⟨m, rfl⟩ : ∃ q, m = q + 1 := ⟨m - 1, by omega⟩
    have hk : k = 100 := by omega
    subst hk
    refine ⟨D (v + 1), ?_, fun j a b => by omega, fun j _ => rfl⟩
    rw [f_X9_init_302, if_pos nI_100', uA_self]
  | succ d ih =>
    intro k m D h1 h2
    obtain ⟨m, rfl⟩ : ∃ q, m = q + 1 := ⟨m - 1, by omega⟩
    have hk : k < 100 := by omega
    have ha := X9_a0 hS
    obtain ⟨F, e1, e2, e3⟩ := ih (k + 1) m (u2 D (v + 1) k (-9)) (by omega) (by omega)
    rw [f_X9_init_302, if_neg (nI_100 hk), zck_t (X9_o hS), X9_r0 hS, zrb_some, zck_t (kA_nI (t := ((n, K, R, D) : Mm)) ha.1 ha.2 hk (by decide)), zlt_eq, nI_1, ix_nI (by omega)]
    refine ⟨F, ?_, fun j a b => ?_, fun j hj => ?_⟩
    · have e1' : f_X9_init_302 m v (nI (k + 1)) (sD ((n, K, R, D) : Mm) (v + 1) k (-9)) = _ := e1
      rw [e1', uA_u2]
    · by_cases e : j = k
      · rw [e3 j (by omega), u2_same, e, upd_same]
      · exact e2 j (by omega) b
    · rw [e3 j (by omega), u2_same, upd_ne _ _ (by omega)]
theorem X9_tail {σ t : Mm} {a : Nat} (ha : mN σ = a) (hd : mD t a = fun _ => 0) (hz : ∀ j, mD t (a + 5) j = 0) (hx : Nx σ t) (hn : mN t = a + 37) (hS : isX9 (mN t) (mK t) (mR t) a) : Ends (f_X9_init_302 1000 a (0 : Int32) t) (fun s => Nx σ s ∧ mN s = a + 37 ∧ isX9 (mN s) (mK s) (mR s) a ∧ DX9 (mD s) a) := by
  obtain ⟨n, K, R, D⟩ := t
  obtain ⟨F, e1, e2, -⟩ := X9_loop hS 100 0 1000 D (by omega) (by omega)
  rw [nI_0] at e1
  refine ⟨_, e1, ⟨hx.1, fun b hb => ⟨(hx.2 b hb).1, (hx.2 b hb).2.1, ?_⟩⟩, hn, hS, fun j => ?_, fun j hj => ?_, fun j => ?_⟩
  · show uA D (a + 1) F b = _
    rw [uA_ne _ _ (by omega)]; exact (hx.2 b hb).2.2
  · show uA D (a + 1) F a j = 0
    rw [uA_ne _ _ (by omega)]; exact congrFun hd j
  · show uA D (a + 1) F (a + 1) j = -9
    rw [uA_same]; exact e2 j (by omega) hj
  · show uA D (a + 1) F (a + 5) j = 0
    rw [uA_ne _ _ (by omega)]; exact hz j
theorem I_X8 (σ : Mm) (a : Nat) (ha : mN σ = a) : Ends (f_X8_init a (nw σ (0, 8))) (fun s => Nx σ s ∧ mN s = a + 80 ∧ isX8 (mN s) (mK s) (mR s) a ∧ DX8 (mD s) a) := by
  have k0 : kO (nw σ (0, 8)) a 8 = true := ha ▸ kO_new σ 8
  have n0 : mN (nw σ (0, 8)) = a + 1 := by rw [← ha]; rfl
  have d0 : mD (nw σ (0, 8)) a = fun _ => 0 := ha ▸ nw_D σ (0, 8)
  unfold f_X8_init
  refine ob_st k0 n0 (I_X2 (nw σ (0, 8))) (fun s1 t1 S1 o1 e1 k1 (n1 : mN t1 = a + 3) p1 d1 q1 r1 => ?_)
  refine ob_st k1 n1 (I_X7 t1) (fun s2 t2 S2 o2 e2 k2 (n2 : mN t2 = a + 12) p2 d2 q2 r2 => ?_)
  refine ob_st k2 n2 (I_X0 t2) (fun s3 t3 S3 o3 e3 k3 (n3 : mN t3 = a + 42) p3 d3 q3 r3 => ?_)
  refine ob_st k3 n3 (I_X5 t3) (fun s4 t4 S4 o4 e4 k4 (n4 : mN t4 = a + 60) p4 d4 q4 r4 => ?_)
  refine al_st k4 n4 (fun t5 k5 (n5 : mN t5 = a + 61) p5 d5 K5 Z5 q5 r5 => ?_)
  refine ob_st k5 n5 (I_X2 t5) (fun s6 t6 S6 o6 e6 k6 (n6 : mN t6 = a + 63) p6 d6 q6 r6 => ?_)
  refine ob_st k6 n6 (I_X7 t6) (fun s7 t7 S7 o7 e7 k7 (n7 : mN t7 = a + 72) p7 d7 q7 r7 => ?_)
  refine ob_st k7 n7 (I_X1 t7) (fun s8 t8 S8 o8 e8 k8 (n8 : mN t8 = a + 74) p8 d8 q8 r8 => ?_)
  have P8 := Pt.rf a t8
  have P7 := p8.tr P8
  have P6 := p7.tr P7
  have P5 := p6.tr P6
  have P4 := p5.tr P5
  have P3 := p4.tr P4
  have P2 := p3.tr P3
  have P1 := p2.tr P2
  have P0 := p1.tr P1
  have R4 : mR t8 a 4 = some (a + 60) := by rw [q8 4 (by decide), q7 4 (by decide), q6 4 (by decide), r5]
  have K60 : mK t8 (a + 60) = (4, 2) := (P5.2 _ (lt_of n5 (by decide))).1.trans K5
  obtain ⟨s, g1, g2, g3, g4⟩ := X8_loop (v := a) 2 0 3 t8 (by omega) (by omega) k8 R4 n8 K60 (fun j hj => by omega)
  rw [nI_0] at g1
  refine ⟨s, g1, ?_⟩
  have kk := kO_pt k8 g2
  have hra : mR s a = mR t8 a := ((g2.2 a (kO_iff.mp k8).1).2 (by omega)).1
  have hda : ∀ b, b < a + 74 → b ≠ a + 60 → mD s b = mD t8 b := fun b h1 h2 => ((g2.2 b (by rw [n8]; exact h1)).2 h2).2
  have hnx : Nx σ s := by
    have w := P0.nx ha
    refine ⟨Nat.le_trans w.1 g2.1, fun b hb => ?_⟩
    obtain ⟨w1, w2, w3⟩ := w.2 b hb
    obtain ⟨y1, y2⟩ := g2.2 b (Nat.lt_of_lt_of_le hb w.1)
    exact ⟨y1.trans w1, (y2 (by omega)).1.trans w2, (y2 (by omega)).2.trans w3⟩
  refine ⟨hnx, g3, ⟨(kO_iff.mp kk).1, (kO_iff.mp kk).2, (by rw [hra, q8 0 (by decide), q7 0 (by decide), q6 0 (by decide), q5 0 (by decide), q4 0 (by decide), q3 0 (by decide), q2 0 (by decide), r1]), (by rw [hra, q8 1 (by decide), q7 1 (by decide), q6 1 (by decide), q5 1 (by decide), q4 1 (by decide), q3 1 (by decide), r2]), (by rw [hra, q8 2 (by decide), q7 2 (by decide), q6 2 (by decide), q5 2 (by decide), q4 2 (by decide), r3]), (by rw [hra, q8 3 (by decide), q7 3 (by decide), q6 3 (by decide), q5 3 (by decide), r4]), (by rw [hra, q8 4 (by decide), q7 4 (by decide), q6 4 (by decide), r5]), (by rw [hra, q8 5 (by decide), q7 5 (by decide), r6]), (by rw [hra, q8 6 (by decide), r7]), (by rw [hra, r8]), exw_X2 g2 (by omega) (exv_X2 (o1.tr P1) (Nat.lt_add_of_pos_right (by decide)) S1.1), exw_X7 g2 (by omega) (exv_X7 (o2.tr P2) (Nat.lt_add_of_pos_right (by decide)) S2.1), exw_X0 g2 (by omega) (exv_X0 (o3.tr P3) (Nat.lt_add_of_pos_right (by decide)) S3.1), exw_X5 g2 (by omega) (exv_X5 (o4.tr P4) (Nat.lt_add_of_pos_right (by decide)) S4.1), exv_X2 g2 (by omega) (exv_X2 (o6.tr P6) (Nat.lt_add_of_pos_right (by decide)) S6.1), exv_X7 g2 (by omega) (exv_X7 (o7.tr P7) (Nat.lt_add_of_pos_right (by decide)) S7.1), exv_X1 g2 (by omega) (exv_X1 (o8.tr P8) (Nat.lt_add_of_pos_right (by decide)) S8.1), lt_of g3 (by decide), (g2.2 _ (lt_of n8 (by decide))).1.trans K60, fun j hj => (g4 j hj).1⟩, ?_, ?_, ?_, ?_, ?_, ?_, fun j hj => (g4 j hj).2⟩
  · exact ⟨by rw [hda (a + 1) (by omega) (by omega), ((P1.2 (a + 1) (lt_of n1 (by decide))).2 (by omega)).2, e1]; exact S1.2.1, fun j hj => by rw [show a + 1 + 1 = a + 2 from rfl, hda (a + 2) (by omega) (by omega), ((P1.2 (a + 2) (lt_of n1 (by decide))).2 (by omega)).2, e1]; exact S1.2.2 j hj⟩
  · exact ⟨by rw [hda (a + 3) (by omega) (by omega), ((P2.2 (a + 3) (lt_of n2 (by decide))).2 (by omega)).2, e2]; exact S2.2.1, fun j => by rw [show a + 3 + 3 = a + 6 from rfl, hda (a + 6) (by omega) (by omega), ((P2.2 (a + 6) (lt_of n2 (by decide))).2 (by omega)).2, e2]; exact S2.2.2.1 j, fun j => by rw [show a + 3 + 4 = a + 7 from rfl, hda (a + 7) (by omega) (by omega), ((P2.2 (a + 7) (lt_of n2 (by decide))).2 (by omega)).2, e2]; exact S2.2.2.2 j⟩
  · exact ⟨by rw [hda (a + 12) (by omega) (by omega), ((P3.2 (a + 12) (lt_of n3 (by decide))).2 (by omega)).2, e3]; exact S3.2.1, by rw [hda (a + 12) (by omega) (by omega), ((P3.2 (a + 12) (lt_of n3 (by decide))).2 (by omega)).2, e3]; exact S3.2.2⟩
  · exact ⟨by rw [hda (a + 42) (by omega) (by omega), ((P4.2 (a + 42) (lt_of n4 (by decide))).2 (by omega)).2, e4]; exact S4.2.1, by rw [hda (a + 42) (by omega) (by omega), ((P4.2 (a + 42) (lt_of n4 (by decide))).2 (by omega)).2, e4]; exact S4.2.2.1, by rw [show a + 42 + 1 = a + 43 from rfl, hda (a + 43) (by omega) (by omega), ((P4.2 (a + 43) (lt_of n4 (by decide))).2 (by omega)).2, e4]; exact S4.2.2.2⟩
  · exact ⟨by rw [hda (a + 63) (by omega) (by omega), ((P7.2 (a + 63) (lt_of n7 (by decide))).2 (by omega)).2, e7]; exact S7.2.1, fun j => by rw [show a + 63 + 3 = a + 66 from rfl, hda (a + 66) (by omega) (by omega), ((P7.2 (a + 66) (lt_of n7 (by decide))).2 (by omega)).2, e7]; exact S7.2.2.1 j, fun j => by rw [show a + 63 + 4 = a + 67 from rfl, hda (a + 67) (by omega) (by omega), ((P7.2 (a + 67) (lt_of n7 (by decide))).2 (by omega)).2, e7]; exact S7.2.2.2 j⟩
  · show mD s (a + 72) 1 = 0
    rw [hda (a + 72) (by omega) (by omega), ((P8.2 (a + 72) (lt_of n8 (by decide))).2 (by omega)).2, e8]; exact S8.2
theorem I_X9 (σ : Mm) (a : Nat) (ha : mN σ = a) : Ends (f_X9_init a (nw σ (0, 9))) (fun s => Nx σ s ∧ mN s = a + 37 ∧ isX9 (mN s) (mK s) (mR s) a ∧ DX9 (mD s) a) := by
  have k0 : kO (nw σ (0, 9)) a 9 = true := ha ▸ kO_new σ 9
  have n0 : mN (nw σ (0, 9)) = a + 1 := by rw [← ha]; rfl
  have d0 : mD (nw σ (0, 9)) a = fun _ => 0 := ha ▸ nw_D σ (0, 9)
  unfold f_X9_init
  refine al_st k0 n0 (fun t1 k1 (n1 : mN t1 = a + 2) p1 d1 K1 Z1 q1 r1 => ?_)
  refine al_st k1 n1 (fun t2 k2 (n2 : mN t2 = a + 3) p2 d2 K2 Z2 q2 r2 => ?_)
  refine al_st k2 n2 (fun t3 k3 (n3 : mN t3 = a + 4) p3 d3 K3 Z3 q3 r3 => ?_)
  refine al_st k3 n3 (fun t4 k4 (n4 : mN t4 = a + 5) p4 d4 K4 Z4 q4 r4 => ?_)
  refine al_st k4 n4 (fun t5 k5 (n5 : mN t5 = a + 6) p5 d5 K5 Z5 q5 r5 => ?_)
  refine al_st k5 n5 (fun t6 k6 (n6 : mN t6 = a + 7) p6 d6 K6 Z6 q6 r6 => ?_)
  refine al_st k6 n6 (fun t7 k7 (n7 : mN t7 = a + 8) p7 d7 K7 Z7 q7 r7 => ?_)
  refine al_st k7 n7 (fun t8 k8 (n8 : mN t8 = a + 9) p8 d8 K8 Z8 q8 r8 => ?_)
  refine al_st k8 n8 (fun t9 k9 (n9 : mN t9 = a + 10) p9 d9 K9 Z9 q9 r9 => ?_)
  refine al_st k9 n9 (fun t10 k10 (n10 : mN t10 = a + 11) p10 d10 K10 Z10 q10 r10 => ?_)
  refine al_st k10 n10 (fun t11 k11 (n11 : mN t11 = a + 12) p11 d11 K11 Z11 q11 r11 => ?_)
  refine al_st k11 n11 (fun t12 k12 (n12 : mN t12 = a + 13) p12 d12 K12 Z12 q12 r12 => ?_)
  refine al_st k12 n12 (fun t13 k13 (n13 : mN t13 = a + 14) p13 d13 K13 Z13 q13 r13 => ?_)
  refine al_st k13 n13 (fun t14 k14 (n14 : mN t14 = a + 15) p14 d14 K14 Z14 q14 r14 => ?_)
  refine al_st k14 n14 (fun t15 k15 (n15 : mN t15 = a + 16) p15 d15 K15 Z15 q15 r15 => ?_)
  refine al_st k15 n15 (fun t16 k16 (n16 : mN t16 = a + 17) p16 d16 K16 Z16 q16 r16 => ?_)
  refine al_st k16 n16 (fun t17 k17 (n17 : mN t17 = a + 18) p17 d17 K17 Z17 q17 r17 => ?_)
  refine al_st k17 n17 (fun t18 k18 (n18 : mN t18 = a + 19) p18 d18 K18 Z18 q18 r18 => ?_)
  refine al_st k18 n18 (fun t19 k19 (n19 : mN t19 = a + 20) p19 d19 K19 Z19 q19 r19 => ?_)
  refine al_st k19 n19 (fun t20 k20 (n20 : mN t20 = a + 21) p20 d20 K20 Z20 q20 r20 => ?_)
  refine al_st k20 n20 (fun t21 k21 (n21 : mN t21 = a + 22) p21 d21 K21 Z21 q21 r21 => ?_)
  refine al_st k21 n21 (fun t22 k22 (n22 : mN t22 = a + 23) p22 d22 K22 Z22 q22 r22 => ?_)
  refine al_st k22 n22 (fun t23 k23 (n23 : mN t23 = a + 24) p23 d23 K23 Z23 q23 r23 => ?_)
  refine al_st k23 n23 (fun t24 k24 (n24 : mN t24 = a + 25) p24 d24 K24 Z24 q24 r24 => ?_)
  refine al_st k24 n24 (fun t25 k25 (n25 : mN t25 = a + 26) p25 d25 K25 Z25 q25 r25 => ?_)
  refine al_st k25 n25 (fun t26 k26 (n26 : mN t26 = a + 27) p26 d26 K26 Z26 q26 r26 => ?_)
  refine al_st k26 n26 (fun t27 k27 (n27 : mN t27 = a + 28) p27 d27 K27 Z27 q27 r27 => ?_)
  refine al_st k27 n27 (fun t28 k28 (n28 : mN t28 = a + 29) p28 d28 K28 Z28 q28 r28 => ?_)
  refine al_st k28 n28 (fun t29 k29 (n29 : mN t29 = a + 30) p29 d29 K29 Z29 q29 r29 => ?_)
  refine al_st k29 n29 (fun t30 k30 (n30 : mN t30 = a + 31) p30 d30 K30 Z30 q30 r30 => ?_)
  refine al_st k30 n30 (fun t31 k31 (n31 : mN t31 = a + 32) p31 d31 K31 Z31 q31 r31 => ?_)
  refine al_st k31 n31 (fun t32 k32 (n32 : mN t32 = a + 33) p32 d32 K32 Z32 q32 r32 => ?_)
  refine al_st k32 n32 (fun t33 k33 (n33 : mN t33 = a + 34) p33 d33 K33 Z33 q33 r33 => ?_)
  refine al_st k33 n33 (fun t34 k34 (n34 : mN t34 = a + 35) p34 d34 K34 Z34 q34 r34 => ?_)
  refine al_st k34 n34 (fun t35 k35 (n35 : mN t35 = a + 36) p35 d35 K35 Z35 q35 r35 => ?_)
  refine al_st k35 n35 (fun t36 k36 (n36 : mN t36 = a + 37) p36 d36 K36 Z36 q36 r36 => ?_)
  have P36 := Pt.rf a t36
  have P35 := p36.tr P36
  have P34 := p35.tr P35
  have P33 := p34.tr P34
  have P32 := p33.tr P33
  have P31 := p32.tr P32
  have P30 := p31.tr P31
  have P29 := p30.tr P30
  have P28 := p29.tr P29
  have P27 := p28.tr P28
  have P26 := p27.tr P27
  have P25 := p26.tr P26
  have P24 := p25.tr P25
  have P23 := p24.tr P24
  have P22 := p23.tr P23
  have P21 := p22.tr P22
  have P20 := p21.tr P21
  have P19 := p20.tr P20
  have P18 := p19.tr P19
  have P17 := p18.tr P18
  have P16 := p17.tr P17
  have P15 := p16.tr P16
  have P14 := p15.tr P15
  have P13 := p14.tr P14
  have P12 := p13.tr P13
  have P11 := p12.tr P12
  have P10 := p11.tr P11
  have P9 := p10.tr P10
  have P8 := p9.tr P9
  have P7 := p8.tr P8
  have P6 := p7.tr P7
  have P5 := p6.tr P6
  have P4 := p5.tr P5
  have P3 := p4.tr P4
  have P2 := p3.tr P3
  have P1 := p2.tr P2
  have P0 := p1.tr P1
  have hd : mD t36 a = fun _ => 0 := by rw [d36, d35, d34, d33, d32, d31, d30, d29, d28, d27, d26, d25, d24, d23, d22, d21, d20, d19, d18, d17, d16, d15, d14, d13, d12, d11, d10, d9, d8, d7, d6, d5, d4, d3, d2, d1, d0]
  have hz : ∀ j, mD t36 (a + 5) j = 0 := fun j => by rw [((P5.2 (a + 5) (lt_of n5 (by decide))).2 (by omega)).2]; exact Z5 j
  have hnx := P0.nx ha
  have hS : isX9 (mN t36) (mK t36) (mR t36) a := ⟨(kO_iff.mp k36).1, (kO_iff.mp k36).2, (by rw [q36 0 (by decide), q35 0 (by decide), q34 0 (by decide), q33 0 (by decide), q32 0 (by decide), q31 0 (by decide), q30 0 (by decide), q29 0 (by decide), q28 0 (by decide), q27 0 (by decide), q26 0 (by decide), q25 0 (by decide), q24 0 (by decide), q23 0 (by decide), q22 0 (by decide), q21 0 (by decide), q20 0 (by decide), q19 0 (by decide), q18 0 (by decide), q17 0 (by decide), q16 0 (by decide), q15 0 (by decide), q14 0 (by decide), q13 0 (by decide), q12 0 (by decide), q11 0 (by decide), q10 0 (by decide), q9 0 (by decide), q8 0 (by decide), q7 0 (by decide), q6 0 (by decide), q5 0 (by decide), q4 0 (by decide), q3 0 (by decide), q2 0 (by decide), r1]), (by rw [q36 1 (by decide), q35 1 (by decide), q34 1 (by decide), q33 1 (by decide), q32 1 (by decide), q31 1 (by decide), q30 1 (by decide), q29 1 (by decide), q28 1 (by decide), q27 1 (by decide), q26 1 (by decide), q25 1 (by decide), q24 1 (by decide), q23 1 (by decide), q22 1 (by decide), q21 1 (by decide), q20 1 (by decide), q19 1 (by decide), q18 1 (by decide), q17 1 (by decide), q16 1 (by decide), q15 1 (by decide), q14 1 (by decide), q13 1 (by decide), q12 1 (by decide), q11 1 (by decide), q10 1 (by decide), q9 1 (by decide), q8 1 (by decide), q7 1 (by decide), q6 1 (by decide), q5 1 (by decide), q4 1 (by decide), q3 1 (by decide), r2]), (by rw [q36 2 (by decide), q35 2 (by decide), q34 2 (by decide), q33 2 (by decide), q32 2 (by decide), q31 2 (by decide), q30 2 (by decide), q29 2 (by decide), q28 2 (by decide), q27 2 (by decide), q26 2 (by decide), q25 2 (by decide), q24 2 (by decide), q23 2 (by decide), q22 2 (by decide), q21 2 (by decide), q20 2 (by decide), q19 2 (by decide), q18 2 (by decide), q17 2 (by decide), q16 2 (by decide), q15 2 (by decide), q14 2 (by decide), q13 2 (by decide), q12 2 (by decide), q11 2 (by decide), q10 2 (by decide), q9 2 (by decide), q8 2 (by decide), q7 2 (by decide), q6 2 (by decide), q5 2 (by decide), q4 2 (by decide), r3]), (by rw [q36 5 (by decide), q35 5 (by decide), q34 5 (by decide), q33 5 (by decide), q32 5 (by decide), q31 5 (by decide), q30 5 (by decide), q29 5 (by decide), q28 5 (by decide), q27 5 (by decide), q26 5 (by decide), q25 5 (by decide), q24 5 (by decide), q23 5 (by decide), q22 5 (by decide), q21 5 (by decide), q20 5 (by decide), q19 5 (by decide), q18 5 (by decide), q17 5 (by decide), q16 5 (by decide), q15 5 (by decide), q14 5 (by decide), q13 5 (by decide), q12 5 (by decide), q11 5 (by decide), q10 5 (by decide), q9 5 (by decide), q8 5 (by decide), q7 5 (by decide), q6 5 (by decide), q5 5 (by decide), r4]), (by rw [q36 6 (by decide), q35 6 (by decide), q34 6 (by decide), q33 6 (by decide), q32 6 (by decide), q31 6 (by decide), q30 6 (by decide), q29 6 (by decide), q28 6 (by decide), q27 6 (by decide), q26 6 (by decide), q25 6 (by decide), q24 6 (by decide), q23 6 (by decide), q22 6 (by decide), q21 6 (by decide), q20 6 (by decide), q19 6 (by decide), q18 6 (by decide), q17 6 (by decide), q16 6 (by decide), q15 6 (by decide), q14 6 (by decide), q13 6 (by decide), q12 6 (by decide), q11 6 (by decide), q10 6 (by decide), q9 6 (by decide), q8 6 (by decide), q7 6 (by decide), q6 6 (by decide), r5]), (by rw [q36 7 (by decide), q35 7 (by decide), q34 7 (by decide), q33 7 (by decide), q32 7 (by decide), q31 7 (by decide), q30 7 (by decide), q29 7 (by decide), q28 7 (by decide), q27 7 (by decide), q26 7 (by decide), q25 7 (by decide), q24 7 (by decide), q23 7 (by decide), q22 7 (by decide), q21 7 (by decide), q20 7 (by decide), q19 7 (by decide), q18 7 (by decide), q17 7 (by decide), q16 7 (by decide), q15 7 (by decide), q14 7 (by decide), q13 7 (by decide), q12 7 (by decide), q11 7 (by decide), q10 7 (by decide), q9 7 (by decide), q8 7 (by decide), q7 7 (by decide), r6]), (by rw [q36 8 (by decide), q35 8 (by decide), q34 8 (by decide), q33 8 (by decide), q32 8 (by decide), q31 8 (by decide), q30 8 (by decide), q29 8 (by decide), q28 8 (by decide), q27 8 (by decide), q26 8 (by decide), q25 8 (by decide), q24 8 (by decide), q23 8 (by decide), q22 8 (by decide), q21 8 (by decide), q20 8 (by decide), q19 8 (by decide), q18 8 (by decide), q17 8 (by decide), q16 8 (by decide), q15 8 (by decide), q14 8 (by decide), q13 8 (by decide), q12 8 (by decide), q11 8 (by decide), q10 8 (by decide), q9 8 (by decide), q8 8 (by decide), r7]), (by rw [q36 9 (by decide), q35 9 (by decide), q34 9 (by decide), q33 9 (by decide), q32 9 (by decide), q31 9 (by decide), q30 9 (by decide), q29 9 (by decide), q28 9 (by decide), q27 9 (by decide), q26 9 (by decide), q25 9 (by decide), q24 9 (by decide), q23 9 (by decide), q22 9 (by decide), q21 9 (by decide), q20 9 (by decide), q19 9 (by decide), q18 9 (by decide), q17 9 (by decide), q16 9 (by decide), q15 9 (by decide), q14 9 (by decide), q13 9 (by decide), q12 9 (by decide), q11 9 (by decide), q10 9 (by decide), q9 9 (by decide), r8]), (by rw [q36 10 (by decide), q35 10 (by decide), q34 10 (by decide), q33 10 (by decide), q32 10 (by decide), q31 10 (by decide), q30 10 (by decide), q29 10 (by decide), q28 10 (by decide), q27 10 (by decide), q26 10 (by decide), q25 10 (by decide), q24 10 (by decide), q23 10 (by decide), q22 10 (by decide), q21 10 (by decide), q20 10 (by decide), q19 10 (by decide), q18 10 (by decide), q17 10 (by decide), q16 10 (by decide), q15 10 (by decide), q14 10 (by decide), q13 10 (by decide), q12 10 (by decide), q11 10 (by decide), q10 10 (by decide), r9]), (by rw [q36 11 (by decide), q35 11 (by decide), q34 11 (by decide), q33 11 (by decide), q32 11 (by decide), q31 11 (by decide), q30 11 (by decide), q29 11 (by decide), q28 11 (by decide), q27 11 (by decide), q26 11 (by decide), q25 11 (by decide), q24 11 (by decide), q23 11 (by decide), q22 11 (by decide), q21 11 (by decide), q20 11 (by decide), q19 11 (by decide), q18 11 (by decide), q17 11 (by decide), q16 11 (by decide), q15 11 (by decide), q14 11 (by decide), q13 11 (by decide), q12 11 (by decide), q11 11 (by decide), r10]), (by rw [q36 12 (by decide), q35 12 (by decide), q34 12 (by decide), q33 12 (by decide), q32 12 (by decide), q31 12 (by decide), q30 12 (by decide), q29 12 (by decide), q28 12 (by decide), q27 12 (by decide), q26 12 (by decide), q25 12 (by decide), q24 12 (by decide), q23 12 (by decide), q22 12 (by decide), q21 12 (by decide), q20 12 (by decide), q19 12 (by decide), q18 12 (by decide), q17 12 (by decide), q16 12 (by decide), q15 12 (by decide), q14 12 (by decide), q13 12 (by decide), q12 12 (by decide), r11]), (by rw [q36 13 (by decide), q35 13 (by decide), q34 13 (by decide), q33 13 (by decide), q32 13 (by decide), q31 13 (by decide), q30 13 (by decide), q29 13 (by decide), q28 13 (by decide), q27 13 (by decide), q26 13 (by decide), q25 13 (by decide), q24 13 (by decide), q23 13 (by decide), q22 13 (by decide), q21 13 (by decide), q20 13 (by decide), q19 13 (by decide), q18 13 (by decide), q17 13 (by decide), q16 13 (by decide), q15 13 (by decide), q14 13 (by decide), q13 13 (by decide), r12]), (by rw [q36 14 (by decide), q35 14 (by decide), q34 14 (by decide), q33 14 (by decide), q32 14 (by decide), q31 14 (by decide), q30 14 (by decide), q29 14 (by decide), q28 14 (by decide), q27 14 (by decide), q26 14 (by decide), q25 14 (by decide), q24 14 (by decide), q23 14 (by decide), q22 14 (by decide), q21 14 (by decide), q20 14 (by decide), q19 14 (by decide), q18 14 (by decide), q17 14 (by decide), q16 14 (by decide), q15 14 (by decide), q14 14 (by decide), r13]), (by rw [q36 15 (by decide), q35 15 (by decide), q34 15 (by decide), q33 15 (by decide), q32 15 (by decide), q31 15 (by decide), q30 15 (by decide), q29 15 (by decide), q28 15 (by decide), q27 15 (by decide), q26 15 (by decide), q25 15 (by decide), q24 15 (by decide), q23 15 (by decide), q22 15 (by decide), q21 15 (by decide), q20 15 (by decide), q19 15 (by decide), q18 15 (by decide), q17 15 (by decide), q16 15 (by decide), q15 15 (by decide), r14]), (by rw [q36 16 (by decide), q35 16 (by decide), q34 16 (by decide), q33 16 (by decide), q32 16 (by decide), q31 16 (by decide), q30 16 (by decide), q29 16 (by decide), q28 16 (by decide), q27 16 (by decide), q26 16 (by decide), q25 16 (by decide), q24 16 (by decide), q23 16 (by decide), q22 16 (by decide), q21 16 (by decide), q20 16 (by decide), q19 16 (by decide), q18 16 (by decide), q17 16 (by decide), q16 16 (by decide), r15]), (by rw [q36 17 (by decide), q35 17 (by decide), q34 17 (by decide), q33 17 (by decide), q32 17 (by decide), q31 17 (by decide), q30 17 (by decide), q29 17 (by decide), q28 17 (by decide), q27 17 (by decide), q26 17 (by decide), q25 17 (by decide), q24 17 (by decide), q23 17 (by decide), q22 17 (by decide), q21 17 (by decide), q20 17 (by decide), q19 17 (by decide), q18 17 (by decide), q17 17 (by decide), r16]), (by rw [q36 18 (by decide), q35 18 (by decide), q34 18 (by decide), q33 18 (by decide), q32 18 (by decide), q31 18 (by decide), q30 18 (by decide), q29 18 (by decide), q28 18 (by decide), q27 18 (by decide), q26 18 (by decide), q25 18 (by decide), q24 18 (by decide), q23 18 (by decide), q22 18 (by decide), q21 18 (by decide), q20 18 (by decide), q19 18 (by decide), q18 18 (by decide), r17]), (by rw [q36 19 (by decide), q35 19 (by decide), q34 19 (by decide), q33 19 (by decide), q32 19 (by decide), q31 19 (by decide), q30 19 (by decide), q29 19 (by decide), q28 19 (by decide), q27 19 (by decide), q26 19 (by decide), q25 19 (by decide), q24 19 (by decide), q23 19 (by decide), q22 19 (by decide), q21 19 (by decide), q20 19 (by decide), q19 19 (by decide), r18]), (by rw [q36 20 (by decide), q35 20 (by decide), q34 20 (by decide), q33 20 (by decide), q32 20 (by decide), q31 20 (by decide), q30 20 (by decide), q29 20 (by decide), q28 20 (by decide), q27 20 (by decide), q26 20 (by decide), q25 20 (by decide), q24 20 (by decide), q23 20 (by decide), q22 20 (by decide), q21 20 (by decide), q20 20 (by decide), r19]), (by rw [q36 22 (by decide), q35 22 (by decide), q34 22 (by decide), q33 22 (by decide), q32 22 (by decide), q31 22 (by decide), q30 22 (by decide), q29 22 (by decide), q28 22 (by decide), q27 22 (by decide), q26 22 (by decide), q25 22 (by decide), q24 22 (by decide), q23 22 (by decide), q22 22 (by decide), q21 22 (by decide), r20]), (by rw [q36 24 (by decide), q35 24 (by decide), q34 24 (by decide), q33 24 (by decide), q32 24 (by decide), q31 24 (by decide), q30 24 (by decide), q29 24 (by decide), q28 24 (by decide), q27 24 (by decide), q26 24 (by decide), q25 24 (by decide), q24 24 (by decide), q23 24 (by decide), q22 24 (by decide), r21]), (by rw [q36 27 (by decide), q35 27 (by decide), q34 27 (by decide), q33 27 (by decide), q32 27 (by decide), q31 27 (by decide), q30 27 (by decide), q29 27 (by decide), q28 27 (by decide), q27 27 (by decide), q26 27 (by decide), q25 27 (by decide), q24 27 (by decide), q23 27 (by decide), r22]), (by rw [q36 29 (by decide), q35 29 (by decide), q34 29 (by decide), q33 29 (by decide), q32 29 (by decide), q31 29 (by decide), q30 29 (by decide), q29 29 (by decide), q28 29 (by decide), q27 29 (by decide), q26 29 (by decide), q25 29 (by decide), q24 29 (by decide), r23]), (by rw [q36 30 (by decide), q35 30 (by decide), q34 30 (by decide), q33 30 (by decide), q32 30 (by decide), q31 30 (by decide), q30 30 (by decide), q29 30 (by decide), q28 30 (by decide), q27 30 (by decide), q26 30 (by decide), q25 30 (by decide), r24]), (by rw [q36 31 (by decide), q35 31 (by decide), q34 31 (by decide), q33 31 (by decide), q32 31 (by decide), q31 31 (by decide), q30 31 (by decide), q29 31 (by decide), q28 31 (by decide), q27 31 (by decide), q26 31 (by decide), r25]), (by rw [q36 32 (by decide), q35 32 (by decide), q34 32 (by decide), q33 32 (by decide), q32 32 (by decide), q31 32 (by decide), q30 32 (by decide), q29 32 (by decide), q28 32 (by decide), q27 32 (by decide), r26]), (by rw [q36 33 (by decide), q35 33 (by decide), q34 33 (by decide), q33 33 (by decide), q32 33 (by decide), q31 33 (by decide), q30 33 (by decide), q29 33 (by decide), q28 33 (by decide), r27]), (by rw [q36 34 (by decide), q35 34 (by decide), q34 34 (by decide), q33 34 (by decide), q32 34 (by decide), q31 34 (by decide), q30 34 (by decide), q29 34 (by decide), r28]), (by rw [q36 35 (by decide), q35 35 (by decide), q34 35 (by decide), q33 35 (by decide), q32 35 (by decide), q31 35 (by decide), q30 35 (by decide), r29]), (by rw [q36 38 (by decide), q35 38 (by decide), q34 38 (by decide), q33 38 (by decide), q32 38 (by decide), q31 38 (by decide), r30]), (by rw [q36 39 (by decide), q35 39 (by decide), q34 39 (by decide), q33 39 (by decide), q32 39 (by decide), r31]), (by rw [q36 40 (by decide), q35 40 (by decide), q34 40 (by decide), q33 40 (by decide), r32]), (by rw [q36 42 (by decide), q35 42 (by decide), q34 42 (by decide), r33]), (by rw [q36 43 (by decide), q35 43 (by decide), r34]), (by rw [q36 44 (by decide), r35]), (by rw [r36]), lt_of n36 (by decide), (P1.2 _ (lt_of n1 (by decide))).1.trans K1, lt_of n36 (by decide), (P2.2 _ (lt_of n2 (by decide))).1.trans K2, lt_of n36 (by decide), (P3.2 _ (lt_of n3 (by decide))).1.trans K3, lt_of n36 (by decide), (P4.2 _ (lt_of n4 (by decide))).1.trans K4, lt_of n36 (by decide), (P5.2 _ (lt_of n5 (by decide))).1.trans K5, lt_of n36 (by decide), (P6.2 _ (lt_of n6 (by decide))).1.trans K6, lt_of n36 (by decide), (P7.2 _ (lt_of n7 (by decide))).1.trans K7, lt_of n36 (by decide), (P8.2 _ (lt_of n8 (by decide))).1.trans K8, lt_of n36 (by decide), (P9.2 _ (lt_of n9 (by decide))).1.trans K9, lt_of n36 (by decide), (P10.2 _ (lt_of n10 (by decide))).1.trans K10, lt_of n36 (by decide), (P11.2 _ (lt_of n11 (by decide))).1.trans K11, lt_of n36 (by decide), (P12.2 _ (lt_of n12 (by decide))).1.trans K12, lt_of n36 (by decide), (P13.2 _ (lt_of n13 (by decide))).1.trans K13, lt_of n36 (by decide), (P14.2 _ (lt_of n14 (by decide))).1.trans K14, lt_of n36 (by decide), (P15.2 _ (lt_of n15 (by decide))).1.trans K15, lt_of n36 (by decide), (P16.2 _ (lt_of n16 (by decide))).1.trans K16, lt_of n36 (by decide), (P17.2 _ (lt_of n17 (by decide))).1.trans K17, lt_of n36 (by decide), (P18.2 _ (lt_of n18 (by decide))).1.trans K18, lt_of n36 (by decide), (P19.2 _ (lt_of n19 (by decide))).1.trans K19, lt_of n36 (by decide), (P20.2 _ (lt_of n20 (by decide))).1.trans K20, lt_of n36 (by decide), (P21.2 _ (lt_of n21 (by decide))).1.trans K21, lt_of n36 (by decide), (P22.2 _ (lt_of n22 (by decide))).1.trans K22, lt_of n36 (by decide), (P23.2 _ (lt_of n23 (by decide))).1.trans K23, lt_of n36 (by decide), (P24.2 _ (lt_of n24 (by decide))).1.trans K24, lt_of n36 (by decide), (P25.2 _ (lt_of n25 (by decide))).1.trans K25, lt_of n36 (by decide), (P26.2 _ (lt_of n26 (by decide))).1.trans K26, lt_of n36 (by decide), (P27.2 _ (lt_of n27 (by decide))).1.trans K27, lt_of n36 (by decide), (P28.2 _ (lt_of n28 (by decide))).1.trans K28, lt_of n36 (by decide), (P29.2 _ (lt_of n29 (by decide))).1.trans K29, lt_of n36 (by decide), (P30.2 _ (lt_of n30 (by decide))).1.trans K30, lt_of n36 (by decide), (P31.2 _ (lt_of n31 (by decide))).1.trans K31, lt_of n36 (by decide), (P32.2 _ (lt_of n32 (by decide))).1.trans K32, lt_of n36 (by decide), (P33.2 _ (lt_of n33 (by decide))).1.trans K33, lt_of n36 (by decide), (P34.2 _ (lt_of n34 (by decide))).1.trans K34, lt_of n36 (by decide), (P35.2 _ (lt_of n35 (by decide))).1.trans K35, lt_of n36 (by decide), (P36.2 _ (lt_of n36 (by decide))).1.trans K36⟩
  exact X9_tail ha hd hz hnx n36 hS
