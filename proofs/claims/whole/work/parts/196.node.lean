theorem sI_cF {s : Nat → Int32} {a b : Nat} (h : a ≤ b + 1) (hb : b < 100) : sI (cF s a b) 100 = nI (cn s a (b + 1)) := by
  have h2 : ∀ d, a + d ≤ b + 1 → sI (cF s a b) (a + d) = nI (cnF s a d) := by
    intro d
    induction d with
    | zero => intro _; rw [Nat.add_zero, sI_zero (F := cF s a b) a (fun k hk => if_neg (by omega))]; exact nI_0.symm
    | succ d ih =>
      intro hd
      rw [← Nat.add_assoc, sI_s, ih (by omega), cnF]
      by_cases e : s (a + d) = -9
      · rw [cF, if_neg (fun q => q.2.2 e), if_pos e, Int32.add_zero]; rfl
      · rw [cF, if_pos ⟨by omega, by omega, e⟩, if_neg e, nI_1]
  have h3 : ∀ e, sI (cF s a b) (b + 1 + e) = sI (cF s a b) (b + 1) := by
    intro e
    induction e with
    | zero => rfl
    | succ e ih => rw [← Nat.add_assoc, sI_s, ih, cF, if_neg (by omega), Int32.add_zero]
  have h4 := h3 (99 - b)
  rw [show b + 1 + (99 - b) = 100 by omega] at h4
  have h5 := h2 (b + 1 - a) (by omega)
  rw [show a + (b + 1 - a) = b + 1 by omega] at h5
  rw [h4, h5]; rfl
theorem n_count_pl {D : DD} {f : Mp} {k : Nat} (hP : Prs D 1 f) (hk : k < 100) (hf : f k ≠ -9) : g_X2_countWithin 1 (nI (pl f k).1) (nI (pl f k).2.1 - 1) D = some (nI (cn f (pl f k).1 (pl f k).2.1)) := by
  obtain ⟨p1, p2, -⟩ := pl_spec hf hk
  obtain ⟨q1, q2, -, -⟩ := bs_some p2
  have hp := p1.2.1
  obtain ⟨b, hb⟩ : ∃ b, (pl f k).2.1 = b + 1 := ⟨(pl f k).2.1 - 1, by omega⟩
  rw [hb, nI_pred, n_countWithin hP (by omega) (by omega), sI_cF (by omega) (by omega)]
theorem ok_node (x w : Int32) : OpOk (f_X8_node 0 x w) (f_X9_node 80 x w) := by
  rintro σ ⟨n, K, R, D, rfl, hS, hD⟩
  obtain ⟨f, us, sl, xs, tr, fm, hC, hM, hA⟩ := id hD
  have h8 := hS.1
  have h117 := hS.2.2
  have good : Good ((n, K, R, D) : Mm) := ⟨n, K, R, D, rfl, hS, hD⟩
  unfold f_X8_node
  rw [zck_t (X8_o h8), X8_r0 h8, zrb_some, zck_t (X2_o (X8_s0 h8)), G_X2_has _ _ _ (X8_s0 h8)]
  rcases num_or x with ⟨k, hk, rfl⟩ | hk
  · rw [n_has hk, Option.map_some, zcb_some, hC.1.1 k hk]
    by_cases hf : f k = -9
    · rw [if_pos hf, if_pos rfl]
      refine ⟨_, _, (n, K, R, D), rfl, X9_o hS.2.1, ?_, good⟩
      rw [G_X9_node _ _ _ _ hS.2.1]
      unfold g_X9_node
      rw [n_isNumber9t hk, pcb_some, if_neg one_ne0, zck_nI hk (by decide), ix_nI (by omega), hM.1 k hk, if_pos hf]
      rfl
    · rw [if_neg hf, if_neg one_ne0, zck_t (X8_o h8), X8_r1 h8, zrb_some, zck_t (X7_o (X8_s1 h8)), n_place (X8_s1 h8) hC.2.1.1 hC.2.1.2.1 hk]
      obtain ⟨K', R', D', e1, e2, e3, e4, e5, e6, e7, e8⟩ := n_place84 (n := n) (K := K) (R := R) (D := D) (nI (pl f k).2.2.1) (oI (pl f k).2.2.2) (nI (pl f k).1) (nI (pl f k).2.1 - 1)
      rw [e1, zcb_some]
      have hS' : Sh (n + 1) K' R' := hS.ext e2
      have h8' := hS'.1
      have hkn : kO ((n + 1, K', R', D') : Mm) n 4 = true := by simp [kO, mN, mK, e3]
      have hC' : CI D' f us sl xs tr fm := hC.congr (fun c hc => e8 c (by omega))
      have hM' : MI D' 80 f us sl xs tr fm := hM.congr (fun c _ hc => e8 c (by omega))
      obtain ⟨D2, m1, m2, m3⟩ := n_make (m := 80) (v := 81) (lev := 0) (Or.inl rfl) (by omega) hM'.1
      rw [nI_0] at m1
      have good2 : Good ((n + 1, K', R', D2) : Mm) := ⟨n + 1, K', R', D2, rfl, hS', f, us, sl, xs, tr, fm, hC'.congr (fun c hc => m3.1 c (by omega) (by omega)), hM'.fp m3.P, hA⟩
      obtain ⟨p1, p2, -⟩ := pl_spec hf hk
      obtain ⟨t1, t2, t3⟩ := hC'.2.1.1 _ _ k p1 p2
      obtain ⟨⟨r1, r2, r3, r4⟩, r5, r6, r7, r8⟩ := m2.2 k hk hf
      unfold Lft at r5
      unfold Rgt at r6
      rw [Nat.mul_zero, Nat.zero_add] at r1 r2 r3 r4 r5 r6 r7 r8
      have hm : f_X9_node 80 (nI k) w ((n + 1, K', R', D') : Mm) = (if w = (0 : Int32) then some (nI (pl f k).2.2.1, ((n + 1, K', R', D2) : Mm)) else if w = (1 : Int32) then some (oI (pl f k).2.2.2, ((n + 1, K', R', D2) : Mm)) else if w = (2 : Int32) then some (oI (bs f (pl f k).1 k), ((n + 1, K', R', D2) : Mm)) else if w = (3 : Int32) then some (oI (bs f (k + 1) (pl f k).2.1), ((n + 1, K', R', D2) : Mm)) else if w = (4 : Int32) then some (nI (cn f (pl f k).1 (pl f k).2.1), ((n + 1, K', R', D2) : Mm)) else if w = (5 : Int32) then some (dg f zg (pl f k).1 (pl f k).2.1, ((n + 1, K', R', D2) : Mm)) else if w = (6 : Int32) then some (nI (pl f k).1, ((n + 1, K', R', D2) : Mm)) else if w = (7 : Int32) then some (nI (pl f k).2.1 - 1, ((n + 1, K', R', D2) : Mm)) else some (-2, ((n + 1, K', R', D2) : Mm))) := by
        rw [G_X9_node _ _ _ _ hS'.2.1]
        unfold g_X9_node
        rw [n_isNumber9t hk, pcb_some, if_neg one_ne0, zck_nI hk (by decide), ix_nI (by omega), hM'.1 k hk, if_neg hf, show 80 + 1 = 81 from rfl, m1, vcb_some]
        simp only [zck_nI (show k < 200 by omega) (show 200 ≤ 100000 by decide), r1, r2, r3, r4, r5, r6, r7, r8]
        by_cases w0 : w = 0
        · simp only [if_pos w0]; rfl
        by_cases w1 : w = 1
        · simp only [if_neg w0, if_pos w1]; rfl
        by_cases w2 : w = 2
        · simp only [if_neg w0, if_neg w1, if_pos w2]; rfl
        by_cases w3 : w = 3
        · simp only [if_neg w0, if_neg w1, if_neg w2, if_pos w3]; rfl
        by_cases w4 : w = 4
        · simp only [if_neg w0, if_neg w1, if_neg w2, if_neg w3, if_pos w4]; rfl
        by_cases w5 : w = 5
        · simp only [if_neg w0, if_neg w1, if_neg w2, if_neg w3, if_neg w4, if_pos w5]; rfl
        by_cases w6 : w = 6
        · simp only [if_neg w0, if_neg w1, if_neg w2, if_neg w3, if_neg w4, if_neg w5, if_pos w6]; rfl
        by_cases w7 : w = 7
        · simp only [if_neg w0, if_neg w1, if_neg w2, if_neg w3, if_neg w4, if_neg w5, if_neg w6, if_pos w7]; rfl
        simp only [if_neg w0, if_neg w1, if_neg w2, if_neg w3, if_neg w4, if_neg w5, if_neg w6, if_neg w7]; rfl
      have fin : ∀ r : Int32, f_X9_node 80 (nI k) w ((n + 1, K', R', D') : Mm) = some (r, ((n + 1, K', R', D2) : Mm)) → ∃ (r' : Int32) (σ1 σ2 : Mm), some (r, ((n + 1, K', R', D') : Mm)) = some (r', σ1) ∧ kO σ1 80 9 = true ∧ f_X9_node 80 (nI k) w σ1 = some (r', σ2) ∧ Good σ2 := fun r hr => ⟨r, _, _, rfl, X9_o hS'.2.1, hr, good2⟩
      have d0 : mD ((n + 1, K', R', D') : Mm) n 0 = nI (pl f k).2.2.1 := e4
      have d1 : mD ((n + 1, K', R', D') : Mm) n 1 = oI (pl f k).2.2.2 := e5
      have d2 : mD ((n + 1, K', R', D') : Mm) n 2 = nI (pl f k).1 := e6
      have d3 : mD ((n + 1, K', R', D') : Mm) n 3 = nI (pl f k).2.1 - 1 := e7
      by_cases w0 : w = 0
      · rw [if_pos w0, zck_t hkn, d0]
        exact fin _ (by rw [hm, if_pos w0])
      rw [if_neg w0]
      rw [if_neg w0] at hm
      by_cases w1 : w = 1
      · rw [if_pos w1, zck_t hkn, d1]
        exact fin _ (by rw [hm, if_pos w1])
      rw [if_neg w1]
      rw [if_neg w1] at hm
      by_cases w2 : w = 2
      · rw [if_pos w2, zck_t (X8_o h8'), X8_r1 h8', zrb_some, zck_t (X7_o (X8_s1 h8')), G_X7_leftOf _ _ _ (X8_s1 h8'), n_leftOf hk, Option.map_some, zcb_some, t1]
        exact fin _ (by rw [hm, if_pos w2])
      rw [if_neg w2]
      rw [if_neg w2] at hm
      by_cases w3 : w = 3
      · rw [if_pos w3, zck_t (X8_o h8'), X8_r1 h8', zrb_some, zck_t (X7_o (X8_s1 h8')), G_X7_rightOf _ _ _ (X8_s1 h8'), n_rightOf hk, Option.map_some, zcb_some, t2]
        exact fin _ (by rw [hm, if_pos w3])
      rw [if_neg w3]
      rw [if_neg w3] at hm
      by_cases w4 : w = 4
      · rw [if_pos w4, zck_t (X8_o h8'), X8_r0 h8', zrb_some, zck_t hkn, zck_t (X2_o (X8_s0 h8')), d2, d3, G_X2_countWithin _ _ _ _ (X8_s0 h8'), n_count_pl hC'.1 hk hf, Option.map_some, zcb_some]
        exact fin _ (by rw [hm, if_pos w4])
      rw [if_neg w4]
      rw [if_neg w4] at hm
      by_cases w5 : w = 5
      · rw [if_pos w5, zck_t (X8_o h8'), X8_r1 h8', zrb_some, zck_t (X7_o (X8_s1 h8')), G_X7_digestOf _ _ _ (X8_s1 h8'), n_digestOf hk, Option.map_some, zcb_some, t3]
        exact fin _ (by rw [hm, if_pos w5])
      rw [if_neg w5]
      rw [if_neg w5] at hm
      by_cases w6 : w = 6
      · rw [if_pos w6, zck_t hkn, d2]
        exact fin _ (by rw [hm, if_pos w6])
      rw [if_neg w6]
      rw [if_neg w6] at hm
      by_cases w7 : w = 7
      · rw [if_pos w7, zck_t hkn, d3]
        exact fin _ (by rw [hm, if_pos w7])
      rw [if_neg w7]
      rw [if_neg w7] at hm
      exact fin _ hm
  · rw [n_has_f hk, Option.map_some, zcb_some, if_pos rfl]
    refine ⟨_, _, (n, K, R, D), rfl, X9_o hS.2.1, ?_, good⟩
    rw [G_X9_node _ _ _ _ hS.2.1]
    unfold g_X9_node
    rw [n_isNumber9f hk, pcb_some, if_pos rfl]
    rfl
