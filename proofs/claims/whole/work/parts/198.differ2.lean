theorem n_countOther {D : DD} {f g : Mp} {p : Nat} (hP : Prs D 1 f) (hQ : Prs D p g) : g_X8_countOtherwise 0 p D = some (sI (Fo f g) 100) := by
  have loop : ∀ (d k n : Nat), k + d = 100 → d < n → g_X8_countOtherwise_4 n 0 p (sI (Fo f g) k) (nI k) D = some (sI (Fo f g) 100) := by
    intro d
    induction d with
    | zero =>
      intro k n h1 h2
      obtain ⟨n, rfl⟩ : ∃ q, n = q + 1 := ⟨n - 1, by omega⟩
      have hk : k = 100 := by omega
      subst hk
      rw [g_X8_countOtherwise_4, if_pos nI_100']
    | succ d ih =>
      intro k n h1 h2
      obtain ⟨n, rfl⟩ : ∃ q, n = q + 1 := ⟨n - 1, by omega⟩
      have hk : k < 100 := by omega
      have key := ih (k + 1) n (by omega) (by omega)
      rw [sI] at key
      rw [g_X8_countOtherwise_4, if_neg (nI_100 hk), n_valueOf hk, pcb_some, n_valueOf hk, pcb_some, show 0 + 1 + 1 = 1 + 1 from rfl, hP.1 k hk, hQ.1 k hk]
      unfold g_X8_countOtherwise_29
      rw [nI_1]
      by_cases c : f k = g k
      · rw [if_pos c]
        rw [Fo, if_pos c, Int32.add_zero] at key
        exact key
      · rw [if_neg c]
        rw [Fo, if_neg c] at key
        exact key
  exact loop 100 0 1000 (by omega) (by omega)
theorem n_leastOther {D : DD} {f g : Mp} {p : Nat} (hP : Prs D 1 f) (hQ : Prs D p g) : ∃ r, g_X8_leastOtherwise 0 p D = some r ∧ LA (fun k => k < 100 ∧ f k ≠ g k) r := by
  have loop : ∀ (d k n : Nat), k + d = 100 → d < n → (∀ j, j < k → f j = g j) → ∃ r, g_X8_leastOtherwise_2 n 0 p (nI k) D = some r ∧ LA (fun k => k < 100 ∧ f k ≠ g k) r := by
    intro d
    induction d with
    | zero =>
      intro k n h1 h2 hr
      obtain ⟨n, rfl⟩ : ∃ q, n = q + 1 := ⟨n - 1, by omega⟩
      have hk : k = 100 := by omega
      subst hk
      rw [g_X8_leastOtherwise_2, if_pos nI_100']
      exact ⟨-9, rfl, Or.inl ⟨rfl, fun k hk => hk.2 (hr k hk.1)⟩⟩
    | succ d ih =>
      intro k n h1 h2 hr
      obtain ⟨n, rfl⟩ : ∃ q, n = q + 1 := ⟨n - 1, by omega⟩
      have hk : k < 100 := by omega
      rw [g_X8_leastOtherwise_2, if_neg (nI_100 hk), n_valueOf hk, pcb_some, n_valueOf hk, pcb_some, show 0 + 1 + 1 = 1 + 1 from rfl, hP.1 k hk, hQ.1 k hk, nI_1]
      by_cases c : f k = g k
      · rw [if_pos c]
        refine ih (k + 1) n (by omega) (by omega) (fun j hj => ?_)
        by_cases e : j = k
        · subst e; exact c
        · exact hr j (by omega)
      · rw [if_neg c]
        refine ⟨nI k, rfl, Or.inr ⟨k, rfl, ⟨hk, c⟩, hk, fun j hj => ?_⟩⟩
        rcases Nat.lt_or_ge j k with q | q
        · exact absurd (hr j q) hj.2
        · exact q
  have := loop 100 0 1000 (by omega) (by omega) (fun j hj => by omega)
  exact this
theorem n_passedOver {D : DD} {f g : Mp} (hf : OkM f) (hg : OkM g) (h3 : TI D 3 f) (h63 : TI D 63 g) : g_X8_countPassedOver_12 1000 0 0 0 D = some (sI (Fp f g) 100, D) := by
  have loop : ∀ (d k n : Nat), k + d = 100 → d < n → g_X8_countPassedOver_12 n 0 (sI (Fp f g) k) (nI k) D = some (sI (Fp f g) 100, D) := by
    intro d
    induction d with
    | zero =>
      intro k n h1 h2
      obtain ⟨n, rfl⟩ : ∃ q, n = q + 1 := ⟨n - 1, by omega⟩
      have hk : k = 100 := by omega
      subst hk
      rw [g_X8_countPassedOver_12, if_pos nI_100']
    | succ d ih =>
      intro k n h1 h2
      obtain ⟨n, rfl⟩ : ∃ q, n = q + 1 := ⟨n - 1, by omega⟩
      have hk : k < 100 := by omega
      have key := ih (k + 1) n (by omega) (by omega)
      rw [sI] at key
      rw [g_X8_countPassedOver_12, if_neg (nI_100 hk), show 0 + 3 = 3 from rfl, show 0 + 63 = 63 from rfl, n_firstLike hf hg h3 h63 hk, pcb_some]
      unfold g_X8_countPassedOver_36
      rw [nI_1]
      by_cases c : fl f g k = true
      · rw [if_pos c, if_neg one_ne0]
        rw [Fp, if_pos c] at key
        exact key
      · rw [if_neg c, if_pos rfl]
        rw [Fp, if_neg c, Int32.add_zero] at key
        exact key
  exact loop 100 0 1000 (by omega) (by omega)
theorem n_nodesOver {f g : Mp} (hf : OkM f) (hg : OkM g) : ∀ (d k fu n : Nat) (K : Nat → Nat × Nat) (R : Nat → Nat → Option Nat) (D : DD), k + d = 100 → d < fu → Sh n K R → Prs D 1 f → TI D 3 f → TI D 63 g → ∃ (n' : Nat) (K' : Nat → Nat × Nat) (R' : Nat → Nat → Option Nat) (D' : DD), f_X8_countNodesPassedOver_12 fu 0 (sI (Fn f g) k) (nI k) ((n, K, R, D) : Mm) = some (sI (Fn f g) 100, ((n', K', R', D') : Mm)) ∧ Sh n' K' R' ∧ ∀ c, c ≤ 116 → D' c = D c := by
  intro d
  induction d with
  | zero =>
    intro k fu n K R D h1 h2 hS hP h3 h63
    obtain ⟨fu, rfl⟩ : ∃ q, fu = q + 1 := ⟨fu - 1, by omega⟩
    have hk : k = 100 := by omega
    subst hk
    rw [f_X8_countNodesPassedOver_12, if_pos nI_100']
    exact ⟨n, K, R, D, rfl, hS, fun _ _ => rfl⟩
  | succ d ih =>
    intro k fu n K R D h1 h2 hS hP h3 h63
    obtain ⟨fu, rfl⟩ : ∃ q, fu = q + 1 := ⟨fu - 1, by omega⟩
    have hk : k < 100 := by omega
    have h8 := hS.1
    have h117 := hS.2.2
    rw [f_X8_countNodesPassedOver_12, if_neg (nI_100 hk), zck_t (X8_o h8), X8_r1 h8, zrb_some, X8_r6 h8, zrb_some, zck_t (X7_o (X8_s1 h8)), G_X7_isFirstLike _ _ _ _ (X8_s1 h8) (X8_s6 h8), show 0 + 3 = 3 from rfl, show 0 + 63 = 63 from rfl, n_firstLike hf hg h3 h63 hk, Option.map_some, zcb_some]
    unfold f_X8_countNodesPassedOver_63
    by_cases c : fl f g k = true
    · rw [if_pos c, if_neg one_ne0, zck_t (X8_o h8), X8_r1 h8, zrb_some, zck_t (X7_o (X8_s1 h8)), n_place (X8_s1 h8) h3.1 h3.2.1 hk]
      obtain ⟨K', R', D', e1, e2, e3, e4, e5, e6, e7, e8⟩ := n_place84 (n := n) (K := K) (R := R) (D := D) (nI (pl f k).2.2.1) (oI (pl f k).2.2.2) (nI (pl f k).1) (nI (pl f k).2.1 - 1)
      rw [e1, zcb_some]
      have hS' : Sh (n + 1) K' R' := hS.ext e2
      have h8' := hS'.1
      have hkn : kO ((n + 1, K', R', D') : Mm) n 4 = true := by simp [kO, mN, mK, e3]
      have d2 : mD ((n + 1, K', R', D') : Mm) n 2 = nI (pl f k).1 := e6
      have d3 : mD ((n + 1, K', R', D') : Mm) n 3 = nI (pl f k).2.1 - 1 := e7
      have hP' : Prs D' 1 f := hP.congr (e8 _ (by omega)) (e8 _ (by omega))
      rw [zck_t (X8_o h8'), X8_r0 h8', zrb_some, zck_t hkn, zck_t (X2_o (X8_s0 h8')), d2, d3, G_X2_countWithin _ _ _ _ (X8_s0 h8'), n_count_pl hP' hk (fl_key c), Option.map_some, zcb_some, nI_1]
      obtain ⟨n', K'', R'', D'', r1, r2, r3⟩ := ih (k + 1) fu (n + 1) K' R' D' (by omega) (by omega) hS' hP' (h3.congr (fun c _ _ => e8 c (by omega))) (h63.congr (fun c _ _ => e8 c (by omega)))
      rw [sI, Fn, if_pos c] at r1
      exact ⟨n', K'', R'', D'', r1, r2, fun c hc => by rw [r3 c hc, e8 c (by omega)]⟩
    · rw [if_neg c, if_pos rfl, nI_1]
      obtain ⟨n', K'', R'', D'', r1, r2, r3⟩ := ih (k + 1) fu n K R D (by omega) (by omega) hS hP h3 h63
      rw [sI, Fn, if_neg c, Int32.add_zero] at r1
      exact ⟨n', K'', R'', D'', r1, r2, r3⟩
/-- differ of the reference, once the map and the kept one are known -/
theorem n_differ9 {D : DD} {f g : Mp} {us : List Mp} {sl : Nat → Option Mp} {xs : List Int32} {tr : Int32} {fm : List Int32} {s : Nat} {w : Int32} (hM : MI D 80 f us sl xs tr fm) (hs : s < 2) (hg : sl s = some g) : ∃ D' : DD, MI D' 80 f us sl xs tr fm ∧ (∀ c, c < 80 → D' c = D c) ∧ ((∃ v, v < 4 ∧ w = nI v ∧ ∃ r4 : Int32, LA (fun k => k < 100 ∧ f k ≠ g k) r4 ∧ g_X9_differ 80 (nI s) w D = some (an4 v (sI (Fo f g) 100) r4 (sI (Fp f g) 100) (sI (Fn f g) 100), D')) ∨ (¬ (w = 0 ∨ w = 1 ∨ w = 2 ∨ w = 3) ∧ g_X9_differ 80 (nI s) w D = some (-2, D'))) := by
  have hk5 : D 85 s = 1 ∧ ∀ k, k < 100 → D 84 (100 * s + k) = g k := by
    rcases hM.2.2.1 s hs with ⟨a, -⟩ | ⟨g', a, b, c⟩
    · rw [hg] at a; cases a
    · rw [hg] at a; cases a; exact ⟨b, c⟩
  have hin : (3 : Int64) = (nI 4 - (1 : Int32)).toInt64 := by decide
  unfold g_X9_differ
  rw [n_in01 hs, pcb_some, if_neg one_ne0, zck_nI hs (by decide), ix_nI (by omega), show 80 + 5 = 85 from rfl, hk5.1, if_neg one_ne0, hin]
  rcases place_or (L := 4) (by omega) w with ⟨v, hv, rfl⟩ | hp
  · have copy : ∀ (d k n : Nat) (F : Nat → Int32), k + d = 100 → d < n → (∀ j, j < k → F j = g j) → ∃ G : Nat → Int32, g_X9_differ_41 n 80 (nI s) (nI v) (nI k) (uA D 82 F) = vcb (g_X9_make 80 81 0 (uA D 82 G)) (fun D6 => vcb (g_X9_make 80 82 1 D6) (fun D8 => g_X9_differ_104 1000 80 (nI v) 0 (-9) 0 0 99 D8)) ∧ ∀ j, j < 100 → G j = g j := by
      intro d
      induction d with
      | zero =>
        intro k n F h1 h2 h3
        obtain ⟨n, rfl⟩ : ∃ q, n = q + 1 := ⟨n - 1, by omega⟩
        have hk : k = 100 := by omega
        subst hk
        rw [g_X9_differ_41, if_pos nI_100']
        exact ⟨F, rfl, h3⟩
      | succ d ih =>
        intro k n F h1 h2 h3
        obtain ⟨n, rfl⟩ : ∃ q, n = q + 1 := ⟨n - 1, by omega⟩
        have hk : k < 100 := by omega
        rw [g_X9_differ_41, if_neg (nI_100 hk), c100, zck_nI (by omega) (by decide), zck_nI hk (by decide), dlt_eq, ix_nI (by omega), ix_nI (by omega), nI_1, show 80 + 2 = 82 from rfl, show 80 + 4 = 84 from rfl, uA_ne _ _ (by omega), hk5.2 k hk, u2_uA]
        exact ih (k + 1) n (upd F k (g k)) (by omega) (by omega) (fun j hj => by
          by_cases e : j = k
          · rw [e, upd_same]
          · rw [upd_ne _ _ e]; exact h3 j (by omega))
    obtain ⟨G, c1, c2⟩ := copy 100 0 1000 (D 82) (by omega) (by omega) (fun j hj => by omega)
    rw [uA_self, nI_0] at c1
    obtain ⟨D1, m1, m2, m3⟩ := n_make (m := 80) (v := 81) (lev := 0) (f := f) (D := uA D 82 G) (Or.inl rfl) (by omega) (fun k hk => by rw [uA_ne _ _ (by omega)]; exact hM.1 k hk)
    obtain ⟨D2, l1, l2, l3, l4⟩ := n_makeB (m := 80) (v := 82) (lev := 1) (f := g) (D := D1) (Or.inr rfl) (by omega) (fun k hk => by rw [m3.1 82 (by omega) (by omega), uA_same]; exact c2 k hk)
    have hMP : MP D2 f g := by
      refine ⟨fun k hk => ⟨?_, ?_⟩, fun k hk hf => ?_, fun k hk hg => ?_⟩
      · rw [l3.1 81 (by omega) (by omega), m3.1 81 (by omega) (by omega), uA_ne _ _ (by omega)]; exact hM.1 k hk
      · rw [l3.1 82 (by omega) (by omega), m3.1 82 (by omega) (by omega), uA_same]; exact c2 k hk
      · obtain ⟨⟨-, -, -, r4⟩, -, -, r7, r8⟩ := m2.2 k hk hf
        rw [Nat.mul_zero, Nat.zero_add] at r4 r7 r8
        exact ⟨by rw [l4 93 (by omega) (by omega) k (by omega)]; exact r8, by rw [l4 86 (by omega) (by omega) k (by omega)]; exact r4, by rw [l4 92 (by omega) (by omega) k (by omega)]; exact r7⟩
      · obtain ⟨-, -, -, -, r8⟩ := l2.2 k hk hg
        exact r8
    obtain ⟨r4, q1, q2⟩ := n_differLoop hMP hv 100 1000 0 (-9) 0 0 (by omega) (by omega) (Or.inl ⟨rfl, fun k hk => by omega⟩)
    have hMU : MI (uA D 82 G) 80 f us sl xs tr fm := hM.keep (fun c hc => by rw [uA_ne _ _ (by omega)]) (fun j hj => by rw [uA_ne _ _ (by omega)])
    refine ⟨D2, (hMU.fp m3.P).fp l3.P, fun c hc => by rw [l3.1 c (by omega) (by omega), m3.1 c (by omega) (by omega), uA_ne _ _ (by omega)], Or.inl ⟨v, hv, rfl, r4, q2, ?_⟩⟩
    rw [n_inL (by omega) hv, pcb_some, if_neg one_ne0, c1]
    rw [nI_0] at m1
    rw [show nI 1 = 1 from rfl] at l1
    rw [m1, vcb_some, l1, vcb_some, show (99 : Int32) = nI 100 - 1 by decide, q1, Int32.zero_add, Int32.zero_add, Int32.zero_add]
  · refine ⟨D, hM, fun _ _ => rfl, Or.inr ⟨?_, ?_⟩⟩
    · rintro (q | q | q | q) <;> subst q <;> exact absurd hp (by decide)
    · rw [n_inL_f (by omega) hp, pcb_some, if_pos rfl]
theorem CI.grow63 {D D' : DD} {f : Mp} {us : List Mp} {sl : Nat → Option Mp} {xs : List Int32} {tr : Int32} {fm : List Int32} (hC : CI D f us sl xs tr fm) (h : Fr 63 D D') : CI D' f us sl xs tr fm := hC.keep (fun c hc => h.1 c (by omega) (by omega) (by omega) (by omega) (by omega))
theorem ok_differ (x w : Int32) : OpOk (f_X8_differ 0 x w) (f_X9_differ 80 x w) := by
  rintro σ ⟨n, K, R, D, rfl, hS, hD⟩
  obtain ⟨f, us, sl, xs, tr, fm, hC, hM, hA⟩ := id hD
  have h8 := hS.1
  have h117 := hS.2.2
  have good : Good ((n, K, R, D) : Mm) := ⟨n, K, R, D, rfl, hS, hD⟩
  unfold f_X8_differ
  rw [G_X8_isSlot]
  rcases slot_or x with ⟨s, hs, rfl⟩ | hs
  · have hs6 := X8_es h8 hs
    rw [n_isSlot hs, Option.map_some, zcb_some, if_neg one_ne0, zck_t (X8_o h8), X8_r4 h8, zrb_some]
    have hka : kA ((n, K, R, D) : Mm) 4 (0 + 60) (nI s) = true := by
      have hq := X8_q h8
      simp only [kA, mN, mK, hq.1, hq.2, ix_nI (show s < 2 ^ 31 by omega)]
      simp [nI_pos (show s < 2 ^ 31 by omega), hs, show 60 < n by omega]
    rw [zck_t hka, ix_nI (by omega), X8_e h8 hs, zrb_some, zck_t (X6_o hs6), G_X6_isFilled _ _ hs6]
    unfold g_X6_isFilled
    rw [show 0 + 74 + 3 * s = 74 + 3 * s by omega] at hs6 ⊢
    rcases hC.2.2.2.1 s hs with ⟨e1, e2⟩ | ⟨g, e1, e2, e3⟩
    · rw [e2, zck_t (by decide), Option.map_some, zcb_some, if_pos rfl]
      refine ⟨_, _, (n, K, R, D), rfl, X9_o hS.2.1, ?_, good⟩
      rw [G_X9_differ _ _ _ _ hS.2.1]
      unfold g_X9_differ
      have hk5 : D 85 s = 0 := by
        rcases hM.2.2.1 s hs with ⟨-, a⟩ | ⟨g', a, -, -⟩
        · exact a
        · rw [e1] at a; cases a
      rw [n_in01 hs, pcb_some, if_neg one_ne0, zck_nI hs (by decide), ix_nI (by omega), show 80 + 5 = 85 from rfl, hk5, if_pos rfl]
      rfl
    · have hgo : OkM g := hA.2.2.1 s g e1
      have hs2 : isX2 n K R (74 + 3 * s + 1) := X6_s0 hs6
      rw [e2, zck_t (by decide), Option.map_some, zcb_some, if_neg one_ne0, zck_t (X8_o h8), X8_r4 h8, zrb_some, zck_t hka, X8_e h8 hs, zrb_some, show 0 + 74 + 3 * s = 74 + 3 * s by omega, zck_t (X6_o hs6), q_X6_pairs hs6, zcb_some, zck_t (X8_o h8), zck_t (X8_o h8), zck_t (X8_o h8), zck_t (X8_o h8)]
      obtain ⟨D1, g1, g2, g3⟩ := n_regrow (D := D) (t := 63) (p := 74 + 3 * s + 1) (f := g) (Or.inr (by omega)) e3.1 hC.2.2.2.2.2.2.1
      have hC1 := hC.grow63 g3
      have hM1 : MI D1 80 f us sl xs tr fm := hM.congr (fun c a b => g3.1 c (by omega) (by omega) (by omega) (by omega) (by omega))
      by_cases w0 : w = 0
      · obtain ⟨D', t1, t2, t3⟩ := n_differ9 (w := w) hM hs e1
        rw [if_pos w0, G_X8_countOtherwise _ _ _ h8 hs2, n_countOther hC.1 e3, Option.map_some, zcb_some]
        rcases t3 with ⟨v, hv, ev, r4, -, t3⟩ | ⟨t3, -⟩
        · have hv0 : v = 0 := (nI_eq (b := 0) (by omega) (by omega)).mp (by rw [← ev, w0]; exact nI_0.symm)
          subst hv0
          exact ⟨_, _, (n, K, R, D'), rfl, X9_o hS.2.1, by rw [G_X9_differ _ _ _ _ hS.2.1, t3]; rfl, n, K, R, D', rfl, hS, f, us, sl, xs, tr, fm, hC.congr t2, t1, hA⟩
        · exact absurd (Or.inl w0) t3
      rw [if_neg w0]
      by_cases w1 : w = 1
      · obtain ⟨D', t1, t2, t3⟩ := n_differ9 (w := w) hM hs e1
        obtain ⟨r, r1, r2⟩ := n_leastOther hC.1 e3
        rw [if_pos w1, G_X8_leastOtherwise _ _ _ h8 hs2, r1, Option.map_some, zcb_some]
        rcases t3 with ⟨v, hv, ev, r4, r5, t3⟩ | ⟨t3, -⟩
        · have hv0 : v = 1 := (nI_eq (b := 1) (by omega) (by omega)).mp (by rw [← ev, w1]; rfl)
          subst hv0
          rw [LA_uniq (fun k => Iff.rfl) r2 r5]
          exact ⟨_, _, (n, K, R, D'), rfl, X9_o hS.2.1, by rw [G_X9_differ _ _ _ _ hS.2.1, t3]; rfl, n, K, R, D', rfl, hS, f, us, sl, xs, tr, fm, hC.congr t2, t1, hA⟩
        · exact absurd (Or.inr (Or.inl w1)) t3
      rw [if_neg w1]
      by_cases w2 : w = 2
      · obtain ⟨D', t1, t2, t3⟩ := n_differ9 (w := w) hM1 hs e1
        rw [if_pos w2, G_X8_countPassedOver _ _ _ h8 hs2]
        unfold g_X8_countPassedOver
        rw [show 0 + 63 = 63 from rfl, g1, vcb_some, n_passedOver hA.1 hgo hC1.2.1 g2, Option.map_some, zcb_some]
        rcases t3 with ⟨v, hv, ev, r4, r5, t3⟩ | ⟨t3, -⟩
        · have hv0 : v = 2 := (nI_eq (b := 2) (by omega) (by omega)).mp (by rw [← ev, w2]; rfl)
          subst hv0
          exact ⟨_, _, (n, K, R, D'), rfl, X9_o hS.2.1, by rw [G_X9_differ _ _ _ _ hS.2.1, t3]; rfl, n, K, R, D', rfl, hS, f, us, sl, xs, tr, fm, hC1.congr t2, t1, hA⟩
        · exact absurd (Or.inr (Or.inr (Or.inl w2))) t3
      rw [if_neg w2]
      by_cases w3 : w = 3
      · rw [if_pos w3]
        unfold f_X8_countNodesPassedOver
        rw [zck_t (X8_o h8), X8_r6 h8, zrb_some, zck_t (X7_o (X8_s6 h8)), G_X7_grow _ _ _ (X8_s6 h8) hs2, show 0 + 63 = 63 from rfl, g1, Option.map_some, zcb_some]
        obtain ⟨n', K', R', D2, u1, u2', u3⟩ := n_nodesOver hA.1 hgo 100 0 101 n K R D1 (by omega) (by omega) hS hC1.1 hC1.2.1 g2
        have hC2 : CI D2 f us sl xs tr fm := hC1.congr (fun c hc => u3 c (by omega))
        have hM2 : MI D2 80 f us sl xs tr fm := hM1.congr (fun c _ hc => u3 c hc)
        obtain ⟨D', t1, t2, t3⟩ := n_differ9 (w := w) hM2 hs e1
        rw [nI_0] at u1
        have u1' : f_X8_countNodesPassedOver_12 101 0 0 0 ((n, K, R, D1) : Mm) = _ := u1
        rw [u1', zcb_some]
        rcases t3 with ⟨v, hv, ev, r4, r5, t3⟩ | ⟨t3, -⟩
        · have hv0 : v = 3 := (nI_eq (b := 3) (by omega) (by omega)).mp (by rw [← ev, w3]; rfl)
          subst hv0
          exact ⟨_, _, (n', K', R', D'), rfl, X9_o u2'.2.1, by rw [G_X9_differ _ _ _ _ u2'.2.1, t3]; rfl, n', K', R', D', rfl, u2', f, us, sl, xs, tr, fm, hC2.congr t2, t1, hA⟩
        · exact absurd (Or.inr (Or.inr (Or.inr w3))) t3
      rw [if_neg w3]
      obtain ⟨D', t1, t2, t3⟩ := n_differ9 (w := w) hM hs e1
      rcases t3 with ⟨v, hv, ev, -⟩ | ⟨-, t3⟩
      · exfalso
        rcases (show v = 0 ∨ v = 1 ∨ v = 2 ∨ v = 3 by omega) with e | e | e | e
        · subst e; exact w0 (by rw [ev]; exact nI_0)
        · subst e; exact w1 (by rw [ev]; rfl)
        · subst e; exact w2 (by rw [ev]; rfl)
        · subst e; exact w3 (by rw [ev]; rfl)
      · exact ⟨_, _, (n, K, R, D'), rfl, X9_o hS.2.1, by rw [G_X9_differ _ _ _ _ hS.2.1, t3]; rfl, n, K, R, D', rfl, hS, f, us, sl, xs, tr, fm, hC.congr t2, t1, hA⟩
  · rw [n_isSlot_f hs, Option.map_some, zcb_some, if_pos rfl]
    refine ⟨_, _, (n, K, R, D), rfl, X9_o hS.2.1, ?_, good⟩
    rw [G_X9_differ _ _ _ _ hS.2.1]
    unfold g_X9_differ
    rw [n_in01_f hs, pcb_some, if_pos rfl]
    rfl
