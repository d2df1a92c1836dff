theorem rd_zero {a b : Nat} : ∀ (xs : List Int32) (st : List RW) (s h : Nat → Int32), (∀ w ∈ st, w.2.1 = 100 ∨ s w.2.1 ≠ -9) → (∀ g, g < 100 → s g = -9 → h g = 0) → ∀ g, g < 100 → (rd a b xs st s h).2.1 g = -9 → (rd a b xs st s h).2.2 g = 0 := by
  intro xs
  induction xs with
  | nil =>
    intro st s h h1 h2 g hg hs
    cases st with
    | nil => rw [rd] at hs ⊢; exact h2 g hg hs
    | cons w st => rw [rd] at hs ⊢; exact h2 g hg hs
  | cons x xs ih =>
    intro st s h h1 h2 g hg hs
    cases st with
    | nil => rw [rd] at hs ⊢; exact h2 g hg hs
    | cons w st =>
      have leaf : (rd a b xs st s (upd h w.2.1 x)).2.1 g = -9 → (rd a b xs st s (upd h w.2.1 x)).2.2 g = 0 := by
        refine ih st s (upd h w.2.1 x) (fun w' hw' => h1 w' (List.mem_cons_of_mem _ hw')) (fun g' hg' hs' => ?_) g hg
        by_cases e : g' = w.2.1
        · subst e
          rcases h1 w List.mem_cons_self with q | q
          · omega
          · exact absurd hs' q
        · rw [upd_ne _ _ e]; exact h2 g' hg' hs'
      rw [rd] at hs ⊢
      by_cases c0 : 0 ≤ x
      · rw [if_pos c0] at hs ⊢
        by_cases c1 : x = 0
        · rw [if_pos c1] at hs ⊢; exact leaf hs
        · rw [if_neg c1] at hs ⊢
          by_cases c2 : w.2.1 ≤ w.1
          · rw [if_pos c2] at hs ⊢; exact h2 g hg hs
          · rw [if_neg c2] at hs ⊢
            by_cases c3 : w.1 ≤ b ∧ a < w.2.1
            · rw [if_pos c3] at hs ⊢; exact h2 g hg hs
            · rw [if_neg c3] at hs ⊢; exact leaf hs
      · rw [if_neg c0] at hs ⊢
        by_cases c1 : ¬ (w.1 ≤ kx x ∧ kx x < w.2.1)
        · rw [if_pos c1] at hs ⊢; exact h2 g hg hs
        · rw [if_neg c1] at hs ⊢
          by_cases c2 : under (kx x) w.2.2 = false
          · rw [if_pos c2] at hs ⊢; exact h2 g hg hs
          · rw [if_neg c2] at hs ⊢
            refine ih _ _ h (fun w' hw' => ?_) (fun g' hg' hs' => ?_) g hg hs
            · have keep : ∀ z, (z = 100 ∨ s z ≠ -9) → (z = 100 ∨ upd s (kx x) (vx x) z ≠ -9) := fun z hz => by
                by_cases e : z = kx x
                · subst e; rw [upd_same]; exact Or.inr (vx_ne9 x)
                · rw [upd_ne _ _ e]; exact hz
              rcases List.mem_cons.mp hw' with rfl | hw'
              · exact Or.inr (by show upd s (kx x) (vx x) (kx x) ≠ -9; rw [upd_same]; exact vx_ne9 x)
              · rcases List.mem_cons.mp hw' with rfl | hw'
                · exact keep _ (h1 w List.mem_cons_self)
                · exact keep _ (h1 w' (List.mem_cons_of_mem _ hw'))
            · by_cases e : g' = kx x
              · subst e; rw [upd_same] at hs'; exact absurd hs' (vx_ne9 x)
              · rw [upd_ne _ _ e] at hs'; exact h2 g' hg' hs'
theorem rdR_zero {a b : Nat} {xs : List Int32} {k : Nat} (hk : k < 100) (h : (rdR a b xs).2.1 k = -9) : (rdR a b xs).2.2 k = 0 :=
  rd_zero xs [(0, 100, none)] no9 zg (fun w hw => by rw [List.mem_singleton.mp hw]; exact Or.inl rfl) (fun _ _ _ => rfl) k hk h
theorem n_after73 {D : DD} {s h : Nat → Int32} (hP : Prs D 46 s) (hG : Gp D 48 h) : ∃ D' : DD, g_X5_digestAfter_73 42 D = some (dg s h 0 100, D') ∧ ∀ c, c < 46 ∨ 59 < c → D' c = D c := by
  obtain ⟨D', e1, e2, e3, e4, e5⟩ := n_grow (a := 48) (p := 46) (f := s) (h := h) (D := D) (Or.inl (by omega)) ⟨hP.1, hG⟩
  refine ⟨D', ?_, fun c hc => e2.1 c (by omega) (by omega) (by omega) (by omega) (by omega)⟩
  unfold g_X5_digestAfter_73
  rw [show 42 + 6 = 48 from rfl, show 42 + 4 = 46 from rfl, e1, vcb_some, n_rootDigest (f := s) (h := h) (fun g hg => by rw [e2.1 (48 + 4) (by omega) (by omega) (by omega) (by omega) (by omega)]; exact hG g hg) e3 e4, pcb_some]
def lo1 (k : Nat) : Nat := k - 1
def hi1 (k : Nat) : Nat := min (k + 1) 99
theorem n_lo8 {k : Nat} (hk : k < 100) : g_J9_max_7cf53 (nI k - (1 : Int32)) 0 = some (nI (lo1 k)) := by
  unfold g_J9_max_7cf53 lo1
  rcases k with _ | k
  · rw [if_pos (show nI 0 - 1 < 0 by decide)]; rfl
  · rw [nI_pred, if_neg (nI_pos (by omega))]; rfl
theorem n_hi8 {k : Nat} (hk : k < 100) : g_J9_min_7cf53 (nI k + (1 : Int32)) 99 = some (nI (hi1 k)) := by
  unfold g_J9_min_7cf53 hi1
  rw [nI_1]
  by_cases c : 99 < k + 1
  · rw [if_pos (show (99 : Int32) < nI (k + 1) from nI_lt (a := 99) c (by omega)), Nat.min_eq_right (by omega)]; rfl
  · rw [if_neg (show ¬ (99 : Int32) < nI (k + 1) from nI_nlt (a := 99) (by omega) (by decide)), Nat.min_eq_left (by omega)]
theorem n_range9 {k : Nat} {v : Int32} {D : DD} (hk : k < 100) : g_X9_followed_23 80 (nI k) v D = g_X9_followed_49 80 (nI k) v 80 (nI (lo1 k)) (nI (hi1 k)) D := by
  have h35 : ∀ w1 : Int32, g_X9_followed_35 80 (nI k) v 80 w1 D = g_X9_followed_49 80 (nI k) v 80 w1 (nI (hi1 k)) D := by
    intro w1
    unfold g_X9_followed_35 hi1
    by_cases c : 99 ≤ k
    · rw [if_pos (show (99 : Int32) ≤ nI k from nI_le (a := 99) c (by omega)), Nat.min_eq_right (by omega)]; rfl
    · rw [if_neg (show ¬ (99 : Int32) ≤ nI k from nI_ge (b := 99) (by omega) (by decide)), Nat.min_eq_left (by omega), nI_1]
  unfold g_X9_followed_23
  rw [h35, h35]
  unfold lo1
  rcases k with _ | k
  · rw [if_pos (show nI 0 ≤ 0 by decide)]; rfl
  · rw [if_neg (nI_nle (by omega) (by omega)), nI_pred]; rfl
/-- a step by class and reference: the same answer, and nothing but what was worked on is changed -/
theorem n_step {D : DD} {f : Mp} {us : List Mp} {sl : Nat → Option Mp} {xs : List Int32} {tr : Int32} {fm : List Int32} (hI : Inv D f us sl xs tr fm) {k : Nat} {v : Int32} (hk : k < 100) (hv : v = -9 ∨ isNum v) : ∃ (r : Int32) (D1 : DD), g_X5_digestAfter 42 (nI k) v D = some (r, D1) ∧ CI D1 f us sl xs tr fm ∧ (∀ c, 80 ≤ c → D1 c = D c) ∧ ∀ E : DD, MI E 80 f us sl xs tr fm → ∃ E' : DD, g_X9_followed_23 80 (nI k) v E = some (r, E') ∧ MI E' 80 f us sl xs tr fm ∧ ∀ c, c < 80 → E' c = E c := by
  obtain ⟨hC, hM, hA⟩ := hI
  have hl : lo1 k ≤ hi1 k := by unfold lo1 hi1; omega
  have hh : hi1 k < 100 := by unfold hi1; omega
  obtain ⟨D1, q1, q3, q4, q2, q5⟩ := n_reasonBy (r := 42) (a := lo1 k) (b := hi1 k) (by omega) hh hA.2.2.2.1 hA.2.2.2.2.1 hA.2.2.2.2.2.1 hC.row hC.tru
  have hC1 := hC.ft q2
  have h80 : ∀ c, 80 ≤ c → D1 c = D c := fun c hc => q2 c (by omega)
  have hz0 : (rdR (lo1 k) (hi1 k) xs).2.1 k = -9 → (rdR (lo1 k) (hi1 k) xs).2.2 k = 0 := rdR_zero hk
  have mo : ∀ E : DD, MI E 80 f us sl xs tr fm → ∃ E1 : DD, g_X9_reasonOf 80 (nI (lo1 k)) (nI (hi1 k)) E = some (nI (rsn (lo1 k) (hi1 k) xs tr fm), E1) ∧ MI E1 80 f us sl xs tr fm ∧ (∀ c, c < 80 → E1 c = E c) ∧ (rsn (lo1 k) (hi1 k) xs tr fm = 0 → ∃ E2 : DD, g_X9_layRow 80 E1 = some E2 ∧ RowK E2 80 (rdR (lo1 k) (hi1 k) xs).2.1 (rdR (lo1 k) (hi1 k) xs).2.2 ∧ MI E2 80 f us sl xs tr fm ∧ ∀ c, c < 80 → E2 c = E c) := by
    intro E hE
    obtain ⟨E1, p1, p2, p3⟩ := n_reasonOf (m := 80) hl hh hA.2.2.2.1 hA.2.2.2.2.1 hA.2.2.2.2.2.1 hE.row hE.tru
    refine ⟨E1, p1, hE.fx p2, fun c hc => p2.1 c (by omega) (by omega), fun hz => ?_⟩
    obtain ⟨c, kf, lf, hf, n1, n2, n3, n4⟩ := p3 (fine_of hz)
    obtain ⟨E2, t1, t2, t3⟩ := n_layRow n1 n4 n2 n3
    exact ⟨E2, t1, t2, (hE.fx p2).fl (fun c c1 c2 _ => t3.1 c c1 (by omega)) (fun j j1 _ => t3.2 j j1), fun c hc => by rw [t3.1 c (by omega) (by omega), p2.1 c (by omega) (by omega)]⟩
  unfold g_X5_digestAfter
  rw [n_lo8 hk, pcb_some, n_hi8 hk, pcb_some, q1, dcb_some]
  by_cases hz : rsn (lo1 k) (hi1 k) xs tr fm = 0
  · rw [hz, if_pos (show nI 0 = 0 from nI_0)]
    generalize (rdR (lo1 k) (hi1 k) xs).2.1 = s at *
    generalize (rdR (lo1 k) (hi1 k) xs).2.2 = h at *
    have digest : ∀ (E2 E3 : DD) (s' : Nat → Int32), MI E2 80 f us sl xs tr fm → RowK E3 80 s' h → (∀ c, c ≠ 80 → c < 110 → E3 c = E2 c) → (∀ j, j ≠ 41 → E3 80 j = E2 80 j) → ∃ E' : DD, g_X9_followed_118 80 E3 = some (dg s' h 0 100, E') ∧ MI E' 80 f us sl xs tr fm ∧ ∀ c, c < 80 → E' c = E2 c := by
      intro E2 E3 s' hE2 hK ho hm
      obtain ⟨E', d1, d2⟩ := n_rowDigest hK
      refine ⟨E', by unfold g_X9_followed_118; rw [d1, dcb_some], hE2.fl (fun c c1 c2 c3 => by rw [d2.1 c c1 (by omega), ho c c1 c2]) (fun j j1 j2 => by rw [d2.2 j j2, hm j j1]), fun c hc => by rw [d2.1 c (by omega) (by omega), ho c (by omega) (by omega)]⟩
    by_cases hv9 : v = -9
    · rw [if_pos hv9, show 42 + 4 = 46 from rfl, n_has hk, q3.1 k hk, pcb_some]
      by_cases hs : s k = -9
      · rw [if_pos hs, if_pos rfl]
        refine ⟨_, D1, rfl, hC1, h80, fun E hE => ?_⟩
        obtain ⟨E1, m1, m2, m3, m4⟩ := mo E hE
        obtain ⟨E2, t1, t2, t3, t4⟩ := m4 hz
        refine ⟨E2, ?_, t3, t4⟩
        rw [n_range9 hk]
        unfold g_X9_followed_49
        rw [m1, dcb_some, hz, if_pos (show nI 0 = 0 from nI_0), t1, vcb_some, n_placeOf9 t2.1 hk, if_pos hs, pcb_some, if_pos rfl, if_pos hv9]
      · rw [if_neg hs, if_neg one_ne0]
        obtain ⟨D2, u1, u2', u3⟩ := n_drop q3 hk hs
        obtain ⟨D3, w1, w2⟩ := n_after73 (h := h) u2' (fun g hg => by rw [u3 _ (by omega) (by omega)]; exact q4 g hg)
        rw [u1, vcb_some, w1]
        have hf3 : ∀ c, c < 46 ∨ 59 < c → D3 c = D1 c := fun c hc => by rw [w2 c hc, u3 c (by omega) (by omega)]
        refine ⟨_, D3, rfl, hC1.ft hf3, fun c hc => by rw [hf3 c (by omega), h80 c hc], fun E hE => ?_⟩
        obtain ⟨E1, m1, m2, m3, m4⟩ := mo E hE
        obtain ⟨E2, t1, t2, t3, t4⟩ := m4 hz
        obtain ⟨E3, x1, x2, x3⟩ := n_takeOut t2 hk hs
        obtain ⟨E', y1, y2, y3⟩ := digest E2 E3 _ t3 x2 (fun c c1 c2 => x3.1 c c1 (by omega)) (fun j j1 => x3.2 j j1)
        refine ⟨E', ?_, y2, fun c hc => by rw [y3 c hc, t4 c hc]⟩
        have hN := cn_100 s
        have hlt := cn_lt hk hs
        rw [n_range9 hk]
        unfold g_X9_followed_49 g_X9_followed_82
        rw [m1, dcb_some, hz, if_pos (show nI 0 = 0 from nI_0), t1, vcb_some, n_placeOf9 t2.1 hk, if_neg hs, pcb_some, if_neg (nI_ne9 (by omega)), if_pos hv9, x1, vcb_some, y1]
    · rw [if_neg hv9, show 42 + 4 = 46 from rfl]
      obtain ⟨D2, u1, u2', u3⟩ := n_give q3 hk hv9
      obtain ⟨D3, w1, w2⟩ := n_after73 (h := h) u2' (fun g hg => by rw [u3 _ (by omega) (by omega)]; exact q4 g hg)
      rw [u1, vcb_some, w1]
      have hf3 : ∀ c, c < 46 ∨ 59 < c → D3 c = D1 c := fun c hc => by rw [w2 c hc, u3 c (by omega) (by omega)]
      refine ⟨_, D3, rfl, hC1.ft hf3, fun c hc => by rw [hf3 c (by omega), h80 c hc], fun E hE => ?_⟩
      obtain ⟨E1, m1, m2, m3, m4⟩ := mo E hE
      obtain ⟨E2, t1, t2, t3, t4⟩ := m4 hz
      have hN := cn_100 s
      rw [n_range9 hk]
      unfold g_X9_followed_49 g_X9_followed_82
      rw [m1, dcb_some, hz, if_pos (show nI 0 = 0 from nI_0), t1, vcb_some, n_placeOf9 t2.1 hk, pcb_some]
      by_cases hs : s k = -9
      · obtain ⟨E3, x1, x2, x3⟩ := n_putIn t2 hk hs hv9
        have hu : upd h k 0 = h := by
          funext j
          by_cases e : j = k
          · rw [e, upd_same]; exact (hz0 hs).symm
          · rw [upd_ne _ _ e]
        rw [hu] at x2
        obtain ⟨E', y1, y2, y3⟩ := digest E2 E3 _ t3 x2 (fun c c1 c2 => x3.1 c c1 (by omega)) (fun j j1 => x3.2 j j1)
        refine ⟨E', ?_, y2, fun c hc => by rw [y3 c hc, t4 c hc]⟩
        rw [if_pos hs, if_pos rfl, if_neg hv9, if_neg hv9, if_pos rfl, x1, vcb_some, y1]
      · have hlt := cn_lt hk hs
        obtain ⟨E', y1, y2, y3⟩ := digest E2 _ _ t3 (n_rowSet t2 hk hs hv9) (fun c c1 c2 => by rw [u2_ne _ _ (by omega)]) (fun j j1 => by rw [u2_ne _ _ (by omega)])
        refine ⟨E', ?_, y2, fun c hc => by rw [y3 c hc, t4 c hc]⟩
        rw [if_neg hs, if_neg (nI_ne9 (by omega)), if_neg hv9, if_neg (nI_ne9 (by omega)), zck_nI (by omega) (by decide), dlt_eq, ix_nI (by omega), y1]
  · rw [if_neg (nI_ne0 (by omega) (by omega))]
    refine ⟨_, D1, rfl, hC1, h80, fun E hE => ?_⟩
    obtain ⟨E1, m1, m2, m3, m4⟩ := mo E hE
    refine ⟨E1, ?_, m2, m3⟩
    rw [n_range9 hk]
    unfold g_X9_followed_49
    rw [m1, dcb_some, if_neg (nI_ne0 (by omega) (by omega))]
theorem step_or (x v : Int32) : (∃ k, k < 100 ∧ x = nI k ∧ (v = -9 ∨ isNum v) ∧ g_X8_isStep x v = some 1 ∧ ∀ E : DD, g_X9_followed 80 x v E = g_X9_followed_23 80 x v E) ∨ (g_X8_isStep x v = some 0 ∧ ∀ E : DD, g_X9_followed 80 x v E = some (-2, E)) := by
  rcases num_or x with ⟨k, hk, rfl⟩ | hk
  · by_cases h9 : v = -9
    · subst h9
      refine Or.inl ⟨k, hk, rfl, Or.inl rfl, ?_, fun E => ?_⟩
      · unfold g_X8_isStep
        rw [n_isNumber hk, pcb_some, if_neg one_ne0, n_isNumber9, pcb_some, if_pos rfl, if_pos rfl]
      · unfold g_X9_followed
        rw [n_isNumber9t hk, pcb_some, if_neg one_ne0, if_pos rfl]
    · rcases num_or v with ⟨j, hj, rfl⟩ | hv
      · refine Or.inl ⟨k, hk, rfl, Or.inr (isNum_nI hj), ?_, fun E => ?_⟩
        · unfold g_X8_isStep
          rw [n_isNumber hk, pcb_some, if_neg one_ne0, n_isNumber hj, pcb_some, if_neg one_ne0]
        · unfold g_X9_followed
          rw [n_isNumber9t hk, pcb_some, if_neg one_ne0, if_neg h9, n_isNumber9t hj, pcb_some, if_neg one_ne0]
      · refine Or.inr ⟨?_, fun E => ?_⟩
        · unfold g_X8_isStep
          rw [n_isNumber hk, pcb_some, if_neg one_ne0, n_isNumber_f hv, pcb_some, if_pos rfl, if_neg h9]
        · unfold g_X9_followed
          rw [n_isNumber9t hk, pcb_some, if_neg one_ne0, if_neg h9, n_isNumber9f hv, pcb_some, if_pos rfl]
  · refine Or.inr ⟨?_, fun E => ?_⟩
    · unfold g_X8_isStep
      rw [n_isNumber_f hk, pcb_some, if_pos rfl]
    · unfold g_X9_followed
      rw [n_isNumber9f hk, pcb_some, if_pos rfl]
theorem op_step {D : DD} (h : St D) (x v : Int32) : ∃ (r : Int32) (D1 D2 : DD), g_X8_step 0 x v D = some (r, D1) ∧ g_X9_step 80 x v D1 = some (r, D2) ∧ St D2 := by
  obtain ⟨f, us, sl, xs, tr, fm, hI⟩ := id h
  unfold g_X8_step g_X9_step
  simp only [Nat.zero_add]
  rcases step_or x v with ⟨k, hk, rfl, hv, e1, e2⟩ | ⟨e1, e2⟩
  · rw [e1, pcb_some, if_neg one_ne0]
    simp only [e2]
    obtain ⟨r, D1, q1, q2, q3, q4⟩ := n_step hI hk hv
    obtain ⟨E, p1, p2, p3⟩ := q4 D1 (hI.2.1.congr (fun c c1 _ => q3 c c1))
    rw [q1, dcb_some]
    exact ⟨r, D1, E, rfl, by rw [p1, dcb_some], f, us, sl, xs, tr, fm, q2.congr p3, p2, hI.2.2⟩
  · rw [e1, pcb_some, if_pos rfl]
    exact ⟨_, D, D, rfl, by rw [e2, dcb_some], h⟩
theorem op_follow {D : DD} (h : St D) (x v : Int32) : ∃ (r : Int32) (D1 D2 : DD), g_X8_follow 0 x v D = some (r, D1) ∧ g_X9_follow 80 x v D1 = some (r, D2) ∧ St D2 := by
  obtain ⟨f, us, sl, xs, tr, fm, hI⟩ := id h
  unfold g_X8_follow g_X9_follow
  simp only [Nat.zero_add]
  rcases step_or x v with ⟨k, hk, rfl, hv, e1, e2⟩ | ⟨e1, e2⟩
  · rw [e1, pcb_some, if_neg one_ne0]
    simp only [e2]
    obtain ⟨r, D1, q1, q2, q3, q4⟩ := n_step hI hk hv
    rw [q1, dcb_some]
    by_cases hr : 0 ≤ r
    · rw [if_pos hr]
      obtain ⟨D2, a1, a2, a3⟩ := trusted q2 hI.2.2 r
      obtain ⟨E, p1, p2, p3⟩ := q4 D2 (hI.2.1.congr (fun c c1 _ => by rw [a3 c c1, q3 c c1]))
      obtain ⟨E2, b1, b2, b3⟩ := trusted9 p2 hI.2.2 r
      rw [a1, dcb_some]
      exact ⟨_, D2, E2, rfl, by rw [p1, dcb_some, if_pos hr, b1, dcb_some], f, us, sl, xs, _, _, a2.congr (fun c hc => by rw [b3 c hc, p3 c hc]), b2, hI.2.2.cons8⟩
    · rw [if_neg hr]
      obtain ⟨E, p1, p2, p3⟩ := q4 D1 (hI.2.1.congr (fun c c1 _ => q3 c c1))
      exact ⟨r, D1, E, rfl, by rw [p1, dcb_some, if_neg hr], f, us, sl, xs, tr, fm, q2.congr p3, p2, hI.2.2⟩
  · rw [e1, pcb_some, if_pos rfl]
    refine ⟨_, D, D, rfl, ?_, h⟩
    rw [e2, dcb_some, if_neg (by decide)]
