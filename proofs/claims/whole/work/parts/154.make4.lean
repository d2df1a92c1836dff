set_option maxHeartbeats 4000000 in
theorem n_make1 {f : Nat → Int32} {m v b lev : Nat} (hv : v = m + 1 ∨ v = m + 2) (hlev : lev < 2) (hb : b = 100 * lev) : ∀ (n : Nat) (ws : List WW) (os : List Nat) (D : DD), ws.length + 2 * sumc f ws < n → (∀ k, k < 100 → D v k = f k) → MkI f m b lev D ws os →
    ∃ (D' : DD) (os' : List Nat), g_X9_make_31 n m v (nI lev) (nI b) (nI os.length) D = g_X9_make_268 1000 m v (nI b) (nI os'.length - 1) D' ∧ MkI f m b lev D' [] os' ∧ FrM m D D' ∧ FrB m b D D' := by
  intro n
  induction n with
  | zero => intro ws os D h; omega
  | succ n ih =>
    intro ws os D hn hf hM
    obtain ⟨i1, i2, i3, i4, i5, i6, i7, i8, i9, i10⟩ := hM
    have hcn : cn f 0 100 ≤ 100 := cn_le f 0 100
    cases ws with
    | nil =>
      refine ⟨D, os, ?_, ⟨i1, i2, i3, i4, i5, i6, i7, i8, i9, i10⟩, FrM.rf, FrB.rf⟩
      rw [g_X9_make_31, i10, if_pos (show nI ([] : List WW).length ≤ 0 by decide)]
    | cons w r =>
      obtain ⟨lo, hi, on, sd⟩ := w
      have hwo : ∀ k ∈ os, k < 100 ∧ f k ≠ -9 := fun k hk => ⟨(i4 k hk).1, (i4 k hk).2.1⟩
      have hwk := i3 _ List.mem_cons_self
      obtain ⟨w1, w2, w3, w4⟩ := w_ok hwo hwk
      simp only at w1 w2 w3 w4
      obtain ⟨b1, b2, -, -⟩ := id w1
      simp only [List.length_cons] at i1 i10 hn
      simp only [sumc] at i2 hn
      have hr : r.length < 105 := by omega
      rw [n_make_step hv hlev hb hf i9 i10 hr b1 b2 w2 (fun o h => (w3 o h).2)]
      generalize hE : u2 D m 21 (nI r.length) = E
      have e21 : E m 21 = nI r.length := by rw [← hE, u2_same, upd_same]
      have eo : ∀ c, c ≠ m → E c = D c := fun c hc => by rw [← hE, u2_ne _ _ hc]
      have hFE : FrM m D E := ⟨fun c h1 _ => eo c h1, fun j hj => by rw [← hE, u2_same, upd_ne _ _ hj]⟩
      have hWr : Wn m D r := i9.2.2.2.2
      generalize hG : lk m lev b E on sd (oI (bs f lo hi)) = G
      have go : ∀ c, c ≠ m + 14 → c ≠ m + 7 → c ≠ m + 8 → G c = E c := fun c h1 h2 h3 => by rw [← hG]; exact lk_o _ _ _ _ h1 h2 h3
      have gL : ∀ j, G (m + 7) j = if on = some (j - b) ∧ sd = 0 ∧ b ≤ j then oI (bs f lo hi) else D (m + 7) j := fun j => by rw [← hG, lk_L, eo _ (by omega)]
      have gR : ∀ j, G (m + 8) j = if on = some (j - b) ∧ sd ≠ 0 ∧ b ≤ j then oI (bs f lo hi) else D (m + 8) j := fun j => by rw [← hG, lk_R, eo _ (by omega)]
      have gT : G (m + 14) = if on = none then upd (D (m + 14)) lev (oI (bs f lo hi)) else D (m + 14) := by rw [← hG, lk_T, eo _ (by omega)]
      have hFG : FrM m D G := hFE.tr ⟨fun c h1 h2 => go c (by omega) (by omega) (by omega), fun j hj => by rw [go m (by omega) (by omega) (by omega)]⟩
      have hBG : FrB m b D G := by
        intro c c1 c2 j hj
        by_cases c7 : c = m + 7
        · subst c7; rw [gL, if_neg (by omega)]
        · by_cases c8 : c = m + 8
          · subst c8; rw [gR, if_neg (by omega)]
          · rw [go c (by omega) c7 c8, eo c (by omega)]
      have top : ∀ (ws' : List WW), (∀ x ∈ r, x ∈ ws') → w0 ∈ ws' ∨ G (m + 14) lev = oI (bs f 0 100) := by
        intro ws' hs
        rcases hwk with q | ⟨k, hk, q | q⟩
        · cases q
          exact Or.inr (by rw [gT, if_pos rfl, upd_same])
        · rcases i5 with q5 | q5
          · rcases List.mem_cons.mp q5 with q6 | q6
            · rw [q] at q6; exact absurd (congrArg (fun w : WW => w.2.2.1) q6) (by simp [w0, wL, wR])
            · exact Or.inl (hs _ q6)
          · cases q
            exact Or.inr (by rw [gT, if_neg (by simp)]; exact q5)
        · rcases i5 with q5 | q5
          · rcases List.mem_cons.mp q5 with q6 | q6
            · rw [q] at q6; exact absurd (congrArg (fun w : WW => w.2.2.1) q6) (by simp [w0, wL, wR])
            · exact Or.inl (hs _ q6)
          · cases q
            exact Or.inr (by rw [gT, if_neg (by simp)]; exact q5)
      cases hbs : bs f lo hi with
      | none =>
        rw [show oI none = -9 from rfl, n_make_none]
        have hMG : MkI f m b lev G r os := by
          refine ⟨by omega, ?_, fun w hw => i3 w (List.mem_cons_of_mem _ hw), fun k hk => ?_, top r (fun _ h => h), fun pre k post e => ?_, fun x hx hfx => ?_, ?_, ?_, ?_⟩
          · have h0 : cn f lo hi = 0 := by
              have : ∀ d, d ≤ hi - lo → cnF f lo d = 0 := by
                intro d
                induction d with
                | zero => intro _; rfl
                | succ d ih2 => intro hd; rw [cnF, ih2 (by omega), if_pos (bs_none hbs (lo + d) (by omega) (by omega))]
              exact this _ (Nat.le_refl _)
            omega
          · obtain ⟨a1, a2, a3⟩ := i4 k hk
            refine ⟨a1, a2, ?_⟩
            unfold Rec
            rw [go (m + 10) (by omega) (by omega) (by omega), go (m + 11) (by omega) (by omega) (by omega), go (m + 9) (by omega) (by omega) (by omega), go (m + 6) (by omega) (by omega) (by omega), eo _ (by omega), eo _ (by omega), eo _ (by omega), eo _ (by omega)]
            exact a3
          · exact MkI_links (w := (lo, hi, on, sd)) (r := r) (ws' := r) (os' := os) hwo hwk gL gR (fun _ h => h) (Or.inl ⟨hbs, rfl⟩) i6 pre k post e pre e
          · rcases i7 x hx hfx with q | ⟨w, hw, q1, q2⟩
            · exact Or.inl q
            · rcases List.mem_cons.mp hw with rfl | hw
              · exact absurd (bs_none hbs x q1 q2) hfx
              · exact Or.inr ⟨w, hw, q1, q2⟩
          · rw [go (m + 15) (by omega) (by omega) (by omega), eo _ (by omega)]; exact i8
          · exact Wn_congr (fun j _ => by rw [go (m + 16) (by omega) (by omega) (by omega), go (m + 17) (by omega) (by omega) (by omega), go (m + 18) (by omega) (by omega) (by omega), go (m + 19) (by omega) (by omega) (by omega), eo _ (by omega), eo _ (by omega), eo _ (by omega), eo _ (by omega)]; exact ⟨rfl, rfl, rfl, rfl⟩) hWr
          · rw [go m (by omega) (by omega) (by omega)]; exact e21
        obtain ⟨D', os', j1, j2, j3⟩ := ih r os G (by omega) (fun k hk => by rw [go v (by omega) (by omega) (by omega), eo v (by omega)]; exact hf k hk) hMG
        exact ⟨D', os', j1, j2, hFG.tr j3.1, hBG.tr j3.2⟩
      | some c =>
        obtain ⟨a1, a2, a3, a4⟩ := bs_some hbs
        have hc : c < 100 := by omega
        have hplc := w4 c hbs
        have hcs := cn_some hbs
        have hos : os.length < 100 := by omega
        rw [show oI (some c) = nI c from rfl, n_make_some (L := r.length) (g_X9_make_31 n) hc (by omega) hos (fun o h => (w3 o h).2) hr (by rw [go m (by omega) (by omega) (by omega)]; exact e21)]
        have hdep : dpo G m b on = nI (pl f c).2.2.1 := by
          rw [hplc]
          cases on with
          | none => exact nI_0.symm
          | some o =>
            show G (m + 9) (b + o) + 1 = nI ((pl f o).2.2.1 + 1)
            rw [go (m + 9) (by omega) (by omega) (by omega), eo _ (by omega), (i4 o (w3 o rfl).1).2.2.2.2.1, nI_1]
        rw [hdep]
        generalize hQ : rc m b os.length G c lo (nI hi - 1) (nI (pl f c).2.2.1) on = Q
        have qo : ∀ x, x ≠ m + 15 → x ≠ m + 6 → x ≠ m + 9 → x ≠ m + 10 → x ≠ m + 11 → Q x = G x := fun x h1 h2 h3 h4 h5 => by rw [← hQ]; exact rc_o _ _ _ _ _ _ h1 h2 h3 h4 h5
        have hwR : wR f c = (c + 1, hi, some c, 1) := by unfold wR; rw [hplc]
        have hwL : wL f c = (lo, c, some c, 0) := by unfold wL; rw [hplc]
        have hWQ : Wn m Q r := Wn_congr (fun j _ => by rw [qo (m + 16) (by omega) (by omega) (by omega) (by omega) (by omega), qo (m + 17) (by omega) (by omega) (by omega) (by omega) (by omega), qo (m + 18) (by omega) (by omega) (by omega) (by omega) (by omega), qo (m + 19) (by omega) (by omega) (by omega) (by omega) (by omega), go (m + 16) (by omega) (by omega) (by omega), go (m + 17) (by omega) (by omega) (by omega), go (m + 18) (by omega) (by omega) (by omega), go (m + 19) (by omega) (by omega) (by omega), eo _ (by omega), eo _ (by omega), eo _ (by omega), eo _ (by omega)]; exact ⟨rfl, rfl, rfl, rfl⟩) hWr
        have hW1 := Wn_wt (m := m) (D := Q) (ws := r) (w := wR f c) (hi := nI hi - 1) (by rw [hwR]) hWQ
        rw [hwR] at hW1
        have hW2 := Wn_wt (m := m) (ws := (c + 1, hi, some c, 1) :: r) (w := (lo, c, some c, 0)) (hi := nI c - 1) rfl hW1
        simp only [List.length_cons] at hW2
        generalize hX : wt m (wt m Q r.length (nI (c + 1)) (nI hi - 1) (nI c) 1) (r.length + 1) (nI lo) (nI c - 1) (nI c) 0 = X
        have hX' : wt m (wt m Q r.length (nI (c + 1)) (nI hi - 1) (oI (some c)) (nI 1)) (r.length + 1) (nI lo) (nI c - 1) (oI (some c)) (nI 0) = X := hX
        rw [hX'] at hW2
        have xo : ∀ x, x ≠ m → x ≠ m + 16 → x ≠ m + 17 → x ≠ m + 18 → x ≠ m + 19 → X x = Q x := fun x h0 h1 h2 h3 h4 => by rw [← hX, wt_o _ _ _ _ _ _ h0 h1 h2 h3 h4, wt_o _ _ _ _ _ _ h0 h1 h2 h3 h4]
        have xf : X m = upd (upd (Q m) 21 (nI (r.length + 1))) 21 (nI (r.length + 1 + 1)) := by rw [← hX, wt_f, wt_f]
        have hFX : FrM m D X := by
          refine hFG.tr ⟨fun x h1 h2 => ?_, fun j hj => ?_⟩
          · rw [xo x h1 (by omega) (by omega) (by omega) (by omega), qo x (by omega) (by omega) (by omega) (by omega) (by omega)]
          · rw [xf, upd_ne _ _ hj, upd_ne _ _ hj, qo m (by omega) (by omega) (by omega) (by omega) (by omega)]
        have hBX : FrB m b D X := by
          refine hBG.tr ?_
          intro x x1 x2 j hj
          rw [xo x (by omega) (by omega) (by omega) (by omega) (by omega)]
          by_cases c6 : x = m + 6
          · subst c6; rw [← hQ, rc_6, upd_ne _ _ (by omega)]
          · by_cases c9 : x = m + 9
            · subst c9; rw [← hQ, rc_9, upd_ne _ _ (by omega)]
            · by_cases c10 : x = m + 10
              · subst c10; rw [← hQ, rc_10, upd_ne _ _ (by omega)]
              · by_cases c11 : x = m + 11
                · subst c11; rw [← hQ, rc_11, upd_ne _ _ (by omega)]
                · rw [qo x (by omega) c6 c9 c10 c11]
        have hMX : MkI f m b lev X (wL f c :: wR f c :: r) (c :: os) := by
          refine ⟨by simp only [List.length_cons]; omega, ?_, ?_, ?_, ?_, ?_, ?_, ?_, ?_, ?_⟩
          · simp only [sumc, hwL, hwR, List.length_cons]; omega
          · intro w hw
            rcases List.mem_cons.mp hw with rfl | hw
            · exact Or.inr ⟨c, List.mem_cons_self, Or.inl rfl⟩
            · rcases List.mem_cons.mp hw with rfl | hw
              · exact Or.inr ⟨c, List.mem_cons_self, Or.inr rfl⟩
              · rcases i3 w (List.mem_cons_of_mem _ hw) with q | ⟨k, hk, q⟩
                · exact Or.inl q
                · exact Or.inr ⟨k, List.mem_cons_of_mem _ hk, q⟩
          · have rows : ∀ k, Rec f m b X k ↔ ((upd (D (m + 10)) (b + c) (nI lo)) (b + k) = nI (pl f k).1 ∧ (upd (D (m + 11)) (b + c) (nI hi - 1)) (b + k) = nI (pl f k).2.1 - 1 ∧ (upd (D (m + 9)) (b + c) (nI (pl f c).2.2.1)) (b + k) = nI (pl f k).2.2.1 ∧ (upd (D (m + 6)) (b + c) (oI on)) (b + k) = oI (pl f k).2.2.2) := by
              intro k
              unfold Rec
              rw [xo (m + 10) (by omega) (by omega) (by omega) (by omega) (by omega), xo (m + 11) (by omega) (by omega) (by omega) (by omega) (by omega), xo (m + 9) (by omega) (by omega) (by omega) (by omega) (by omega), xo (m + 6) (by omega) (by omega) (by omega) (by omega) (by omega), ← hQ, rc_10, rc_11, rc_9, rc_6, go (m + 10) (by omega) (by omega) (by omega), go (m + 11) (by omega) (by omega) (by omega), go (m + 9) (by omega) (by omega) (by omega), go (m + 6) (by omega) (by omega) (by omega), eo _ (by omega), eo _ (by omega), eo _ (by omega), eo _ (by omega)]
            intro k hk
            by_cases hkc : k = c
            · subst hkc
              refine ⟨hc, a3, (rows k).mpr ?_⟩
              rw [upd_same, upd_same, upd_same, upd_same, hplc]
              exact ⟨rfl, rfl, rfl, rfl⟩
            · rcases List.mem_cons.mp hk with q | q
              · exact absurd q hkc
              · obtain ⟨c1, c2, c3⟩ := i4 k q
                refine ⟨c1, c2, (rows k).mpr ?_⟩
                rw [upd_ne _ _ (by omega), upd_ne _ _ (by omega), upd_ne _ _ (by omega), upd_ne _ _ (by omega)]
                exact c3
          · rcases top (wL f c :: wR f c :: r) (fun x hx => List.mem_cons_of_mem _ (List.mem_cons_of_mem _ hx)) with q | q
            · exact Or.inl q
            · exact Or.inr (by rw [xo (m + 14) (by omega) (by omega) (by omega) (by omega) (by omega), qo (m + 14) (by omega) (by omega) (by omega) (by omega) (by omega)]; exact q)
          · intro pre k post e
            cases pre with
            | nil =>
              have hkc : k = c := by simp only [List.nil_append, List.cons.injEq] at e; exact e.1.symm
              subst hkc
              exact ⟨Or.inl List.mem_cons_self, Or.inl (List.mem_cons_of_mem _ List.mem_cons_self)⟩
            | cons y pre0 =>
              have e0 : os = pre0 ++ k :: post := by simp only [List.cons_append, List.cons.injEq] at e; exact e.2
              have hl7 : X (m + 7) = G (m + 7) := by rw [xo (m + 7) (by omega) (by omega) (by omega) (by omega) (by omega), qo (m + 7) (by omega) (by omega) (by omega) (by omega) (by omega)]
              have hl8 : X (m + 8) = G (m + 8) := by rw [xo (m + 8) (by omega) (by omega) (by omega) (by omega) (by omega), qo (m + 8) (by omega) (by omega) (by omega) (by omega) (by omega)]
              exact MkI_links (w := (lo, hi, on, sd)) (r := r) (ws' := wL f c :: wR f c :: r) (os' := c :: os) hwo hwk (fun j => by rw [hl7]; exact gL j) (fun j => by rw [hl8]; exact gR j) (fun x hx => List.mem_cons_of_mem _ (List.mem_cons_of_mem _ hx)) (Or.inr ⟨c, hbs, rfl⟩) i6 pre0 k post e0 (y :: pre0) e
          · intro x hx hfx
            rcases i7 x hx hfx with q | ⟨w, hw, q1, q2⟩
            · exact Or.inl (List.mem_cons_of_mem _ q)
            · rcases List.mem_cons.mp hw with rfl | hw
              · simp only at q1 q2
                rcases Nat.lt_trichotomy x c with q | q | q
                · exact Or.inr ⟨wL f c, List.mem_cons_self, by rw [hwL]; exact ⟨q1, q⟩⟩
                · subst q; exact Or.inl List.mem_cons_self
                · exact Or.inr ⟨wR f c, List.mem_cons_of_mem _ List.mem_cons_self, by rw [hwR]; exact ⟨q, q2⟩⟩
              · exact Or.inr ⟨w, List.mem_cons_of_mem _ (List.mem_cons_of_mem _ hw), q1, q2⟩
          · rw [xo (m + 15) (by omega) (by omega) (by omega) (by omega) (by omega), ← hQ, rc_15, go (m + 15) (by omega) (by omega) (by omega), eo _ (by omega)]
            exact ⟨by rw [upd_same], Opn_congr (fun j hj => by rw [upd_ne _ _ (by omega)]) i8⟩
          · rw [hwL, hwR]; exact hW2
          · rw [xf, upd_same]; rfl
        obtain ⟨D', os', j1, j2, j3⟩ := ih (wL f c :: wR f c :: r) (c :: os) X (by simp only [sumc, hwL, hwR, List.length_cons]; omega) (fun k hk => by rw [hFX.1 v (by omega) (by omega)]; exact hf k hk) hMX
        exact ⟨D', os', j1, j2, hFX.tr j3.1, hBX.tr j3.2⟩
