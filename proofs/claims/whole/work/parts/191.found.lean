theorem n_foundLoop {D E : DD} {a b : Nat} {s : Nat → Int32} {pc : Int32} (hP : Prs D 46 s) (hR : RowP E 80 s 100) (ha : a < 100) (hb : b < 100) : ∀ (d k n n' : Nat) (v4 : Int32), k + d = 100 → d < n → d < n' → ∃ r5 : Int32, g_X2_keyOfPlace_6 n 46 (nI a) (nI b) pc v4 (nI k) D = some r5 ∧ ((r5 = -9 ∧ g_X9_found_33 n' 80 (nI a) (nI b) pc v4 (nI (cn s 0 k)) E = some (-9, E)) ∨ ∃ j, j < 100 ∧ r5 = nI j ∧ g_X9_found_33 n' 80 (nI a) (nI b) pc v4 (nI (cn s 0 k)) E = some ((100 : Int32) * nI j + s j, E)) := by
  have hN := cn_100 s
  intro d
  induction d with
  | zero =>
    intro k n n' v4 h1 h2 h3
    obtain ⟨n, rfl⟩ : ∃ q, n = q + 1 := ⟨n - 1, by omega⟩
    obtain ⟨n', rfl⟩ : ∃ q, n' = q + 1 := ⟨n' - 1, by omega⟩
    have hk : k = 100 := by omega
    subst hk
    rw [g_X2_keyOfPlace_6, if_pos nI_100', g_X9_found_33, hR.1, if_pos (Int32.le_refl _)]
    exact ⟨-9, rfl, Or.inl ⟨rfl, rfl⟩⟩
  | succ d ih =>
    intro k n n' v4 h1 h2 h3
    obtain ⟨n, rfl⟩ : ∃ q, n = q + 1 := ⟨n - 1, by omega⟩
    have hk : k < 100 := by omega
    rw [g_X2_keyOfPlace_6, if_neg (nI_100 hk), n_has hk, hP.1 k hk, pcb_some]
    unfold g_X2_keyOfPlace_46
    rw [nI_1]
    by_cases e : s k = -9
    · have : (if nI k < nI a then g_X2_keyOfPlace_6 n 46 (nI a) (nI b) pc v4 (nI (k + 1)) D else if nI b < nI k then g_X2_keyOfPlace_6 n 46 (nI a) (nI b) pc v4 (nI (k + 1)) D else if (if s k = -9 then (0 : Int32) else 1) = 0 then g_X2_keyOfPlace_6 n 46 (nI a) (nI b) pc v4 (nI (k + 1)) D else if v4 = pc then some (nI k) else g_X2_keyOfPlace_6 n 46 (nI a) (nI b) pc (v4 + 1) (nI (k + 1)) D) = g_X2_keyOfPlace_6 n 46 (nI a) (nI b) pc v4 (nI (k + 1)) D := by
        rw [if_pos e, if_pos rfl]
        split
        · rfl
        · split <;> rfl
      rw [this]
      have ek : cn s 0 (k + 1) = cn s 0 k := by rw [cn_s, if_pos e]; rfl
      have := ih (k + 1) n n' v4 (by omega) (by omega) (by omega)
      rw [ek] at this
      exact this
    · obtain ⟨n', rfl⟩ : ∃ q, n' = q + 1 := ⟨n' - 1, by omega⟩
      have hlt := cn_lt hk e
      obtain ⟨r1, r2⟩ := hR.2 k hk e
      have ek : cn s 0 (k + 1) = cn s 0 k + 1 := by rw [cn_s, if_neg e]
      rw [if_neg e, if_neg one_ne0, g_X9_found_33, hR.1, if_neg (nI_ge hlt (by omega)), zck_nI (by omega) (by decide), ix_nI (by omega), r1, r2, n_in32, pcb_some]
      unfold g_X9_found_88
      rw [nI_1, ← ek]
      by_cases c1 : k < a
      · rw [if_pos (nI_lt c1 (by omega)), if_neg (show ¬ (nI a ≤ nI k ∧ nI k ≤ nI b) from fun q => absurd q.1 (nI_ge c1 (by omega))), if_pos rfl]
        exact ih (k + 1) n n' v4 (by omega) (by omega) (by omega)
      · rw [if_neg (nI_nlt (by omega) (by omega))]
        by_cases c2 : b < k
        · rw [if_pos (nI_lt c2 (by omega)), if_neg (show ¬ (nI a ≤ nI k ∧ nI k ≤ nI b) from fun q => absurd q.2 (nI_ge c2 (by omega))), if_pos rfl]
          exact ih (k + 1) n n' v4 (by omega) (by omega) (by omega)
        · rw [if_neg (nI_nlt (by omega) (by omega)), if_pos (show nI a ≤ nI k ∧ nI k ≤ nI b from ⟨nI_le (by omega) (by omega), nI_le (by omega) (by omega)⟩), if_neg one_ne0]
          by_cases c3 : v4 = pc
          · rw [if_pos c3, if_pos c3, zck_nI (by omega) (by decide), zck_nI (by omega) (by decide)]
            exact ⟨nI k, rfl, Or.inr ⟨k, hk, rfl, rfl⟩⟩
          · rw [if_neg c3, if_neg c3]
            exact ih (k + 1) n n' (v4 + 1) (by omega) (by omega) (by omega)
theorem MI.fl {D D' : DD} {f : Mp} {us : List Mp} {sl : Nat → Option Mp} {xs : List Int32} {tr : Int32} {fm : List Int32} (hm : MI D 80 f us sl xs tr fm) (hF : ∀ c, c ≠ 80 → c < 110 → ¬ (96 ≤ c ∧ c < 100) → D' c = D c) (h0 : ∀ j, j ≠ 41 → j ≠ 21 → D' 80 j = D 80 j) : MI D' 80 f us sl xs tr fm := hm.keep (fun c hc => hF c (by omega) (by omega) (by omega)) (fun j hj => h0 j (by omega) (by omega))
theorem op_found {D : DD} (h : St D) (x y w : Int32) : ∃ (r : Int32) (D1 D2 : DD), g_X8_found 0 x y w D = some (r, D1) ∧ g_X9_found 80 x y w D1 = some (r, D2) ∧ St D2 := by
  obtain ⟨f, us, sl, xs, tr, fm, hC, hM, hA⟩ := id h
  unfold g_X8_found g_X9_found
  simp only [Nat.zero_add]
  rcases range_or x y with ⟨a, b, hab, hb, rfl, rfl, e1, e2⟩ | ⟨e1, e2⟩
  · simp only [e1, e2, pcb_some, if_neg one_ne0]
    obtain ⟨D1, q1, q3, -, q2, q5⟩ := n_reasonBy (r := 42) (a := a) (b := b) (by omega) hb hA.2.2.2.1 hA.2.2.2.2.1 hA.2.2.2.2.2.1 hC.row hC.tru
    have hM1 : MI D1 80 f us sl xs tr fm := hM.congr (fun c c1 c2 => q2 c (by omega))
    obtain ⟨D2, p1, p2, p3⟩ := n_reasonOf (m := 80) hab hb hA.2.2.2.1 hA.2.2.2.2.1 hA.2.2.2.2.2.1 hM1.row hM1.tru
    have hC2 : CI D2 f us sl xs tr fm := (hC.ft q2).congr (fun c hc => p2.1 c (by omega) (by omega))
    rw [q1, dcb_some]
    by_cases hz : rsn a b xs tr fm = 0
    · rw [hz, if_pos (show nI 0 = 0 from nI_0)]
      obtain ⟨c, kf, lf, hf, n1, n2, n3, n4⟩ := p3 (fine_of hz)
      obtain ⟨D3, t1, t2, t3⟩ := n_layRow n1 n4 n2 n3
      have hS : St D3 := ⟨f, us, sl, xs, tr, fm, hC2.congr (fun c hc => t3.1 c (by omega) (by omega)), (hM1.fx p2).fl (fun c c1 c2 _ => t3.1 c c1 (by omega)) (fun j j1 _ => t3.2 j j1), hA⟩
      obtain ⟨r5, l1, l2⟩ := n_foundLoop (pc := w) q3 t2.1 (by omega : a < 100) hb 100 0 1000 1000 0 (by omega) (by omega) (by omega)
      unfold g_X2_keyOfPlace
      rw [show (0 : Int32) = nI 0 from nI_0.symm] at l1 l2 ⊢
      rw [show 42 + 4 = 46 from rfl, l1, pcb_some]
      have c0 : cn (rdR a b xs).2.1 0 0 = 0 := by have := cn_le (rdR a b xs).2.1 0 0; omega
      rw [c0] at l2
      rcases l2 with ⟨k1, k2⟩ | ⟨j, k0, k1, k2⟩
      · rw [if_pos k1]
        exact ⟨_, D1, D3, rfl, by rw [p1, dcb_some, hz, if_pos rfl, t1, vcb_some, k2], hS⟩
      · rw [k1, if_neg (nI_ne9 (by omega)), n_valueOf k0, pcb_some, q3.1 j k0]
        exact ⟨_, D1, D3, rfl, by rw [p1, dcb_some, hz, if_pos rfl, t1, vcb_some, k2], hS⟩
    · rw [if_neg (nI_ne0 (by omega) (by omega))]
      refine ⟨_, D1, D2, rfl, ?_, f, us, sl, xs, tr, fm, hC2, hM1.fx p2, hA⟩
      rw [p1, dcb_some, if_neg (nI_ne0 (by omega) (by omega))]
  · simp only [e1, e2, pcb_some, if_pos]
    exact ⟨_, _, _, rfl, rfl, h⟩
/-! ===== steps ===== -/
theorem cn_upd2 {s : Nat → Int32} {k : Nat} {v : Int32} (hv : v ≠ -9) (j : Nat) : cn (upd s k v) 0 j = cn s 0 j + if k < j ∧ s k = -9 then 1 else 0 := by
  have := cnF_upd (f := s) (k := k) hv 0 j
  simp only [Nat.zero_add, Nat.zero_le, true_and] at this
  exact this
theorem cn_drop2 {s : Nat → Int32} {k : Nat} (hk : s k ≠ -9) (j : Nat) : cn (upd s k (-9)) 0 j + (if k < j then 1 else 0) = cn s 0 j := by
  have := cnF_drop (f := s) (k := k) 0 j
  simp only [Nat.zero_add, Nat.zero_le, true_and, hk, ne_eq, not_false_eq_true, and_true] at this
  exact this
theorem n_rowSet {m k : Nat} {s g : Nat → Int32} {v : Int32} {D : DD} (h : RowK D m s g) (hk : k < 100) (hs : s k ≠ -9) (hv : v ≠ -9) : RowK (u2 D (m + 31) (cn s 0 k) v) m (upd s k v) g := by
  have ec : ∀ j, cn (upd s k v) 0 j = cn s 0 j := fun j => by rw [cn_upd2 hv, if_neg (fun q => hs q.2)]; rfl
  have es : ∀ j, upd s k v j ≠ -9 → s j ≠ -9 := fun j hj => by
    by_cases e : j = k
    · subst e; exact hs
    · rw [upd_ne _ _ e] at hj; exact hj
  refine ⟨⟨by rw [ec, u2_ne _ _ (by omega)]; exact h.1.1, fun j hj hjs => ?_⟩, fun j hj => ?_⟩
  · rw [ec, u2_ne _ _ (by omega), u2_same]
    obtain ⟨a1, a2⟩ := h.1.2 j hj (es j hjs)
    refine ⟨a1, ?_⟩
    by_cases e : j = k
    · subst e; rw [upd_same, upd_same]
    · rw [upd_ne _ _ (fun q => e (cn_inj (es j hjs) hs q)), upd_ne _ _ e]; exact a2
  · rw [ec, u2_ne _ _ (by omega)]
    refine h.2 j ?_
    rcases hj with q | q
    · exact Or.inl q
    · exact Or.inr ⟨q.1, es j q.2⟩
theorem n_takeOut {m k : Nat} {s g : Nat → Int32} {D : DD} (h : RowK D m s g) (hk : k < 100) (hs : s k ≠ -9) : ∃ D' : DD, g_X9_takeOut m (nI (cn s 0 k)) D = some D' ∧ RowK D' m (upd s k (-9)) g ∧ FrL m D D' := by
  have hN := cn_100 s
  have hlt := cn_lt hk hs
  obtain ⟨N, eN⟩ : ∃ N, cn s 0 100 = N + 1 := ⟨cn s 0 100 - 1, by omega⟩
  have h41 : D m 41 = nI (N + 1) := by rw [h.1.1, eN]
  -- keys and values
  have loop1 : ∀ (d p n : Nat) (F30 F31 : Nat → Int32), p + d = N → d < n → ∃ G30 G31 : Nat → Int32, g_X9_takeOut_2 n m (nI (cn s 0 k)) (nI p) (uA (uA D (m + 30) F30) (m + 31) F31) = g_X9_takeOut_48 1000 m (nI (cn s 0 k)) (uA (uA D (m + 30) G30) (m + 31) G31) ∧ (∀ q, p ≤ q → q < N → G30 q = F30 (q + 1) ∧ G31 q = F31 (q + 1)) ∧ ∀ q, q < p → G30 q = F30 q ∧ G31 q = F31 q := by
    intro d
    induction d with
    | zero =>
      intro p n F30 F31 h1 h2
      obtain ⟨n, rfl⟩ : ∃ q, n = q + 1 := ⟨n - 1, by omega⟩
      refine ⟨F30, F31, ?_, fun q a b => by omega, fun q _ => ⟨rfl, rfl⟩⟩
      rw [g_X9_takeOut_2, uA_ne _ _ (by omega), uA_ne _ _ (by omega), h41, nI_pred, if_pos (nI_le (by omega) (by omega))]
    | succ d ih =>
      intro p n F30 F31 h1 h2
      obtain ⟨n, rfl⟩ : ∃ q, n = q + 1 := ⟨n - 1, by omega⟩
      have st : g_X9_takeOut_2 (n + 1) m (nI (cn s 0 k)) (nI p) (uA (uA D (m + 30) F30) (m + 31) F31) = g_X9_takeOut_2 n m (nI (cn s 0 k)) (nI (p + 1)) (uA (uA D (m + 30) (upd F30 p (F30 (p + 1)))) (m + 31) (upd F31 p (F31 (p + 1)))) := by
        rw [g_X9_takeOut_2, uA_ne _ _ (by omega), uA_ne _ _ (by omega), h41, nI_pred, if_neg (nI_ge (by omega) (by omega)), nI_1, zck_nI (by omega) (by decide), zck_nI (by omega) (by decide), ix_nI (by omega), ix_nI (by omega), dlt_eq, zck_nI (by omega) (by decide), zck_nI (by omega) (by decide), dlt_eq, uA_ne _ _ (show m + 30 ≠ m + 31 by omega), uA_same]
        congr 1
        funext c
        by_cases c31 : c = m + 31
        · subst c31; rw [u2_same, uA_same, u2_ne _ _ (by omega), uA_same]
        · rw [u2_ne _ _ c31, uA_ne _ _ c31]
          by_cases c30 : c = m + 30
          · subst c30; rw [u2_same, uA_same, uA_ne _ _ (by omega), uA_same]
          · rw [u2_ne _ _ c30, uA_ne _ _ c31, uA_ne _ _ c30, uA_ne _ _ c30]
      obtain ⟨G30, G31, r1, r2, r3⟩ := ih (p + 1) n (upd F30 p (F30 (p + 1))) (upd F31 p (F31 (p + 1))) (by omega) (by omega)
      refine ⟨G30, G31, by rw [st, r1], fun q a b => ?_, fun q hq => ?_⟩
      · by_cases e : q = p
        · subst e
          obtain ⟨a1, a2⟩ := r3 q (by omega)
          rw [a1, a2, upd_same, upd_same]; exact ⟨rfl, rfl⟩
        · obtain ⟨a1, a2⟩ := r2 q (by omega) b
          rw [a1, a2, upd_ne _ _ (by omega), upd_ne _ _ (by omega)]; exact ⟨rfl, rfl⟩
      · obtain ⟨a1, a2⟩ := r3 q (by omega)
        rw [a1, a2, upd_ne _ _ (by omega), upd_ne _ _ (by omega)]; exact ⟨rfl, rfl⟩
  have loop2 : ∀ (d p n : Nat) (E : DD), p + d = N + 1 → d < n → E m 41 = nI (N + 1) → ∃ G : Nat → Int32, g_X9_takeOut_48 n m (nI p) E = some (u2 (uA E (m + 32) G) m 41 (nI N)) ∧ (∀ q, p ≤ q → q < N + 1 → G q = E (m + 32) (q + 1)) ∧ ∀ q, q < p → G q = E (m + 32) q := by
    intro d
    induction d with
    | zero =>
      intro p n E h1 h2 h3
      obtain ⟨n, rfl⟩ : ∃ q, n = q + 1 := ⟨n - 1, by omega⟩
      refine ⟨E (m + 32), ?_, fun q a b => by omega, fun q _ => rfl⟩
      rw [g_X9_takeOut_48, h3, if_pos (nI_le (by omega) (by omega)), nI_pred, dlt_eq, uA_self]
    | succ d ih =>
      intro p n E h1 h2 h3
      obtain ⟨n, rfl⟩ : ∃ q, n = q + 1 := ⟨n - 1, by omega⟩
      obtain ⟨G, r1, r2, r3⟩ := ih (p + 1) n (u2 E (m + 32) p (E (m + 32) (p + 1))) (by omega) (by omega) (by rw [u2_ne _ _ (by omega)]; exact h3)
      refine ⟨G, ?_, fun q a b => ?_, fun q hq => ?_⟩
      · rw [g_X9_takeOut_48, h3, if_neg (nI_ge (by omega) (by omega)), nI_1, zck_nI (by omega) (by decide), zck_nI (by omega) (by decide), ix_nI (by omega), ix_nI (by omega), dlt_eq, r1, uA_u2]
      · by_cases e : q = p
        · subst e
          rw [r3 q (by omega), u2_same, upd_same]
        · rw [r2 q (by omega) b, u2_same, upd_ne _ _ (by omega)]
      · rw [r3 q (by omega), u2_same, upd_ne _ _ (by omega)]
  obtain ⟨G30, G31, r1, r2, r3⟩ := loop1 (N - cn s 0 k) (cn s 0 k) 1000 (D (m + 30)) (D (m + 31)) (by omega) (by omega)
  have hself : uA (uA D (m + 30) (D (m + 30))) (m + 31) (D (m + 31)) = D := by rw [uA_self, uA_self]
  rw [hself] at r1
  obtain ⟨G, t1, t2, t3⟩ := loop2 (N + 1 - cn s 0 k) (cn s 0 k) 1000 (uA (uA D (m + 30) G30) (m + 31) G31) (by omega) (by omega) (by rw [uA_ne _ _ (by omega), uA_ne _ _ (by omega)]; exact h41)
  rw [uA_ne _ _ (by omega), uA_ne _ _ (by omega)] at t2 t3
  refine ⟨_, by unfold g_X9_takeOut; rw [r1, t1], ⟨⟨?_, fun j hj hjs => ?_⟩, fun j hj => ?_⟩, ⟨fun c c1 c2 => by rw [u2_ne _ _ c1, uA_ne _ _ (by omega), uA_ne _ _ (by omega), uA_ne _ _ (by omega)], fun j hj => by rw [u2_same, upd_ne _ _ hj, uA_ne _ _ (by omega), uA_ne _ _ (by omega), uA_ne _ _ (by omega)]⟩⟩
  · have := cn_drop2 hs 100
    rw [if_pos hk, eN] at this
    rw [u2_same, upd_same, show cn (upd s k (-9)) 0 100 = N by omega]
  · have hjk : j ≠ k := fun e => hjs (by rw [e, upd_same])
    rw [upd_ne _ _ hjk] at hjs ⊢
    have hc := cn_drop2 hs j
    obtain ⟨a1, a2⟩ := h.1.2 j hj hjs
    have hjN := cn_lt hj hjs
    rw [u2_ne _ _ (by omega), u2_ne _ _ (by omega), uA_ne _ _ (show m + 30 ≠ m + 32 by omega), uA_ne _ _ (show m + 30 ≠ m + 31 by omega), uA_same, uA_ne _ _ (show m + 31 ≠ m + 32 by omega), uA_same]
    by_cases q : k < j
    · rw [if_pos q] at hc
      have hkj := cn_lt q hs
      obtain ⟨b1, b2⟩ := r2 (cn (upd s k (-9)) 0 j) (by omega) (by omega)
      rw [b1, b2, hc]; exact ⟨a1, a2⟩
    · rw [if_neg q] at hc
      have hkj := cn_lt (show j < k by omega) hjs
      obtain ⟨b1, b2⟩ := r3 (cn (upd s k (-9)) 0 j) (by omega)
      rw [b1, b2, show cn (upd s k (-9)) 0 j = cn s 0 j by omega]; exact ⟨a1, a2⟩
  · rw [u2_ne _ _ (by omega), uA_same]
    have hjk : j ≠ k := fun e => by
      subst e
      rcases hj with q | q
      · omega
      · exact q.2 (upd_same _ _ _)
    have hg : Gk s j := by
      rcases hj with q | q
      · exact Or.inl q
      · rw [upd_ne _ _ hjk] at q; exact Or.inr q
    have hc := cn_drop2 hs j
    have hjN : cn s 0 j ≤ N + 1 := by rw [← eN]; exact cn_mono s (by rcases hg with q | q <;> omega)
    by_cases q : k < j
    · rw [if_pos q] at hc
      have hkj := cn_lt q hs
      rw [t2 _ (by omega) (by omega), hc]; exact h.2 j hg
    · rw [if_neg q] at hc
      have hjs : s j ≠ -9 := by
        rcases hg with z | z
        · omega
        · exact z.2
      have hkj := cn_lt (show j < k by omega) hjs
      rw [t3 _ (by omega), show cn (upd s k (-9)) 0 j = cn s 0 j by omega]; exact h.2 j hg
