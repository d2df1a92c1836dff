/-- the digests of what was read, the last node first -/
theorem n_shownDigest {m c : Nat} {s' h' : Nat → Int32} {kf lf hf : Nat → Nat} {D : DD} (hN : NF D m s' h' c [] kf lf hf) (hc : c ≤ 100) (h36 : D m 36 = nI c) : ∃ f29 : Nat → Int32, g_X9_shownDigest m D = some (dg s' h' 0 100, uA D (m + 29) f29) := by
  have step : ∀ (i n : Nat) (E : DD), i < c → (∀ z, z ≠ m + 29 → E z = D z) → (∀ j, i < j → j < c → E (m + 29) j = dg s' h' (lf j) (hf j)) → g_X9_shownDigest_7 (n + 1) m (nI i) E = g_X9_shownDigest_7 n m (nI i - 1) (u2 E (m + 29) i (dg s' h' (lf i) (hf i))) := by
    intro i n E hi hE hd
    obtain ⟨a1, a2, a3, a4, a5, a6⟩ := hN.1 i hi
    have hdg := dg_some (h := h') a3
    have i100 : i < 100 := by omega
    have e74 : ∀ x y : Int32, g_X9_shownDigest_74 (g_X9_shownDigest_7 n) m (nI i) x y E = g_X9_shownDigest_7 n m (nI i - 1) (u2 E (m + 29) i (dN (nI (kf i)) (s' (kf i)) x y)) := by
      intro x y
      unfold g_X9_shownDigest_74
      rw [zck_nI i100 (by decide), zck_nI i100 (by decide), ix_nI (by omega), hE (m + 23) (by omega), hE (m + 24) (by omega), a1, a2, n_digest9, pcb_some, zck_nI i100 (by decide), dlt_eq, show nI i + (-1 : Int32) = nI i - 1 from (Int32.sub_eq_add_neg _ _).symm]
    have e42 : ∀ x : Int32, g_X9_shownDigest_42 (g_X9_shownDigest_7 n) m (nI i) x E = g_X9_shownDigest_7 n m (nI i - 1) (u2 E (m + 29) i (dN (nI (kf i)) (s' (kf i)) x (dg s' h' (kf i + 1) (hf i)))) := by
      intro x
      unfold g_X9_shownDigest_42
      rw [zck_nI i100 (by decide), ix_nI (by omega), hE (m + 26) (by omega)]
      rcases a6 with q | ⟨q1, q2, q3⟩ | ⟨j, j1, j2, j3, j4, j5⟩
      · cases q
      · rw [q1, if_pos rfl, zck_nI i100 (by decide), hE (m + 28) (by omega), q3, e74, dg_none q2]
      · rw [j3, if_neg (nI_ne9 (by omega)), zck_nI i100 (by decide), zck_nI (by omega) (by decide), ix_nI (by omega), hd j j1 j2, j4, j5, e74]
    rw [g_X9_shownDigest_7, if_neg (nI_pos (by omega)), zck_nI i100 (by decide), ix_nI (by omega), hE (m + 25) (by omega), hdg]
    rcases a5 with q | ⟨q1, q2, q3⟩ | ⟨j, j1, j2, j3, j4, j5⟩
    · cases q
    · rw [q1, if_pos rfl, zck_nI i100 (by decide), hE (m + 27) (by omega), q3, e42, dg_none q2]
    · rw [j3, if_neg (nI_ne9 (by omega)), zck_nI i100 (by decide), zck_nI (by omega) (by decide), ix_nI (by omega), hd j j1 j2, j4, j5, e42]
  have loop : ∀ (i n : Nat) (E : DD), i ≤ c → i < n → (∀ z, z ≠ m + 29 → E z = D z) → (∀ j, i ≤ j → j < c → E (m + 29) j = dg s' h' (lf j) (hf j)) → ∃ f29 : Nat → Int32, g_X9_shownDigest_7 n m (nI i - 1) E = some (dg s' h' 0 100, uA D (m + 29) f29) := by
    intro i
    induction i with
    | zero =>
      intro n E hi hn hE hd
      obtain ⟨n, rfl⟩ : ∃ q, n = q + 1 := ⟨n - 1, by omega⟩
      have hEq : E = uA D (m + 29) (E (m + 29)) := by
        funext z
        by_cases hz : z = m + 29
        · rw [hz, uA_same]
        · rw [uA_ne _ _ hz, hE z hz]
      refine ⟨E (m + 29), ?_⟩
      rw [g_X9_shownDigest_7, if_pos (show nI 0 - 1 < 0 by decide), hE m (by omega), h36]
      rcases hN.2.1 with q | ⟨q1, q2, q3⟩ | ⟨q1, q2, q3⟩
      · cases q
      · subst q1
        rw [if_pos nI_0, q3, dg_none q2, ← hEq]
      · rw [if_neg (nI_ne0 q1 (by omega)), show (0 : Int32) = nI 0 from nI_0.symm, zck_nI (by decide) (by decide), ix_nI (by decide), hd 0 (by omega) q1, q2, q3, ← hEq]
    | succ i ih =>
      intro n E hi hn hE hd
      obtain ⟨n, rfl⟩ : ∃ q, n = q + 1 := ⟨n - 1, by omega⟩
      rw [show nI (i + 1) - (1 : Int32) = nI i from nI_pred _, step i n E (by omega) hE (fun j j1 j2 => hd j (by omega) j2)]
      refine ih n _ (by omega) (by omega) (fun z hz => by rw [u2_ne _ _ hz]; exact hE z hz) (fun j j1 j2 => ?_)
      rw [u2_same]
      by_cases hj : j = i
      · rw [hj, upd_same]
      · rw [upd_ne _ _ hj]; exact hd j (by omega) j2
  unfold g_X9_shownDigest
  rw [h36]
  exact loop c 1000 D (Nat.le_refl _) (by omega) (fun _ _ => rfl) (fun j j1 j2 => by omega)
/-- trusted and former as they stand in the reference (the last one at the end) -/
def TruM (D : DD) (m : Nat) (tr : Int32) (fm : List Int32) : Prop := D m 26 = tr ∧ D m 28 = nI fm.length ∧ ∀ (j : Nat) (x : Int32), fm.reverse[j]? = some x → D (m + 22) j = x
theorem n_former9 {m : Nat} {tr d : Int32} {fm : List Int32} {D : DD} (h : TruM D m tr fm) (hl : fm.length ≤ 8) : g_X9_reasonOf_108 1000 m d 0 0 D = some (if d = tr then 0 else if d ∈ fm then 7 else 6, D) := by
  have loop : ∀ (rest pre : List Int32) (n : Nat), fm.reverse = pre ++ rest → rest.length < n → g_X9_reasonOf_108 n m d (if d ∈ pre then 1 else 0) (nI pre.length) D = some (if d = tr then 0 else if d ∈ fm then 7 else 6, D) := by
    intro rest
    induction rest with
    | nil =>
      intro pre n e hn
      obtain ⟨n, rfl⟩ : ∃ q, n = q + 1 := ⟨n - 1, by omega⟩
      have e2 : fm.reverse = pre := by rw [e, List.append_nil]
      have e3 : fm.length = pre.length := by rw [← e2, List.length_reverse]
      have e4 : d ∈ fm ↔ d ∈ pre := by rw [← e2, List.mem_reverse]
      rw [g_X9_reasonOf_108, h.2.1, e3, if_pos (Int32.le_refl _), h.1]
      by_cases h1 : d = tr
      · rw [if_pos h1, if_pos h1]
      · rw [if_neg h1, if_neg h1]
        by_cases h2 : d ∈ pre
        · rw [if_pos h2, if_neg one_ne0, if_pos (e4.mpr h2)]
        · rw [if_neg h2, if_pos rfl, if_neg (fun q => h2 (e4.mp q))]
    | cons y rest ih =>
      intro pre n e hn
      obtain ⟨n, rfl⟩ : ∃ q, n = q + 1 := ⟨n - 1, by omega⟩
      have hlen : fm.length = pre.length + (rest.length + 1) := by rw [← List.length_reverse, e]; simp
      have hy : fm.reverse[pre.length]? = some y := by rw [e]; simp
      have next := ih (pre ++ [y]) n (by rw [e]; simp) (by simp only [List.length_cons] at hn; omega)
      rw [show (pre ++ [y]).length = pre.length + 1 by simp, ← nI_1] at next
      rw [g_X9_reasonOf_108, h.2.1, if_neg (nI_ge (by omega) (by omega))]
      by_cases h2 : d ∈ pre
      · rw [if_pos h2, if_neg one_ne0]
        rw [if_pos (List.mem_append_left _ h2)] at next
        exact next
      · rw [if_neg h2, if_pos rfl, zck_nI (by omega) (by decide), ix_nI (by omega), h.2.2 _ _ hy]
        by_cases h3 : y = d
        · rw [if_pos h3]
          rw [if_pos (List.mem_append_right _ (by rw [h3]; exact List.mem_singleton.mpr rfl))] at next
          exact next
        · rw [if_neg h3]
          rw [if_neg (fun q => (List.mem_append.mp q).elim h2 (fun q => h3 (List.mem_singleton.mp q).symm))] at next
          exact next
  have := loop fm.reverse [] 1000 rfl (by rw [List.length_reverse]; omega)
  exact this
/-- reasonOf: the reference's reason is the class's -/
theorem n_reasonOf {m a b : Nat} {xs fm : List Int32} {tr : Int32} {D : DD} (ha : a ≤ b) (hb : b < 100) (hxs : ∀ x ∈ xs, isIt x) (hxl : xs.length ≤ 100) (hfl : fm.length ≤ 8) (hR : Row D m xs) (hT : TruM D m tr fm) : ∃ D' : DD, g_X9_reasonOf m (nI a) (nI b) D = some (nI (rsn a b xs tr fm), D') ∧ FrX m D D' ∧ ((rdR a b xs).1 = 0 → ∃ (c : Nat) (kf lf hf : Nat → Nat), NF D' m (rdR a b xs).2.1 (rdR a b xs).2.2 c [] kf lf hf ∧ c ≤ 100 ∧ D' m 36 = nI c ∧ ∀ i j, i < c → j < c → kf i = kf j → i = j) := by
  unfold g_X9_reasonOf
  rw [dlt_eq, dlt_eq, dlt_eq]
  generalize hE : u2 (u2 (u2 D m 36 0) m 37 0) m 21 0 = E
  have e21 : E m 21 = nI 0 := by rw [← hE, u2_same, upd_same]; exact nI_0.symm
  have eo : ∀ z, z ≠ m → E z = D z := fun z hz => by rw [← hE, u2_ne _ _ hz, u2_ne _ _ hz, u2_ne _ _ hz]
  rw [n_want (L := 0) (by decide) e21, vcb_some]
  generalize hG : wt m E 0 0 99 (-9) 0 = G
  have hFG : FrX m D G := by
    refine ⟨fun c c1 c2 => ?_, fun j j1 j2 j3 => ?_⟩
    · rw [← hG, wt_o _ _ _ _ _ _ c1 (by omega) (by omega) (by omega) (by omega), eo c c1]
    · rw [← hG, wt_f, upd_ne _ _ j1, ← hE, u2_same, upd_ne _ _ j1, u2_same, upd_ne _ _ j3, u2_same, upd_ne _ _ j2]
  have hW : Wn m G [w0] := by
    rw [← hG]
    exact ⟨by rw [wt_16, show ([] : List WW).length = 0 from rfl, upd_same]; exact nI_0.symm, by rw [wt_17, show ([] : List WW).length = 0 from rfl, upd_same]; decide, by rw [wt_18, show ([] : List WW).length = 0 from rfl, upd_same]; rfl, by rw [wt_19, show ([] : List WW).length = 0 from rfl, upd_same]; exact nI_0.symm, trivial⟩
  obtain ⟨code, s', h', hq⟩ : ∃ code s' h', rdR a b xs = (code, s', h') := ⟨_, _, _, rfl⟩
  have hrd : rd a b xs [(0, 100, none)] no9 zg = (code, s', h') := hq
  have := n_reasonLoop ha hb hxs hxl xs [] [w0] [(0, 100, none)] no9 zg 0 (fun _ => 0) (fun _ => 0) (fun _ => 0) G 1000 code s' h' rfl (by omega) (hR.fr hFG) hW (by rw [← hG, wt_f, upd_same]; rfl) (by simp) (by rw [← hG, wt_f, upd_ne _ _ (by omega), ← hE, u2_same, upd_ne _ _ (by omega), u2_same, upd_ne _ _ (by omega), u2_same, upd_same]; exact nI_0.symm) (Nat.le_refl _) ⟨rfl, rfl, by show 0 < 2; decide, by simp, by simp, Or.inl ⟨rfl, rfl⟩, trivial⟩ ⟨by simp, by simp, fun x _ _ => rfl, (fun w hw => by cases hw), trivial⟩ hrd (fun _ => ⟨(fun i hi => by omega), Or.inl List.mem_cons_self, Or.inl ⟨rfl, rfl⟩⟩) ⟨fun i hi => by omega, fun i j hi => by omega⟩
  obtain ⟨D', g1, g2⟩ := this
  unfold rsn
  rw [hq]
  simp only
  rcases g2 with ⟨h0, g2⟩ | ⟨h0, c, kf, lf, hf, g2, g3, g4, g5, g6⟩
  · rw [if_pos h0]
    exact ⟨D', g2, hFG.tr g1, fun q => absurd q h0⟩
  · obtain ⟨f29, k1⟩ := n_shownDigest g3 g4 g5
    subst h0
    rw [if_neg (by simp)]
    rw [k1, dcb_some] at g2
    have uo : ∀ z, z ≠ m + 29 → uA D' (m + 29) f29 z = D' z := fun z hz => uA_ne _ _ hz
    have hFU : FrX m D (uA D' (m + 29) f29) := (hFG.tr g1).tr ⟨fun c c1 c2 => uo c (by omega), fun j _ _ _ => by rw [uo m (by omega)]⟩
    have hTU : TruM (uA D' (m + 29) f29) m tr fm := ⟨by rw [hFU.2 26 (by omega) (by omega) (by omega)]; exact hT.1, by rw [hFU.2 28 (by omega) (by omega) (by omega)]; exact hT.2.1, fun j x hx => by rw [hFU.1 (m + 22) (by omega) (by omega)]; exact hT.2.2 j x hx⟩
    rw [n_former9 hTU hfl] at g2
    refine ⟨uA D' (m + 29) f29, ?_, hFU, fun _ => ⟨c, kf, lf, hf, ?_, g4, by rw [uo m (by omega)]; exact g5, g6⟩⟩
    · refine g2.trans ?_
      congr 2
      by_cases h1 : dg s' h' 0 100 = tr
      · rw [if_pos h1, if_pos h1]; exact nI_0.symm
      · rw [if_neg h1, if_neg h1]
        by_cases h2 : dg s' h' 0 100 ∈ fm
        · rw [if_pos h2, if_pos h2]; rfl
        · rw [if_neg h2, if_neg h2]; rfl
    · unfold NF NL NR
      rw [uo (m + 23) (by omega), uo (m + 24) (by omega), uo (m + 25) (by omega), uo (m + 26) (by omega), uo (m + 27) (by omega), uo (m + 28) (by omega), uo m (by omega)]
      exact g3
