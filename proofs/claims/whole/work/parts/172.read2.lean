def no9 : Nat → Int32 := fun _ => -9
theorem cn_no9 (lo hi : Nat) : cn no9 lo hi = 0 := by
  have : ∀ d, cnF no9 lo d = 0 := by
    intro d
    induction d with
    | zero => rfl
    | succ d ih => rw [cnF, ih, if_pos (show no9 (lo + d) = -9 from rfl)]
  exact this _
/-- reading: the code, what is shown, what hangs in the gaps -/
def rdR (a b : Nat) (xs : List Int32) : Nat × (Nat → Int32) × (Nat → Int32) := rd a b xs [(0, 100, none)] no9 zg
theorem n_takeIn {r a b : Nat} {xs : List Int32} {D : DD} (ha : a < 100) (hb : b < 100) (hxs : ∀ x ∈ xs, isIt x) (hxl : xs.length ≤ 100) (hI : Itm D (r + 1) xs) : ∃ (code : Nat) (s' h' : Nat → Int32) (D' : DD), rdR a b xs = (code, s', h') ∧ g_X5_takeIn r (nI a) (nI b) D = some (nI code, D') ∧ code ≤ 5 ∧ Itm D' (r + 1) xs ∧ Prs D' (r + 4) s' ∧ Gp D' (r + 6) h' ∧ FrR r D D' := by
  unfold g_X5_takeIn
  obtain ⟨f1, z1, z2⟩ := n_fill 100 (r + 4 + 1) (-9) D (by decide)
  unfold g_X2_clear
  rw [z1, vcb_some, dlt_eq, vcb_some]
  generalize hD1 : u2 (uA D (r + 4 + 1) f1) (r + 4) 1 0 = D1
  obtain ⟨f2, y1, y2⟩ := n_fill 101 (r + 6 + 4) 0 D1 (by decide)
  unfold g_X7_hideNothing
  rw [y1, vcb_some, vcb_some]
  show ∃ (code : Nat) (s' h' : Nat → Int32) (D' : DD), _ ∧ vcb (some (u2 (uA D1 (r + 6 + 4) f2) (r + 15) 2 0)) _ = _ ∧ _
  rw [vcb_some]
  generalize hE : u2 (uA D1 (r + 6 + 4) f2) (r + 15) 2 0 = E
  have d1 : ∀ c, c ≠ r + 4 → c ≠ r + 5 → D1 c = D c := fun c c1 c2 => by rw [← hD1, u2_ne _ _ c1, uA_ne _ _ (by omega)]
  have e1 : ∀ c, c ≠ r + 10 → c ≠ r + 15 → E c = D1 c := fun c c1 c2 => by rw [← hE, u2_ne _ _ c2, uA_ne _ _ (by omega)]
  have hIE : Itm E (r + 1) xs := (hI.congr (d1 _ (by omega) (by omega)) (d1 _ (by omega) (by omega))).congr (e1 _ (by omega) (by omega)) (e1 _ (by omega) (by omega))
  have hPE : Prs E (r + 4) no9 := by
    refine ⟨fun k hk => ?_, ?_⟩
    · rw [e1 (r + 4 + 1) (by omega) (by omega), ← hD1, u2_ne _ _ (by omega), uA_same]; exact z2 k hk
    · rw [e1 (r + 4) (by omega) (by omega), ← hD1, u2_same, upd_same, cn_no9]; exact nI_0.symm
  have hGE : Gp E (r + 6) zg := fun g hg => by rw [← hE, u2_ne _ _ (by omega), uA_same]; exact y2 g (by omega)
  have hF : FrR r D E := fun c c1 c2 c3 c4 c5 c6 => by rw [e1 c c3 c4, d1 c c1 c2]
  have := n_takeLoop ha hb hxs hxl xs [] 0 100 none [] no9 zg E 1000 rfl (by omega) (by omega) (by omega) (fun p hp => by cases hp) (Nat.le_refl _) (fun i hi => by cases hi) ⟨hIE, hPE, hGE, by rw [← hE, u2_same, upd_same]; exact nI_0.symm, trivial⟩
  obtain ⟨code, s', h', D', g1, g2, g3, g4, g5, g6, g7⟩ := this
  exact ⟨code, s', h', D', g1, g2, g3, g4, g5, g6, hF.tr g7⟩
/-- what stands in the reader: trusted, former ones (the last one first) -/
def Tru (D : DD) (r : Nat) (tr : Int32) (fm : List Int32) : Prop := D r 1 = tr ∧ D r 3 = nI fm.length ∧ ∀ (j : Nat) (x : Int32), fm[j]? = some x → D (r + 3) j = x
theorem Tru.congr {D D' : DD} {r : Nat} {tr : Int32} {fm : List Int32} (h0 : D' r = D r) (h1 : D' (r + 3) = D (r + 3)) (h : Tru D r tr fm) : Tru D' r tr fm := ⟨by rw [h0]; exact h.1, by rw [h0]; exact h.2.1, fun j x hx => by rw [h1]; exact h.2.2 j x hx⟩
theorem n_isFormer {D : DD} {r : Nat} {tr x : Int32} {fm : List Int32} (h : Tru D r tr fm) (hl : fm.length ≤ 8) : g_X5_isFormer r x D = some (if x ∈ fm then 1 else 0) := by
  have loop : ∀ (rest pre : List Int32) (n : Nat), fm = pre ++ rest → rest.length < n → (∀ y ∈ pre, y ≠ x) → g_X5_isFormer_2 n r x (nI pre.length) D = some (if x ∈ fm then 1 else 0) := by
    intro rest
    induction rest with
    | nil =>
      intro pre n e hn hp
      obtain ⟨n, rfl⟩ : ∃ q, n = q + 1 := ⟨n - 1, by omega⟩
      have : fm = pre := by rw [e, List.append_nil]
      rw [g_X5_isFormer_2, h.2.1, this, if_pos (Int32.le_refl _), if_neg (fun q => hp x q rfl)]
    | cons y rest ih =>
      intro pre n e hn hp
      obtain ⟨n, rfl⟩ : ∃ q, n = q + 1 := ⟨n - 1, by omega⟩
      have hlen : fm.length = pre.length + (rest.length + 1) := by rw [e]; simp
      have hy : fm[pre.length]? = some y := by rw [e]; simp
      rw [g_X5_isFormer_2, h.2.1, if_neg (nI_ge (by omega) (by omega))]
      have hat : g_X5_formerAt r (nI pre.length) D = some y := by
        unfold g_X5_formerAt
        rw [if_neg (nI_pos (by omega)), h.2.1, if_neg (nI_ge (by omega) (by omega)), zck_nI (by omega) (by decide), ix_nI (by omega), h.2.2 _ _ hy]
      rw [hat, pcb_some]
      by_cases hxy : y = x
      · rw [if_pos hxy, if_pos (by rw [e, ← hxy]; simp)]
      · rw [if_neg hxy, nI_1]
        have := ih (pre ++ [y]) n (by rw [e]; simp) (by simp only [List.length_cons] at hn; omega) (fun z hz => by
          rcases List.mem_append.mp hz with q | q
          · exact hp z q
          · rw [List.mem_singleton.mp q]; exact hxy)
        simpa using this
  exact loop fm [] 1000 rfl (by omega) (fun y hy => by cases hy)
theorem n_rootDigest {f h : Nat → Int32} {t : Nat} {D : DD} (hg : Gp D t h) (hT : TrOk f h (D (t + 1)) (D (t + 2)) (D (t + 3))) (hr : D t 6 = oI (bs f 0 100)) : g_X7_rootDigest t D = some (dg f h 0 100) := by
  unfold g_X7_rootDigest
  rw [hr]
  cases e : bs f 0 100 with
  | none => rw [show oI none = -9 from rfl, show (100 : Int32) = nI 100 from rfl, n_digestOr_n (by omega), pcb_some, hg 100 (by omega), dg_none e]
  | some k =>
    obtain ⟨a1, a2, -, -⟩ := bs_some e
    rw [show oI (some k) = nI k from rfl, n_digestOr_s a2, pcb_some, (hT 0 100 k (Bd_top f) e).2.2]
def rsn (a b : Nat) (xs : List Int32) (tr : Int32) (fm : List Int32) : Nat :=
  if (rdR a b xs).1 ≠ 0 then (rdR a b xs).1 else if dg (rdR a b xs).2.1 (rdR a b xs).2.2 0 100 = tr then 0 else if dg (rdR a b xs).2.1 (rdR a b xs).2.2 0 100 ∈ fm then 7 else 6
def FrT (r : Nat) (D D' : DD) : Prop := ∀ c, (c < r + 4 ∨ r + 17 < c) → D' c = D c
theorem FrT.tr {r : Nat} {D D' D'' : DD} (h1 : FrT r D D') (h2 : FrT r D' D'') : FrT r D D'' := fun c a => (h2 c a).trans (h1 c a)
theorem n_reasonBy {r a b : Nat} {xs fm : List Int32} {tr : Int32} {D : DD} (ha : a < 100) (hb : b < 100) (hxs : ∀ x ∈ xs, isIt x) (hxl : xs.length ≤ 100) (hfl : fm.length ≤ 8) (hI : Itm D (r + 1) xs) (hT : Tru D r tr fm) : ∃ D' : DD, g_X5_reasonBy r (nI a) (nI b) D = some (nI (rsn a b xs tr fm), D') ∧ Prs D' (r + 4) (rdR a b xs).2.1 ∧ Gp D' (r + 6) (rdR a b xs).2.2 ∧ FrT r D D' ∧ rsn a b xs tr fm ≤ 7 := by
  unfold g_X5_reasonBy
  obtain ⟨code, s', h', D1, g1, g2, g3, g4, g5, g6, g7⟩ := n_takeIn ha hb hxs hxl hI
  have hF1 : FrT r D D1 := fun c hc => g7 c (by omega) (by omega) (by omega) (by omega) (by omega) (by omega)
  rw [g2, dcb_some]
  unfold rsn
  rw [g1]
  simp only
  by_cases h0 : code = 0
  · subst h0
    rw [if_pos nI_0, if_neg (by simp)]
    obtain ⟨D2, e1, e2, e3, e4, e5⟩ := n_grow (f := s') (h := h') (a := r + 6) (p := r + 4) (D := D1) (Or.inl (by omega)) ⟨g5.1, g6⟩
    have hF2 : FrT r D1 D2 := fun c hc => e2.1 c (by omega) (by omega) (by omega) (by omega) (by omega)
    have hP2 : Prs D2 (r + 4) s' := g5.congr (e2.1 _ (by omega) (by omega) (by omega) (by omega) (by omega)) (e2.1 _ (by omega) (by omega) (by omega) (by omega) (by omega))
    have hG2 : Gp D2 (r + 6) h' := fun g hg => by rw [e2.1 _ (by omega) (by omega) (by omega) (by omega) (by omega)]; exact g6 g hg
    have hT2 : Tru D2 r tr fm := (hT.congr (hF1 _ (by omega)) (hF1 _ (by omega))).congr (hF2 _ (by omega)) (hF2 _ (by omega))
    rw [e1, vcb_some, n_rootDigest hG2 e3 e4, pcb_some, hT2.1]
    by_cases h1 : dg s' h' 0 100 = tr
    · rw [if_pos h1, if_pos h1]
      exact ⟨D2, by rw [nI_0], hP2, hG2, hF1.tr hF2, by decide⟩
    · rw [if_neg h1, if_neg h1, n_isFormer hT2 hfl, pcb_some]
      by_cases h2 : dg s' h' 0 100 ∈ fm
      · rw [if_pos h2, if_neg one_ne0, if_pos h2]
        exact ⟨D2, rfl, hP2, hG2, hF1.tr hF2, by decide⟩
      · rw [if_neg h2, if_pos rfl, if_neg h2]
        exact ⟨D2, rfl, hP2, hG2, hF1.tr hF2, by decide⟩
  · rw [if_neg (nI_ne0 (by omega) (by omega)), if_pos h0]
    exact ⟨D1, rfl, g5, g6, hF1, by omega⟩
