theorem nI_dec (p : Nat) : nI (p + 1) + (-1 : Int32) = nI p := by
  rw [show (-1 : Int32) = -(1 : Int32) from rfl, ← Int32.sub_eq_add_neg, nI_pred]
def cons8 (t : Int32) (fm : List Int32) : List Int32 := (t :: fm).take 8
theorem cons8_len (t : Int32) (fm : List Int32) : (cons8 t fm).length = min 8 (fm.length + 1) := by
  unfold cons8; rw [List.length_take]; simp
theorem cons8_at {t : Int32} {fm : List Int32} {j : Nat} (hj : j < 8) : (cons8 t fm)[j]? = if j = 0 then some t else fm[j - 1]? := by
  unfold cons8
  rw [List.getElem?_take_of_lt hj]
  cases j with
  | zero => rfl
  | succ j => simp
theorem n_nowTrust {D : DD} {tr d : Int32} {fm : List Int32} (hT : Tru D 42 tr fm) (hl : fm.length ≤ 8) : ∃ D' : DD, g_X5_nowTrust 42 d D = some (nI (min 8 (fm.length + 1)), D') ∧ Tru D' 42 d (cons8 tr fm) ∧ ∀ c, c ≠ 42 → c ≠ 45 → D' c = D c := by
  have loop : ∀ (p n : Nat) (D : DD), p < 8 → p < n → D 42 3 = nI fm.length → ∃ F : Nat → Int32, g_X5_nowTrust_3 n 42 d (nI p) D = some (nI (min 8 (fm.length + 1)), u2 (u2 (uA D 45 F) 42 3 (nI (min 8 (fm.length + 1)))) 42 1 d) ∧ F 0 = D 42 1 ∧ (∀ j, 1 ≤ j → j ≤ p → F j = D 45 (j - 1)) ∧ ∀ j, p < j → F j = D 45 j := by
    intro p
    induction p with
    | zero =>
      intro n D h1 h2 h3
      obtain ⟨n, rfl⟩ : ∃ q, n = q + 1 := ⟨n - 1, by omega⟩
      refine ⟨upd (D 45) 0 (D 42 1), ?_, upd_same _ _ _, fun j a b => by omega, fun j hj => upd_ne _ _ (by omega)⟩
      have emin : g_J9_min_7cf53 (nI fm.length + (1 : Int32)) 8 = some (nI (min 8 (fm.length + 1))) := by
        unfold g_J9_min_7cf53
        rw [nI_1]
        by_cases e : 8 < fm.length + 1
        · rw [if_pos (show (8 : Int32) < nI _ from nI_lt (a := 8) e (by omega)), Nat.min_eq_left (by omega)]; rfl
        · rw [if_neg (show ¬ (8 : Int32) < nI _ from nI_nlt (a := 8) (by omega) (by decide)), Nat.min_eq_right (by omega)]
      rw [g_X5_nowTrust_3, if_pos (show nI 0 ≤ 0 by decide), zck_t (by decide), dlt_eq, u2_ne _ _ (by omega), h3, emin, pcb_some, dlt_eq, dlt_eq, u2_same, upd_ne _ _ (by omega), u2_same, upd_same]
      rfl
    | succ p ih =>
      intro n D h1 h2 h3
      obtain ⟨n, rfl⟩ : ∃ q, n = q + 1 := ⟨n - 1, by omega⟩
      obtain ⟨F, q1, q2, q3, q4⟩ := ih n (u2 D 45 (p + 1) (D 45 p)) (by omega) (by omega) (by rw [u2_ne _ _ (by omega)]; exact h3)
      refine ⟨F, ?_, by rw [q2, u2_ne _ _ (by omega)], fun j a b => ?_, fun j hj => ?_⟩
      · rw [g_X5_nowTrust_3, if_neg (nI_nle (by omega) (by omega)), nI_pred, zck_nI (by omega) (by decide), zck_nI (by omega) (by decide), dlt_eq, ix_nI (by omega), ix_nI (by omega), nI_dec, q1, uA_u2]
      · by_cases e : j = p + 1
        · subst e
          rw [q4 _ (by omega), u2_same, upd_same]; rfl
        · rw [q3 j a (by omega), u2_same, upd_ne _ _ (by omega)]
      · rw [q4 j (by omega), u2_same, upd_ne _ _ (by omega)]
  obtain ⟨F, q1, q2, q3, q4⟩ := loop 7 1000 D (by omega) (by omega) hT.2.1
  refine ⟨_, q1, ⟨by rw [u2_same, upd_same], by rw [u2_same, upd_ne _ _ (by omega), u2_same, upd_same, cons8_len], fun j x hx => ?_⟩, fun c c1 c2 => by rw [u2_ne _ _ c1, u2_ne _ _ c1, uA_ne _ _ c2]⟩
  have hj : j < 8 := by
    have := (List.getElem?_eq_some_iff.mp hx).1
    rw [cons8_len] at this
    omega
  rw [cons8_at hj] at hx
  rw [u2_ne _ _ (by omega), u2_ne _ _ (by omega), uA_same]
  by_cases e : j = 0
  · subst e
    rw [if_pos rfl] at hx
    rw [q2, hT.1]; exact Option.some.inj hx
  · rw [if_neg e] at hx
    rw [q3 j (by omega) (by omega)]
    exact hT.2.2 _ _ hx
theorem rev_at {fm : List Int32} {j : Nat} (hj : j < fm.length) : fm.reverse[j]? = fm[fm.length - 1 - j]? := List.getElem?_reverse hj
theorem n_takeTrust47 {D : DD} {tr d : Int32} {l : Nat} (hl : l < 8) (h1 : D 80 26 = tr) (h2 : D 80 28 = nI l) : g_X9_takeTrust_47 80 d D = some (nI (l + 1), u2 (u2 (u2 D 102 l tr) 80 28 (nI (l + 1))) 80 26 d) := by
  unfold g_X9_takeTrust_47
  rw [h2, zck_nI hl (by decide), ix_nI (by omega), h1, dlt_eq, u2_ne _ _ (by omega), h2, nI_1, dlt_eq, dlt_eq, u2_same, upd_ne _ _ (by omega), u2_same, upd_same]
theorem n_takeTrust {D : DD} {tr d : Int32} {fm : List Int32} (hT : TruM D 80 tr fm) (hl : fm.length ≤ 8) : ∃ D' : DD, g_X9_takeTrust 80 d D = some (nI (min 8 (fm.length + 1)), D') ∧ TruM D' 80 d (cons8 tr fm) ∧ (∀ c, c ≠ 80 → c ≠ 102 → D' c = D c) ∧ ∀ j, j ≠ 26 → j ≠ 28 → D' 80 j = D 80 j := by
  unfold g_X9_takeTrust
  have clen := cons8_len tr fm
  by_cases e : fm.length = 8
  · rw [hT.2.1, e, if_pos (show nI 8 = (8 : Int32) from rfl)]
    have loop : ∀ (q k n : Nat) (D : DD), k + q = 8 → 1 ≤ k → q < n → D 80 28 = nI 8 → D 80 26 = tr → ∃ F : Nat → Int32, g_X9_takeTrust_11 n 80 d (nI k) D = some (nI 8, u2 (u2 (uA (u2 D 80 28 (nI 7)) 102 F) 80 28 (nI 8)) 80 26 d) ∧ F 7 = tr ∧ (∀ j, k - 1 ≤ j → j < 7 → F j = D 102 (j + 1)) ∧ ∀ j, j < k - 1 → F j = D 102 j := by
      intro q
      induction q with
      | zero =>
        intro k n D h1 h2 h3 h4 h5
        obtain ⟨n, rfl⟩ : ∃ q, n = q + 1 := ⟨n - 1, by omega⟩
        have hk : k = 8 := by omega
        subst hk
        refine ⟨upd (D 102) 7 tr, ?_, upd_same _ _ _, fun j a b => by omega, fun j hj => upd_ne _ _ (by omega)⟩
        rw [g_X9_takeTrust_11, if_pos (show (8 : Int32) ≤ nI 8 from Int32.le_refl _), h4, show nI 8 - (1 : Int32) = nI 7 from nI_pred 7, dlt_eq, n_takeTrust47 (l := 7) (tr := tr) (by omega) (by rw [u2_same, upd_ne _ _ (by omega)]; exact h5) (by rw [u2_same, upd_same])]
        rfl
      | succ q ih =>
        intro k n D h1 h2 h3 h4 h5
        obtain ⟨n, rfl⟩ : ∃ q, n = q + 1 := ⟨n - 1, by omega⟩
        obtain ⟨k, rfl⟩ : ∃ q, k = q + 1 := ⟨k - 1, by omega⟩
        obtain ⟨F, q1, q2, q3, q4⟩ := ih (k + 1 + 1) n (u2 D 102 k (D 102 (k + 1))) (by omega) (by omega) (by omega) (by rw [u2_ne _ _ (by omega)]; exact h4) (by rw [u2_ne _ _ (by omega)]; exact h5)
        refine ⟨F, ?_, q2, fun j a b => ?_, fun j hj => ?_⟩
        · rw [g_X9_takeTrust_11, if_neg (show ¬ (8 : Int32) ≤ nI (k + 1) from nI_ge (b := 8) (by omega) (by decide)), nI_pred, zck_nI (by omega) (by decide), zck_nI (by omega) (by decide), dlt_eq, ix_nI (by omega), ix_nI (by omega), nI_1, q1]
          congr 3
          funext b
          by_cases hb : b = 102
          · subst hb; simp only [u2_ne _ _ (show (102 : Nat) ≠ 80 by omega), uA_same]
          · by_cases hb2 : b = 80
            · subst hb2; simp only [u2_same, uA_ne _ _ (show (80 : Nat) ≠ 102 by omega), u2_ne _ _ (show (80 : Nat) ≠ 102 by omega)]
            · simp only [u2_ne _ _ hb2, uA_ne _ _ hb, u2_ne _ _ hb]
        · by_cases e : j = k
          · subst e
            rw [q4 _ (by omega), u2_same, upd_same]
          · rw [q3 j (by omega) b, u2_same, upd_ne _ _ (by omega)]
        · rw [q4 j (by omega), u2_same, upd_ne _ _ (by omega)]
    obtain ⟨F, q1, q2, q3, q4⟩ := loop 7 1 1000 D (by omega) (by omega) (by omega) (by rw [hT.2.1, e]) hT.1
    refine ⟨_, q1, ⟨by rw [u2_same, upd_same], by rw [u2_same, upd_ne _ _ (by omega), u2_same, upd_same, clen, e]; rfl, fun j x hx => ?_⟩, fun c c1 c2 => by rw [u2_ne _ _ c1, u2_ne _ _ c1, uA_ne _ _ c2, u2_ne _ _ c1], fun j j1 j2 => by rw [u2_same, upd_ne _ _ j1, u2_same, upd_ne _ _ j2, uA_ne _ _ (by omega), u2_same, upd_ne _ _ j2]⟩
    have hj : j < 8 := by
      have := (List.getElem?_eq_some_iff.mp hx).1
      rw [List.length_reverse, clen] at this
      omega
    rw [rev_at (by rw [clen, e]; omega), clen, e, show min 8 (8 + 1) - 1 - j = 7 - j by omega, cons8_at (by omega)] at hx
    rw [u2_ne _ _ (by omega), u2_ne _ _ (by omega), uA_same]
    by_cases ej : j = 7
    · subst ej
      rw [if_pos rfl] at hx
      rw [q2]; exact Option.some.inj hx
    · rw [if_neg (by omega)] at hx
      rw [q3 j (by omega) (by omega)]
      refine hT.2.2 _ _ ?_
      rw [rev_at (by omega), e, ← hx]
      congr 1
  · rw [hT.2.1, if_neg (show ¬ nI fm.length = (8 : Int32) from fun q => e ((nI_eq (b := 8) (by omega) (by decide)).mp q)), n_takeTrust47 (by omega) hT.1 hT.2.1, Nat.min_eq_right (by omega)]
    refine ⟨_, rfl, ⟨by rw [u2_same, upd_same], by rw [u2_same, upd_ne _ _ (by omega), u2_same, upd_same, clen, Nat.min_eq_right (by omega)], fun j x hx => ?_⟩, fun c c1 c2 => by rw [u2_ne _ _ c1, u2_ne _ _ c1, u2_ne _ _ c2], fun j j1 j2 => by rw [u2_same, upd_ne _ _ j1, u2_same, upd_ne _ _ j2, u2_ne _ _ (by omega)]⟩
    have hj : j < fm.length + 1 := by
      have := (List.getElem?_eq_some_iff.mp hx).1
      rw [List.length_reverse, clen] at this
      omega
    rw [rev_at (by rw [clen]; omega), clen, show min 8 (fm.length + 1) - 1 - j = fm.length - j by omega, cons8_at (by omega)] at hx
    rw [u2_ne _ _ (by omega), u2_ne _ _ (by omega), u2_same]
    by_cases ej : j = fm.length
    · subst ej
      rw [if_pos (by omega)] at hx
      rw [upd_same]; exact Option.some.inj hx
    · rw [if_neg (by omega)] at hx
      rw [upd_ne _ _ ej]
      refine hT.2.2 _ _ ?_
      rw [rev_at (by omega), ← hx]
      congr 1
      omega
theorem trusted {D : DD} {f : Mp} {us : List Mp} {sl : Nat → Option Mp} {xs : List Int32} {tr : Int32} {fm : List Int32} (hC : CI D f us sl xs tr fm) (hA : AOk f us sl xs fm) (d : Int32) : ∃ D1 : DD, g_X5_nowTrust 42 d D = some (nI (min 8 (fm.length + 1)), D1) ∧ CI D1 f us sl xs d (cons8 tr fm) ∧ ∀ c, 80 ≤ c → D1 c = D c := by
  obtain ⟨D1, q1, q2, q3⟩ := n_nowTrust (d := d) hC.tru hA.2.2.2.2.2.1
  obtain ⟨L, a, b⟩ := hC.wr
  exact ⟨D1, q1, hC.keep2 (fun c hc => q3 c (by omega) (by omega)) (hC.row.congr (q3 _ (by omega) (by omega)) (q3 _ (by omega) (by omega))) q2 ⟨L, a, by rw [q3 _ (by omega) (by omega)]; exact b⟩, fun c hc => q3 c (by omega) (by omega)⟩
theorem trusted9 {D : DD} {f : Mp} {us : List Mp} {sl : Nat → Option Mp} {xs : List Int32} {tr : Int32} {fm : List Int32} (hM : MI D 80 f us sl xs tr fm) (hA : AOk f us sl xs fm) (d : Int32) : ∃ D1 : DD, g_X9_takeTrust 80 d D = some (nI (min 8 (fm.length + 1)), D1) ∧ MI D1 80 f us sl xs d (cons8 tr fm) ∧ ∀ c, c < 80 → D1 c = D c := by
  obtain ⟨D1, q1, q2, q3, q4⟩ := n_takeTrust (d := d) hM.tru hA.2.2.2.2.2.1
  exact ⟨D1, q1, hM.keep2 (fun c hc => q3 c (by omega) (by omega)) (fun j hj => q4 j (by omega) (by omega)) (hM.row.congr (q4 _ (by omega) (by omega)) (q3 _ (by omega) (by omega))) q2, fun c hc => q3 c (by omega) (by omega)⟩
theorem AOk.cons8 {f : Mp} {us : List Mp} {sl : Nat → Option Mp} {xs fm : List Int32} {t : Int32} (h : AOk f us sl xs fm) : AOk f us sl xs (cons8 t fm) := h.fm (by rw [cons8_len]; omega)
theorem n_rootOf {f : Nat → Int32} {D : DD} (hf : ∀ k, k < 100 → D 81 k = f k) : ∃ D' : DD, g_X9_rootOf 80 81 D = some (dg f zg 0 100, D') ∧ MkOk f 80 0 0 D' ∧ FrM 80 D D' := by
  obtain ⟨D', q1, q2, q3⟩ := n_make (m := 80) (v := 81) (lev := 0) (Or.inl rfl) (by omega) hf
  refine ⟨D', ?_, q2, q3⟩
  unfold g_X9_rootOf
  have e0 : ix (0 : Int32) = 0 := by decide
  rw [show (0 : Int32) = nI 0 from nI_0.symm] at *
  rw [q1, vcb_some, zck_t (by decide), e0, q2.1]
  cases hb : bs f 0 100 with
  | none => rw [if_pos (show oI none = -9 from rfl), dg_none hb]; rfl
  | some k =>
    obtain ⟨h1, h2, h3, h4⟩ := bs_some hb
    have := (q2.2 k h2 h3).2.2.2.2
    rw [pl_top hb] at this
    rw [if_neg (show ¬ oI (some k) = -9 from nI_ne9 (by omega)), zck_t (by decide), show oI (some k) = nI k from rfl, zck_nI (by omega) (by decide), ix_nI (by omega)]
    rw [Nat.mul_zero, Nat.zero_add] at this
    rw [this]
theorem op_trust {D : DD} (h : St D) : ∃ (r : Int32) (D1 D2 : DD), g_X8_trust 0 D = some (r, D1) ∧ g_X9_trust 80 D1 = some (r, D2) ∧ St D2 := by
  obtain ⟨f, us, sl, xs, tr, fm, hC, hM, hA⟩ := id h
  unfold g_X8_trust g_X9_trust
  simp only [Nat.zero_add]
  rw [n_rootDigest hC.2.1.2.2.2 hC.2.1.1 hC.2.1.2.1, pcb_some]
  obtain ⟨D1, a1, a2, a3⟩ := trusted hC hA (dg f zg 0 100)
  rw [a1, dcb_some]
  have hM1 : MI D1 80 f us sl xs tr fm := hM.congr (fun c c1 c2 => a3 c c1)
  obtain ⟨D2, b1, -, b3⟩ := n_rootOf hM1.1
  have hM2 := hM1.fp b3.P
  obtain ⟨D3, c1, c2, c3⟩ := trusted9 hM2 hA (dg f zg 0 100)
  refine ⟨_, D1, D3, rfl, ?_, f, us, sl, xs, _, _, a2.congr (fun c hc => ?_), c2, hA.cons8⟩
  · rw [b1, dcb_some, c1, dcb_some]
  · rw [c3 c hc, b3.1 c (by omega) (by omega)]
theorem op_believe {D : DD} (h : St D) (x : Int32) : ∃ (r : Int32) (D1 D2 : DD), g_X8_believe 0 x D = some (r, D1) ∧ g_X9_believe 80 x D1 = some (r, D2) ∧ St D2 := by
  obtain ⟨f, us, sl, xs, tr, fm, hC, hM, hA⟩ := id h
  unfold g_X8_believe g_X9_believe
  simp only [Nat.zero_add]
  by_cases hx : 0 ≤ x
  · simp only [if_pos hx]
    obtain ⟨D1, a1, a2, a3⟩ := trusted hC hA x
    rw [a1, dcb_some]
    have hM1 : MI D1 80 f us sl xs tr fm := hM.congr (fun c c1 c2 => a3 c c1)
    obtain ⟨D3, c1, c2, c3⟩ := trusted9 hM1 hA x
    refine ⟨_, D1, D3, rfl, ?_, f, us, sl, xs, _, _, a2.congr c3, c2, hA.cons8⟩
    rw [c1, dcb_some]
  · simp only [if_neg hx]
    exact ⟨_, _, _, rfl, rfl, h⟩
theorem op_former {D : DD} (h : St D) (x : Int32) : ∃ r : Int32, g_X8_former 0 x D = some r ∧ g_X9_former 80 x D = some r := by
  obtain ⟨f, us, sl, xs, tr, fm, hC, hM, hA⟩ := id h
  have hl := hA.2.2.2.2.2.1
  unfold g_X8_former g_X9_former g_X5_formerCount g_X5_formerAt
  simp only [Nat.zero_add, pcb_some]
  rw [hC.tru.2.1, hM.tru.2.1]
  rcases place_or (L := fm.length) (by omega) x with ⟨j, hj, rfl⟩ | hp
  · rw [if_neg (nI_pos (by omega)), if_pos (nI_lt hj (by omega)), if_neg (nI_pos (by omega)), if_neg (nI_ge hj (by omega)), zck_nI (by omega) (by decide), pcb_some, ix_nI (by omega), n_inL (by omega) hj, pcb_some, if_neg one_ne0]
    have e1 : nI fm.length - (1 : Int32) - nI j = nI (fm.length - 1 - j) := by
      obtain ⟨q, hq⟩ : ∃ q, fm.length = q + 1 := ⟨fm.length - 1, by omega⟩
      rw [hq, nI_pred, nI_sub (by omega)]
      rfl
    rw [e1, zck_nI (by omega) (by decide), ix_nI (by omega)]
    refine ⟨fm[j], ?_, ?_⟩
    · rw [hC.tru.2.2 j fm[j] (List.getElem?_eq_getElem hj)]
    · rw [hM.tru.2.2 (fm.length - 1 - j) fm[j] (by rw [rev_at (by omega), show fm.length - 1 - (fm.length - 1 - j) = j by omega]; exact List.getElem?_eq_getElem hj)]
  · rw [n_inL_f (by omega) hp, pcb_some, if_pos rfl]
    refine ⟨-1, ?_, rfl⟩
    by_cases h1 : x < 0
    · rw [if_pos h1]
    · rw [if_neg h1, if_neg (Int32.not_lt.mpr (hp.elim (fun q => absurd q h1) id))]
theorem CI.ft {D D' : DD} {f : Mp} {us : List Mp} {sl : Nat → Option Mp} {xs : List Int32} {tr : Int32} {fm : List Int32} (hc : CI D f us sl xs tr fm) (h : FrT 42 D D') : CI D' f us sl xs tr fm := hc.keep (fun c hq => h c (by omega))
theorem op_read {D : DD} (h : St D) (x y : Int32) : ∃ (r : Int32) (D1 D2 : DD), g_X8_read 0 x y D = some (r, D1) ∧ g_X9_read 80 x y D1 = some (r, D2) ∧ St D2 := by
  obtain ⟨f, us, sl, xs, tr, fm, hC, hM, hA⟩ := id h
  unfold g_X8_read g_X9_read
  simp only [Nat.zero_add]
  rcases range_or x y with ⟨a, b, hab, hb, rfl, rfl, e1, e2⟩ | ⟨e1, e2⟩
  · simp only [e1, e2, pcb_some, if_neg one_ne0]
    obtain ⟨D1, q1, -, -, q2, -⟩ := n_reasonBy (r := 42) (a := a) (b := b) (by omega) hb hA.2.2.2.1 hA.2.2.2.2.1 hA.2.2.2.2.2.1 hC.row hC.tru
    have hM1 : MI D1 80 f us sl xs tr fm := hM.congr (fun c c1 c2 => q2 c (by omega))
    obtain ⟨D2, p1, p2, -⟩ := n_reasonOf (m := 80) hab hb hA.2.2.2.1 hA.2.2.2.2.1 hA.2.2.2.2.2.1 hM1.row hM1.tru
    rw [q1, dcb_some]
    exact ⟨_, D1, D2, rfl, by rw [p1, dcb_some], f, us, sl, xs, tr, fm, (hC.ft q2).congr (fun c hc => p2.1 c (by omega) (by omega)), hM1.fx p2, hA⟩
  · simp only [e1, e2, pcb_some, if_pos]
    exact ⟨_, _, _, rfl, rfl, h⟩
