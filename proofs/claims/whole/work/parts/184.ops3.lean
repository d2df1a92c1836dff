theorem CI.keep2 {D D' : DD} {f : Mp} {us : List Mp} {sl : Nat → Option Mp} {xs xs' : List Int32} {tr tr' : Int32} {fm fm' : List Int32} (hc : CI D f us sl xs tr fm) (h : ∀ c, c ≤ 7 ∨ (12 ≤ c ∧ c < 42) ∨ c = 67 ∨ (74 ≤ c ∧ c < 80) → D' c = D c) (h5 : Itm D' 43 xs') (h6 : Tru D' 42 tr' fm') (h7 : ∃ L, L ≤ 100 ∧ D' 72 1 = nI L) : CI D' f us sl xs' tr' fm' := by
  obtain ⟨h1, h2, ⟨fi, h3⟩, h4, -, -, h8, -⟩ := hc
  exact ⟨h1.congr (h _ (by omega)) (h _ (by omega)), h2.congr (fun c a b => h c (by omega)), ⟨fi, h3.congr (fun c a b => h c (by omega))⟩, h4.congr (fun c a b => h c (by omega)), h5, h6, fun g hg => by rw [h _ (by omega)]; exact h8 g hg, h7⟩
theorem CI.keep {D D' : DD} {f : Mp} {us : List Mp} {sl : Nat → Option Mp} {xs : List Int32} {tr : Int32} {fm : List Int32} (hc : CI D f us sl xs tr fm) (h : ∀ c, c ≤ 7 ∨ (12 ≤ c ∧ c ≤ 45) ∨ c = 67 ∨ c = 72 ∨ (74 ≤ c ∧ c < 80) → D' c = D c) : CI D' f us sl xs tr fm := by
  obtain ⟨L, hL, hL2⟩ := hc.2.2.2.2.2.2.2
  exact hc.keep2 (fun c hq => h c (by omega)) (hc.2.2.2.2.1.congr (h _ (by omega)) (h _ (by omega))) (hc.2.2.2.2.2.1.congr (h _ (by omega)) (h _ (by omega))) ⟨L, hL, by rw [h _ (by omega)]; exact hL2⟩
theorem CI.row {D : DD} {f : Mp} {us : List Mp} {sl : Nat → Option Mp} {xs : List Int32} {tr : Int32} {fm : List Int32} (hc : CI D f us sl xs tr fm) : Itm D 43 xs := hc.2.2.2.2.1
theorem CI.tru {D : DD} {f : Mp} {us : List Mp} {sl : Nat → Option Mp} {xs : List Int32} {tr : Int32} {fm : List Int32} (hc : CI D f us sl xs tr fm) : Tru D 42 tr fm := hc.2.2.2.2.2.1
theorem CI.wr {D : DD} {f : Mp} {us : List Mp} {sl : Nat → Option Mp} {xs : List Int32} {tr : Int32} {fm : List Int32} (hc : CI D f us sl xs tr fm) : ∃ L, L ≤ 100 ∧ D 72 1 = nI L := hc.2.2.2.2.2.2.2
theorem MI.keep2 {D D' : DD} {f : Mp} {us : List Mp} {sl : Nat → Option Mp} {xs xs' : List Int32} {tr tr' : Int32} {fm fm' : List Int32} (hm : MI D 80 f us sl xs tr fm) (h : ∀ c, c = 81 ∨ c = 83 ∨ c = 84 ∨ c = 85 → D' c = D c) (h0 : ∀ j, j = 3 ∨ j = 4 → D' 80 j = D 80 j) (h4 : Row D' 80 xs') (h5 : TruM D' 80 tr' fm') : MI D' 80 f us sl xs' tr' fm' := by
  obtain ⟨h1, ⟨nx, a1, a2, a3, a4, a5⟩, h3, -, -⟩ := hm
  refine ⟨fun k hk => by rw [h _ (by omega)]; exact h1 k hk, ⟨nx, by rw [h0 _ (by omega)]; exact a1, a2, by rw [h0 _ (by omega)]; exact a3, a4, fun j g hj k hk => by rw [h _ (by omega)]; exact a5 j g hj k hk⟩, fun j hj => ?_, h4, h5⟩
  rcases h3 j hj with ⟨q1, q2⟩ | ⟨g, q1, q2, q3⟩
  · exact Or.inl ⟨q1, by rw [h _ (by omega)]; exact q2⟩
  · exact Or.inr ⟨g, q1, by rw [h _ (by omega)]; exact q2, fun k hk => by rw [h _ (by omega)]; exact q3 k hk⟩
theorem Row.congr {D D' : DD} {m : Nat} {xs : List Int32} (h0 : D' m 25 = D m 25) (h1 : D' (m + 21) = D (m + 21)) (h : Row D m xs) : Row D' m xs := ⟨by rw [h0]; exact h.1, fun j x hx => by rw [h1]; exact h.2 j x hx⟩
theorem TruM.congr {D D' : DD} {m : Nat} {tr : Int32} {fm : List Int32} (h0 : D' m 26 = D m 26) (h2 : D' m 28 = D m 28) (h1 : D' (m + 22) = D (m + 22)) (h : TruM D m tr fm) : TruM D' m tr fm := ⟨by rw [h0]; exact h.1, by rw [h2]; exact h.2.1, fun j x hx => by rw [h1]; exact h.2.2 j x hx⟩
theorem MI.row {D : DD} {f : Mp} {us : List Mp} {sl : Nat → Option Mp} {xs : List Int32} {tr : Int32} {fm : List Int32} (hm : MI D 80 f us sl xs tr fm) : Row D 80 xs := hm.2.2.2.1
theorem MI.tru {D : DD} {f : Mp} {us : List Mp} {sl : Nat → Option Mp} {xs : List Int32} {tr : Int32} {fm : List Int32} (hm : MI D 80 f us sl xs tr fm) : TruM D 80 tr fm := hm.2.2.2.2
theorem MI.keep {D D' : DD} {f : Mp} {us : List Mp} {sl : Nat → Option Mp} {xs : List Int32} {tr : Int32} {fm : List Int32} (hm : MI D 80 f us sl xs tr fm) (h : ∀ c, c = 81 ∨ c = 83 ∨ c = 84 ∨ c = 85 ∨ c = 101 ∨ c = 102 → D' c = D c) (h0 : ∀ j, j = 3 ∨ j = 4 ∨ j = 25 ∨ j = 26 ∨ j = 28 → D' 80 j = D 80 j) : MI D' 80 f us sl xs tr fm :=
  hm.keep2 (fun c hc => h c (by omega)) (fun j hj => h0 j (by omega)) (hm.row.congr (h0 _ (by omega)) (h _ (by omega))) (hm.tru.congr (h0 _ (by omega)) (h0 _ (by omega)) (h _ (by omega)))
theorem MI.fp {D D' : DD} {f : Mp} {us : List Mp} {sl : Nat → Option Mp} {xs : List Int32} {tr : Int32} {fm : List Int32} (hm : MI D 80 f us sl xs tr fm) (hF : FrP 80 D D') : MI D' 80 f us sl xs tr fm := hm.keep (fun c hc => hF.1 c (by omega) (by omega)) (fun j hj => hF.2 j (by omega) (by omega))
theorem MI.fx {D D' : DD} {f : Mp} {us : List Mp} {sl : Nat → Option Mp} {xs : List Int32} {tr : Int32} {fm : List Int32} (hm : MI D 80 f us sl xs tr fm) (hF : FrX 80 D D') : MI D' 80 f us sl xs tr fm := hm.keep (fun c hc => hF.1 c (by omega) (by omega)) (fun j hj => hF.2 j (by omega) (by omega) (by omega))
theorem range_or (a b : Int32) : (∃ i j, i ≤ j ∧ j < 100 ∧ a = nI i ∧ b = nI j ∧ g_X8_isRange a b = some 1 ∧ g_X9_isRange a b = some 1) ∨ (g_X8_isRange a b = some 0 ∧ g_X9_isRange a b = some 0) := by
  unfold g_X8_isRange g_X9_isRange
  rcases num_or a with ⟨i, hi, rfl⟩ | ha
  · rw [n_isNumber9t hi, pcb_some, if_neg one_ne0, if_neg (nI_pos (by omega))]
    rcases num_or b with ⟨j, hj, rfl⟩ | hb
    · rw [n_isNumber9t hj, pcb_some, if_neg one_ne0, if_neg (nI_100 hj)]
      by_cases h : j < i
      · rw [if_pos (nI_lt h (by omega))]; exact Or.inr ⟨rfl, rfl⟩
      · rw [if_neg (nI_nlt (by omega) (by omega))]
        exact Or.inl ⟨i, j, by omega, hj, rfl, rfl, rfl, rfl⟩
    · rw [n_isNumber9f hb, pcb_some, if_pos rfl]
      refine Or.inr ⟨?_, rfl⟩
      by_cases h : b < nI i
      · rw [if_pos h]
      · rw [if_neg h, if_pos]
        by_cases h2 : (100 : Int32) ≤ b
        · exact h2
        · exact absurd ⟨Int32.le_trans (nI_pos' (by omega)) (Int32.not_lt.mp h), Int32.not_le.mp h2⟩ hb
  · rw [n_isNumber9f ha, pcb_some, if_pos rfl]
    refine Or.inr ⟨?_, rfl⟩
    by_cases h : a < 0
    · rw [if_pos h]
    · rw [if_neg h]
      by_cases h2 : b < a
      · rw [if_pos h2]
      · rw [if_neg h2, if_pos]
        have h3 : (100 : Int32) ≤ a := Int32.not_lt.mp (fun q => ha ⟨Int32.not_lt.mp h, q⟩)
        exact Int32.le_trans h3 (Int32.not_lt.mp h2)
theorem item_or (x : Int32) : (isIt x ∧ g_X8_isItem x = some 1 ∧ g_X9_isItem x = some 1) ∨ (g_X8_isItem x = some 0 ∧ g_X9_isItem x = some 0) := by
  unfold g_X8_isItem g_X9_isItem g_X8_isNodeItem
  by_cases h : 0 ≤ x
  · rw [if_pos h, if_pos h]; exact Or.inl ⟨Or.inl h, rfl, rfl⟩
  · rw [if_neg h, if_neg h, show (-10099 : Int64) = (-10099 : Int32).toInt64 from rfl, show (-100 : Int64) = (-100 : Int32).toInt64 from rfl, n_in32, pcb_some]
    by_cases h2 : -10099 ≤ x ∧ x ≤ -100
    · rw [if_pos h2, if_neg one_ne0, if_neg (Int32.not_lt.mpr h2.2), if_neg (Int32.not_lt.mpr h2.1), pcb_some, if_neg one_ne0]
      exact Or.inl ⟨Or.inr h2, rfl, rfl⟩
    · rw [if_neg h2, if_pos rfl]
      refine Or.inr ⟨?_, rfl⟩
      by_cases h3 : (-100 : Int32) < x
      · rw [if_pos h3, pcb_some, if_pos rfl]
      · rw [if_neg h3, if_pos (Int32.not_le.mp (fun q => h2 ⟨q, Int32.not_lt.mp h3⟩)), pcb_some, if_pos rfl]
theorem op_rank (key : Int32) : ∃ r : Int32, g_X8_rank 0 key = some r ∧ g_X9_rank 80 key = some r := by
  unfold g_X8_rank g_X9_rank
  rcases num_or key with ⟨k, hk, rfl⟩ | hk
  · rw [n_isNumber hk, pcb_some, if_neg one_ne0, n_isNumber9t hk, pcb_some, if_neg one_ne0, n_rank8 k hk, n_rank9 k hk]
    exact ⟨_, rfl, rfl⟩
  · rw [n_isNumber_f hk, pcb_some, if_pos rfl, n_isNumber9f hk, pcb_some, if_pos rfl]
    exact ⟨_, rfl, rfl⟩
theorem AOk.row {f : Mp} {us : List Mp} {sl : Nat → Option Mp} {xs xs' fm : List Int32} (h : AOk f us sl xs fm) (h1 : ∀ x ∈ xs', isIt x) (h2 : xs'.length ≤ 100) : AOk f us sl xs' fm := ⟨h.1, h.2.1, h.2.2.1, h1, h2, h.2.2.2.2.2⟩
theorem AOk.fm {f : Mp} {us : List Mp} {sl : Nat → Option Mp} {xs fm fm' : List Int32} (h : AOk f us sl xs fm) (h2 : fm'.length ≤ 8) : AOk f us sl xs fm' := ⟨h.1, h.2.1, h.2.2.1, h.2.2.2.1, h.2.2.2.2.1, h2, h.2.2.2.2.2.2⟩
theorem Row_add {D : DD} {m : Nat} {xs : List Int32} {x : Int32} (h : Row D m xs) (D' : DD) (h1 : D' m 25 = nI (xs.length + 1)) (h2 : D' (m + 21) = upd (D (m + 21)) xs.length x) : Row D' m (xs ++ [x]) := by
  refine ⟨by rw [h1]; simp, fun j y hy => ?_⟩
  rw [h2]
  by_cases e : j = xs.length
  · subst e
    rw [upd_same]
    simpa using hy
  · have hj : j < xs.length := by
      have := (List.getElem?_eq_some_iff.mp hy).1
      simp at this
      omega
    rw [upd_ne _ _ e]
    rw [List.getElem?_append_left hj] at hy
    exact h.2 j y hy
theorem op_tell {D : DD} (h : St D) (x : Int32) : ∃ (r : Int32) (D1 D2 : DD), g_X8_tell 0 x D = some (r, D1) ∧ g_X9_tell 80 x D1 = some (r, D2) ∧ St D2 := by
  obtain ⟨f, us, sl, xs, tr, fm, hC, hM, hA⟩ := id h
  unfold g_X8_tell g_X9_tell
  simp only [Nat.zero_add]
  rcases item_or x with ⟨hx, e1, e2⟩ | ⟨e1, e2⟩
  · rw [e1, pcb_some, if_neg one_ne0, e2]
    simp only [pcb_some, if_neg one_ne0]
    unfold g_X1_isFull
    rw [hC.row.1]
    have hl := hA.2.2.2.2.1
    by_cases e : xs.length = 100
    · rw [e, if_neg (show ¬ nI 100 < (100 : Int32) by decide), pcb_some, if_neg one_ne0]
      refine ⟨_, _, _, rfl, ?_, h⟩
      rw [hM.row.1, e, if_pos (show nI 100 = (100 : Int32) from rfl)]
    · rw [if_pos (show nI xs.length < (100 : Int32) from nI_lt (b := 100) (by omega) (by decide)), pcb_some, if_pos rfl]
      obtain ⟨D1, q1, q2, q3⟩ := n_add hC.row (by omega) x
      rw [q1, vcb_some]
      show ∃ (r : Int32) (D1' D2 : DD), pcb (some (D1 43 1)) _ = _ ∧ _
      rw [pcb_some, q2.1]
      have hM1 : MI D1 80 f us sl xs tr fm := hM.congr (fun c a b => q3 c (by omega) (by omega))
      refine ⟨nI (xs ++ [x]).length, D1, u2 (u2 D1 101 xs.length x) 80 25 (nI (xs.length + 1)), rfl, ?_, f, us, sl, xs ++ [x], tr, fm, ?_, ?_, hA.row (fun y hy => ?_) (by simp; omega)⟩
      · rw [hM1.row.1, if_neg (show ¬ nI xs.length = (100 : Int32) from fun q => e ((nI_eq (b := 100) (by omega) (by decide)).mp q)), zck_nI (by omega) (by decide), ix_nI (by omega), dlt_eq, u2_ne _ _ (by omega), hM1.row.1, nI_1, dlt_eq, u2_same, upd_same]
        simp
      · refine CI.congr (D := D1) (fun c hc => by rw [u2_ne _ _ (by omega), u2_ne _ _ (by omega)]) (hC.keep2 (fun c hc => q3 c (by omega) (by omega)) q2 (hC.tru.congr (q3 _ (by omega) (by omega)) (q3 _ (by omega) (by omega))) ?_)
        obtain ⟨L, a, b⟩ := hC.wr
        exact ⟨L, a, by rw [q3 _ (by omega) (by omega)]; exact b⟩
      · refine hM1.keep2 (fun c hc => by rw [u2_ne _ _ (by omega), u2_ne _ _ (by omega)]) (fun j hj => by rw [u2_same, upd_ne _ _ (by omega), u2_ne _ _ (by omega)]) (Row_add hM1.row _ (by rw [u2_same, upd_same]) (by rw [u2_ne _ _ (by omega), u2_same])) (hM1.tru.congr (by rw [u2_same, upd_ne _ _ (by omega), u2_ne _ _ (by omega)]) (by rw [u2_same, upd_ne _ _ (by omega), u2_ne _ _ (by omega)]) (by rw [u2_ne _ _ (by omega), u2_ne _ _ (by omega)]))
      · rcases List.mem_append.mp hy with q | q
        · exact hA.2.2.2.1 y q
        · rw [List.mem_singleton.mp q]; exact hx
  · rw [e1, pcb_some, if_pos rfl]
    exact ⟨_, _, _, rfl, by rw [e2, pcb_some, if_pos rfl], h⟩
/-- a place in a row that is not longer than a hundred -/
theorem place_or {L : Nat} (hL : L ≤ 1000) (x : Int32) : (∃ j, j < L ∧ x = nI j) ∨ (x < 0 ∨ nI L ≤ x) := by
  by_cases h1 : x < 0
  · exact Or.inr (Or.inl h1)
  · by_cases h2 : nI L ≤ x
    · exact Or.inr (Or.inr h2)
    · obtain ⟨j, hj, rfl⟩ := nI_of h1
      refine Or.inl ⟨j, ?_, rfl⟩
      rcases Nat.lt_or_ge j L with q | q
      · exact q
      · exact absurd (nI_le q hj) h2
theorem n_inL {L j : Nat} (hL : L ≤ 1000) (hj : j < L) : g_X9_in ((nI j).toInt64) (0 : Int64) ((nI L - (1 : Int32)).toInt64) = some 1 := by
  obtain ⟨q, rfl⟩ : ∃ q, L = q + 1 := ⟨L - 1, by omega⟩
  rw [nI_pred, show (0 : Int64) = (0 : Int32).toInt64 from rfl, n_in32, if_pos ⟨nI_pos' (by omega), nI_le (by omega) (by omega)⟩]
theorem n_inL_f {L : Nat} {x : Int32} (hL : L ≤ 1000) (h : x < 0 ∨ nI L ≤ x) : g_X9_in (x.toInt64) (0 : Int64) ((nI L - (1 : Int32)).toInt64) = some 0 := by
  rw [show (0 : Int64) = (0 : Int32).toInt64 from rfl, n_in32, if_neg]
  rintro ⟨a, b⟩
  rcases h with q | q
  · exact absurd a (Int32.not_le.mpr q)
  · rcases L with _ | L
    · have := Int32.le_trans a b
      exact absurd this (by decide)
    · rw [nI_pred] at b
      have := Int32.le_trans q b
      exact absurd this (nI_ge (by omega) (by omega))
theorem n_hasPlace {D : DD} {w : Nat} {xs : List Int32} {j : Nat} (h : Itm D w xs) (hl : xs.length ≤ 100) (hj : j < xs.length) : g_X1_hasPlace w (nI j) D = some 1 := by
  unfold g_X1_hasPlace
  rw [if_neg (nI_pos (by omega)), h.1, if_neg (nI_ge hj (by omega))]
theorem n_hasPlace_f {D : DD} {w : Nat} {xs : List Int32} {x : Int32} (h : Itm D w xs) (hx : x < 0 ∨ nI xs.length ≤ x) : g_X1_hasPlace w x D = some 0 := by
  unfold g_X1_hasPlace
  by_cases h1 : x < 0
  · rw [if_pos h1]
  · rw [if_neg h1, h.1, if_pos (hx.elim (fun q => absurd q h1) id)]
theorem Itm.set {D D' : DD} {w j : Nat} {xs : List Int32} {x : Int32} (h : Itm D w xs) (hj : j < xs.length) (h1 : D' w 1 = D w 1) (h2 : D' (w + 1) = upd (D (w + 1)) j x) : Itm D' w (xs.set j x) := by
  refine ⟨by rw [h1, List.length_set]; exact h.1, fun i y hy => ?_⟩
  rw [h2]
  by_cases e : i = j
  · subst e
    rw [upd_same]
    rw [List.getElem?_set_self hj] at hy
    exact Option.some.inj hy
  · rw [upd_ne _ _ e]
    rw [List.getElem?_set_ne (fun q => e q.symm)] at hy
    exact h.2 i y hy
theorem Row.set {D D' : DD} {m j : Nat} {xs : List Int32} {x : Int32} (h : Row D m xs) (hj : j < xs.length) (h1 : D' m 25 = D m 25) (h2 : D' (m + 21) = upd (D (m + 21)) j x) : Row D' m (xs.set j x) := by
  refine ⟨by rw [h1, List.length_set]; exact h.1, fun i y hy => ?_⟩
  rw [h2]
  by_cases e : i = j
  · subst e
    rw [upd_same]
    rw [List.getElem?_set_self hj] at hy
    exact Option.some.inj hy
  · rw [upd_ne _ _ e]
    rw [List.getElem?_set_ne (fun q => e q.symm)] at hy
    exact h.2 i y hy
theorem op_alter {D : DD} (h : St D) (pc x : Int32) : ∃ (r : Int32) (D1 D2 : DD), g_X8_alter 0 pc x D = some (r, D1) ∧ g_X9_alter 80 pc x D1 = some (r, D2) ∧ St D2 := by
  obtain ⟨f, us, sl, xs, tr, fm, hC, hM, hA⟩ := id h
  unfold g_X8_alter g_X9_alter
  simp only [Nat.zero_add]
  have hl := hA.2.2.2.2.1
  rcases place_or (L := xs.length) (by omega) pc with ⟨j, hj, rfl⟩ | hp
  · rw [n_hasPlace hC.row hl hj, pcb_some, if_neg one_ne0]
    rcases item_or x with ⟨hx, e1, e2⟩ | ⟨e1, e2⟩
    · rw [e1, pcb_some, if_neg one_ne0, e2, n_itemAt hC.row hl (List.getElem?_eq_getElem hj), pcb_some]
      unfold g_X1_replace
      rw [n_hasPlace hC.row hl hj, pcb_some, if_neg one_ne0, zck_nI (by omega) (by decide), dlt_eq, vcb_some, ix_nI (by omega)]
      have hM1 : MI (u2 D 44 j x) 80 f us sl xs tr fm := hM.congr (fun c a b => by rw [u2_ne _ _ (by omega)])
      refine ⟨xs[j], u2 D 44 j x, u2 (u2 D 44 j x) 101 j x, rfl, ?_, f, us, sl, xs.set j x, tr, fm, ?_, ?_, hA.row (fun y hy => ?_) (by rw [List.length_set]; exact hl)⟩
      · rw [hM1.row.1, n_inL (by omega) hj, pcb_some, if_neg one_ne0, pcb_some, if_neg one_ne0, zck_nI (by omega) (by decide), zck_nI (by omega) (by decide), dlt_eq, hM1.row.2 j xs[j] (List.getElem?_eq_getElem hj)]
      · obtain ⟨L, a, b⟩ := hC.wr
        exact CI.congr (D := u2 D 44 j x) (fun c hc => by rw [u2_ne _ _ (by omega)]) (hC.keep2 (fun c hc => by rw [u2_ne _ _ (by omega)]) (hC.row.set hj (by rw [u2_ne _ _ (by omega)]) (by rw [u2_same])) (hC.tru.congr (by rw [u2_ne _ _ (by omega)]) (by rw [u2_ne _ _ (by omega)])) ⟨L, a, by rw [u2_ne _ _ (by omega)]; exact b⟩)
      · exact hM1.keep2 (fun c hc => by rw [u2_ne _ _ (by omega)]) (fun i hi => by rw [u2_ne _ _ (by omega)]) (hM1.row.set hj (by rw [u2_ne _ _ (by omega)]) (by rw [u2_same])) (hM1.tru.congr (by rw [u2_ne _ _ (by omega)]) (by rw [u2_ne _ _ (by omega)]) (by rw [u2_ne _ _ (by omega)]))
      · rcases List.mem_or_eq_of_mem_set hy with q | q
        · exact hA.2.2.2.1 y q
        · rw [q]; exact hx
    · rw [e1, pcb_some, if_pos rfl]
      refine ⟨_, _, _, rfl, ?_, h⟩
      rw [hM.row.1, n_inL (by omega) hj, pcb_some, if_neg one_ne0, e2, pcb_some, if_pos rfl]
  · rw [n_hasPlace_f hC.row hp, pcb_some, if_pos rfl]
    refine ⟨_, _, _, rfl, ?_, h⟩
    rw [hM.row.1, n_inL_f (by omega) hp, pcb_some, if_pos rfl]
theorem op_cut {D : DD} (h : St D) (x : Int32) : ∃ (r : Int32) (D1 D2 : DD), g_X8_cut 0 x D = some (r, D1) ∧ g_X9_cut 80 x D1 = some (r, D2) ∧ St D2 := by
  obtain ⟨f, us, sl, xs, tr, fm, hC, hM, hA⟩ := id h
  have hl := hA.2.2.2.2.1
  unfold g_X8_cut g_X9_cut
  simp only [Nat.zero_add]
  show ∃ (r : Int32) (D1 D2 : DD), pcb (some (D 43 1)) _ = _ ∧ _
  rw [pcb_some, hC.row.1]
  rcases place_or (L := xs.length + 1) (by omega) x with ⟨j, hj, rfl⟩ | hp
  · rw [if_neg (nI_pos (by omega)), if_pos (nI_le (by omega) (by omega))]
    have hlt : (xs.take j).length = j := by rw [List.length_take]; omega
    have key : ∃ D1 : DD, g_X1_shorten 43 (nI j) D = some D1 ∧ D1 43 1 = nI j ∧ D1 44 = D 44 ∧ ∀ c, c ≠ 43 → D1 c = D c := by
      unfold g_X1_shorten
      rw [if_neg (nI_pos (by omega)), hC.row.1]
      by_cases e : j < xs.length
      · rw [if_neg (nI_ge e (by omega)), dlt_eq]
        exact ⟨_, rfl, by rw [u2_same, upd_same], by rw [u2_ne _ _ (by omega)], fun c hc => by rw [u2_ne _ _ hc]⟩
      · have : j = xs.length := by omega
        subst this
        rw [if_pos (nI_le (by omega) (by omega))]
        exact ⟨_, rfl, hC.row.1, rfl, fun c _ => rfl⟩
    obtain ⟨D1, q1, q2, q3, q4⟩ := key
    rw [q1, vcb_some]
    have hM1 : MI D1 80 f us sl xs tr fm := hM.congr (fun c a b => q4 c (by omega))
    have hpre : ∀ (i : Nat) (y : Int32), (xs.take j)[i]? = some y → xs[i]? = some y := fun i y hy => by
      rw [List.getElem?_take] at hy
      split at hy
      · exact hy
      · cases hy
    refine ⟨nI xs.length, D1, u2 D1 80 25 (nI j), rfl, ?_, f, us, sl, xs.take j, tr, fm, ?_, ?_, hA.row (fun y hy => hA.2.2.2.1 y (List.mem_of_mem_take hy)) (by omega)⟩
    · rw [hM1.row.1, show (0 : Int64) = (0 : Int32).toInt64 from rfl, n_in32, if_pos ⟨nI_pos' (by omega), nI_le (by omega) (by omega)⟩, pcb_some, if_neg one_ne0, dlt_eq]
    · obtain ⟨L, a, b⟩ := hC.wr
      exact CI.congr (D := D1) (fun c hc => by rw [u2_ne _ _ (by omega)]) (hC.keep2 (fun c hc => q4 c (by omega)) ⟨by rw [q2, hlt], fun i y hy => by rw [q3]; exact hC.row.2 i y (hpre i y hy)⟩ (hC.tru.congr (q4 _ (by omega)) (q4 _ (by omega))) ⟨L, a, by rw [q4 _ (by omega)]; exact b⟩)
    · exact hM1.keep2 (fun c hc => by rw [u2_ne _ _ (by omega)]) (fun i hi => by rw [u2_same, upd_ne _ _ (by omega)]) ⟨by rw [u2_same, upd_same, hlt], fun i y hy => by rw [u2_ne _ _ (by omega)]; exact hM1.row.2 i y (hpre i y hy)⟩ (hM1.tru.congr (by rw [u2_same, upd_ne _ _ (by omega)]) (by rw [u2_same, upd_ne _ _ (by omega)]) (by rw [u2_ne _ _ (by omega)]))
  · have e8 : (if x < 0 then (some ((-2 : Int32), D)) else (if x ≤ nI xs.length then (vcb (g_X1_shorten (42 + 1) x D) (fun D4 => some (nI xs.length, D4))) else (some ((-2 : Int32), D)))) = some (-2, D) := by
      by_cases h1 : x < 0
      · rw [if_pos h1]
      · rw [if_neg h1, if_neg]
        intro q
        exact absurd (Int32.le_trans (hp.elim (fun q => absurd q h1) id) q) (nI_ge (by omega) (by omega))
    rw [e8]
    refine ⟨_, _, _, rfl, ?_, h⟩
    rw [hM.row.1, show nI xs.length = nI (xs.length + 1) - 1 from (nI_pred _).symm, n_inL_f (by omega) hp, pcb_some, if_pos rfl]
