theorem n_undoLoop {m nx : Nat} (hnx : nx < 14) : ∀ (d k n : Nat) (D : DD), k + d = 100 → d < n → D m 4 = nI nx → ∃ F : Nat → Int32, g_X9_undo_38 n m (nI k) D = some (D m 3, uA D (m + 1) F) ∧ (∀ j, k ≤ j → j < 100 → F j = D (m + 3) (100 * nx + j)) ∧ ∀ i, i < k → F i = D (m + 1) i := by
  intro d
  induction d with
  | zero =>
    intro k n D h1 h2 h4
    obtain ⟨n, rfl⟩ : ∃ q, n = q + 1 := ⟨n - 1, by omega⟩
    have hk : k = 100 := by omega
    subst hk
    refine ⟨D (m + 1), ?_, fun j a b => by omega, fun i _ => rfl⟩
    rw [g_X9_undo_38, if_pos nI_100', uA_self]
  | succ d ih =>
    intro k n D h1 h2 h4
    obtain ⟨n, rfl⟩ : ∃ q, n = q + 1 := ⟨n - 1, by omega⟩
    have hk : k < 100 := by omega
    rw [g_X9_undo_38, if_neg (nI_100 hk), h4, c100, zck_nI (by omega) (by decide), zck_nI hk (by decide), dlt_eq, ix_nI (by omega), ix_nI (by omega), nI_1]
    obtain ⟨F, e1, e2, e3⟩ := ih (k + 1) n (u2 D (m + 1) k (D (m + 3) (100 * nx + k))) (by omega) (by omega) (by rw [u2_ne _ _ (by omega)]; exact h4)
    refine ⟨F, by rw [e1, uA_u2, u2_ne _ _ (by omega)], fun j a b => ?_, fun i hi => ?_⟩
    · by_cases hj : j = k
      · subst hj
        rw [e3 _ (by omega), u2_same, upd_same]
      · rw [e2 j (by omega) b, u2_ne _ _ (by omega)]
    · rw [e3 i (by omega), u2_same, upd_ne _ _ (by omega)]
theorem n_undo9 {m nx : Nat} {us : List Mp} {g : Mp} {D : DD} (hu : MU D m nx (us ++ [g])) : ∃ D' : DD, g_X9_undo m D = some (nI us.length, D') ∧ (∀ k, k < 100 → D' (m + 1) k = g k) ∧ (∃ nx', MU D' m nx' us) ∧ (∀ c, c ≠ m → c ≠ m + 1 → D' c = D c) ∧ ∀ j, j ≠ 3 → j ≠ 4 → D' m j = D m j := by
  obtain ⟨h1, h2, h3, h4, h5⟩ := hu
  simp only [List.length_append, List.length_cons, List.length_nil, Nat.zero_add] at h3 h4
  unfold g_X9_undo
  rw [h3, if_neg (nI_ne0 (by omega) (by omega)), show nI (us.length + 1) - (1 : Int32) = nI us.length from nI_pred _, dlt_eq, u2_same, upd_ne _ _ (by omega), h1, show (14 : Int32) = nI 14 from rfl, nI_add, show nI (nx + 14) - (1 : Int32) = nI (nx + 13) from nI_pred (nx + 13), nI_rem (by omega) (by decide) (by decide), dlt_eq]
  generalize hE : u2 (u2 D m 3 (nI us.length)) m 4 (nI ((nx + 13) % 14)) = E
  have em3 : E m 3 = nI us.length := by rw [← hE, u2_same, upd_ne _ _ (by omega), u2_same, upd_same]
  have em4 : E m 4 = nI ((nx + 13) % 14) := by rw [← hE, u2_same, upd_same]
  have eo : ∀ c, c ≠ m → E c = D c := fun c hc => by rw [← hE, u2_ne _ _ hc, u2_ne _ _ hc]
  have em : ∀ j, j ≠ 3 → j ≠ 4 → E m j = D m j := fun j j1 j2 => by rw [← hE, u2_same, upd_ne _ _ j2, u2_same, upd_ne _ _ j1]
  obtain ⟨F, e1, e2, e3⟩ := n_undoLoop (nx := (nx + 13) % 14) (by omega) 100 0 1000 E (by omega) (by omega) em4
  rw [show (0 : Int32) = nI 0 from nI_0.symm, e1, em3]
  refine ⟨_, rfl, fun k hk => ?_, ⟨(nx + 13) % 14, by rw [uA_ne _ _ (by omega)]; exact em4, by omega, by rw [uA_ne _ _ (by omega)]; exact em3, by omega, fun j q hj k hk => ?_⟩, fun c c1 c2 => by rw [uA_ne _ _ c2]; exact eo c c1, fun j j1 j2 => by rw [uA_ne _ _ (by omega)]; exact em j j1 j2⟩
  · rw [uA_same, e2 k (by omega) hk, eo _ (by omega)]
    have := h5 us.length g (by simp) k hk
    simp only [List.length_append, List.length_cons, List.length_nil, Nat.zero_add] at this
    rw [← this]
    congr 3
    omega
  · rw [uA_ne _ _ (by omega), eo _ (by omega)]
    have hjl : j < us.length := (List.getElem?_eq_some_iff.mp hj).1
    have := h5 j q (by rw [List.getElem?_append_left hjl]; exact hj) k hk
    simp only [List.length_append, List.length_cons, List.length_nil, Nat.zero_add] at this
    rw [← this]
    congr 3
    omega
theorem op_undo {D : DD} (h : St D) : ∃ (r : Int32) (D1 D2 : DD), g_X8_undo 0 D = some (r, D1) ∧ g_X9_undo 80 D1 = some (r, D2) ∧ St D2 := by
  obtain ⟨f, us, sl, xs, tr, fm, hC, hM, hA⟩ := id h
  obtain ⟨fi, hU⟩ := hC.2.2.1
  unfold g_X8_undo
  simp only [Nat.zero_add]
  show ∃ (r : Int32) (D1 D2 : DD), pcb (some (D 12 2)) _ = _ ∧ _
  rw [pcb_some, hU.2.2.1]
  rcases List.eq_nil_or_concat us with e | ⟨us0, g, e⟩
  · subst e
    rw [if_pos (show nI ([] : List Mp).length = 0 from nI_0)]
    refine ⟨_, _, _, rfl, ?_, h⟩
    obtain ⟨nx, hMU⟩ := hM.2.1
    unfold g_X9_undo
    rw [hMU.2.2.1, if_pos (show nI ([] : List Mp).length = 0 from nI_0)]
  · rw [List.concat_eq_append] at e
    subst e
    rw [if_neg (nI_ne0 (by simp) (by have := hU.2.2.2.1; omega))]
    obtain ⟨D1, e1, e2, e3, e4⟩ := n_takeBack hU
    obtain ⟨D2, g1, g2, g3⟩ := hC.grown (D1 := D1) (f' := g) (us' := us0) e2 ⟨fi, e3⟩ (fun c c1 c2 c3 => e4 c c1 c2 (by omega))
    rw [e1, vcb_some, g1, vcb_some]
    show ∃ (r : Int32) (D1 D2' : DD), pcb (some (D2 12 2)) _ = _ ∧ _
    rw [pcb_some, g3 12 (by omega) (by omega) (by omega) (by omega) (by omega), e3.2.2.1]
    have hM2 : MI D2 80 f (us0 ++ [g]) sl xs tr fm := hM.congr (fun c a b => by rw [g3 c (by omega) (by omega) (by omega) (by omega) (by omega), e4 c (by omega) (by omega) (by omega)])
    obtain ⟨nx, hMU⟩ := hM2.2.1
    obtain ⟨D3, k1, k2, k3, k4, k5⟩ := n_undo9 hMU
    refine ⟨nI us0.length, D2, D3, rfl, k1, g, us0, sl, xs, tr, fm, g2.congr (fun c hc => k4 c (by omega) (by omega)), hM2.changed k2 k3 (fun c c1 c2 c3 => k4 c c1 c2) k5, hA.map (hA.2.1 g (by simp)) (fun q hq => hA.2.1 q (List.mem_append_left _ hq)) (by have := hA.2.2.2.2.2.2; simp at this; omega)⟩
theorem op_get {D : DD} (h : St D) (key : Int32) : ∃ r : Int32, g_X8_get 0 key D = some r ∧ g_X9_get 80 key D = some r := by
  obtain ⟨f, us, sl, xs, tr, fm, hC, hM, hA⟩ := id h
  unfold g_X8_get g_X9_get
  simp only [Nat.zero_add]
  rcases num_or key with ⟨k, hk, rfl⟩ | hk
  · rw [n_isNumber hk, pcb_some, if_neg one_ne0, n_isNumber9t hk, pcb_some, if_neg one_ne0, n_valueOf hk, pcb_some, zck_nI hk (by decide), ix_nI (by omega), hC.1.1 k hk, hM.1 k hk]
    exact ⟨_, rfl, rfl⟩
  · rw [n_isNumber_f hk, pcb_some, if_pos rfl, n_isNumber9f hk, pcb_some, if_pos rfl]
    exact ⟨_, rfl, rfl⟩
theorem slot_or (x : Int32) : (∃ j, j < 2 ∧ x = nI j) ∨ (x < 0 ∨ (2 : Int32) ≤ x) := by
  by_cases h1 : x < 0
  · exact Or.inr (Or.inl h1)
  · by_cases h2 : (2 : Int32) ≤ x
    · exact Or.inr (Or.inr h2)
    · obtain ⟨j, hj, rfl⟩ := nI_of h1
      refine Or.inl ⟨j, ?_, rfl⟩
      rcases Nat.lt_or_ge j 2 with q | q
      · exact q
      · exact absurd (show nI 2 ≤ nI j from nI_le q hj) h2
theorem n_isSlot {j : Nat} (h : j < 2) : g_X8_isSlot (nI j) = some 1 := by
  unfold g_X8_isSlot
  rw [if_neg (nI_pos (by omega)), if_neg (show ¬ (2 : Int32) ≤ nI j from nI_ge (b := 2) h (by decide))]
theorem n_isSlot_f {x : Int32} (h : x < 0 ∨ (2 : Int32) ≤ x) : g_X8_isSlot x = some 0 := by
  unfold g_X8_isSlot
  by_cases h1 : x < 0
  · rw [if_pos h1]
  · rw [if_neg h1, if_pos (h.elim (fun q => absurd q h1) id)]
theorem n_in01 {j : Nat} (h : j < 2) : g_X9_in ((nI j).toInt64) (0 : Int64) (1 : Int64) = some 1 := by
  rw [show (0 : Int64) = (0 : Int32).toInt64 from rfl, show (1 : Int64) = (1 : Int32).toInt64 from rfl, n_in32, if_pos ⟨nI_pos' (by omega), show nI j ≤ nI 1 from nI_le (by omega) (by decide)⟩]
theorem n_in01_f {x : Int32} (h : x < 0 ∨ (2 : Int32) ≤ x) : g_X9_in (x.toInt64) (0 : Int64) (1 : Int64) = some 0 := by
  rw [show (0 : Int64) = (0 : Int32).toInt64 from rfl, show (1 : Int64) = (1 : Int32).toInt64 from rfl, n_in32, if_neg]
  rintro ⟨a, b⟩
  rcases h with q | q
  · exact absurd a (Int32.not_le.mpr q)
  · have h1 := Int32.le_iff_toInt_le.mp q
    have h2 := Int32.le_iff_toInt_le.mp b
    have e1 : (2 : Int32).toInt = 2 := by decide
    have e2 : (1 : Int32).toInt = 1 := by decide
    omega
theorem n_keepLoop {m s : Nat} {f : Mp} (hs : s < 2) : ∀ (d k n : Nat) (D : DD), k + d = 100 → d < n → (∀ k, k < 100 → D (m + 1) k = f k) → ∃ F : Nat → Int32, g_X9_keep_21 n m (nI s) (nI k) D = some (nI (cn f 0 100), uA D (m + 4) F) ∧ (∀ j, k ≤ j → j < 100 → F (100 * s + j) = f j) ∧ ∀ i, (i < 100 * s + k ∨ 100 * s + 100 ≤ i) → F i = D (m + 4) i := by
  intro d
  induction d with
  | zero =>
    intro k n D h1 h2 hf
    obtain ⟨n, rfl⟩ : ∃ q, n = q + 1 := ⟨n - 1, by omega⟩
    have hk : k = 100 := by omega
    subst hk
    refine ⟨D (m + 4), ?_, fun j a b => by omega, fun i _ => rfl⟩
    rw [g_X9_keep_21, if_pos nI_100', n_many hf, pcb_some, uA_self]
  | succ d ih =>
    intro k n D h1 h2 hf
    obtain ⟨n, rfl⟩ : ∃ q, n = q + 1 := ⟨n - 1, by omega⟩
    have hk : k < 100 := by omega
    rw [g_X9_keep_21, if_neg (nI_100 hk), zck_nI hk (by decide), c100, zck_nI (by omega) (by decide), dlt_eq, ix_nI (by omega), ix_nI (by omega), nI_1]
    obtain ⟨F, e1, e2, e3⟩ := ih (k + 1) n (u2 D (m + 4) (100 * s + k) (D (m + 1) k)) (by omega) (by omega) (fun j hj => by rw [u2_ne _ _ (by omega)]; exact hf j hj)
    refine ⟨F, by rw [e1, uA_u2], fun j a b => ?_, fun i hi => ?_⟩
    · by_cases hj : j = k
      · subst hj
        rw [e3 _ (by omega), u2_same, upd_same]; exact hf j hk
      · exact e2 j (by omega) b
    · rw [e3 i (by omega), u2_same, upd_ne _ _ (by omega)]
theorem n_againLoop {m s : Nat} {g : Mp} (hs : s < 2) : ∀ (d k n : Nat) (D : DD), k + d = 100 → d < n → (∀ k, k < 100 → D (m + 4) (100 * s + k) = g k) → (∀ j, j < k → D (m + 1) j = g j) → ∃ F : Nat → Int32, g_X9_again_26 n m (nI s) (nI k) D = some (nI (cn g 0 100), u2 (uA D (m + 1) F) m 3 0) ∧ ∀ j, j < 100 → F j = g j := by
  intro d
  induction d with
  | zero =>
    intro k n D h1 h2 hg hd
    obtain ⟨n, rfl⟩ : ∃ q, n = q + 1 := ⟨n - 1, by omega⟩
    have hk : k = 100 := by omega
    subst hk
    refine ⟨D (m + 1), ?_, hd⟩
    rw [g_X9_again_26, if_pos nI_100', dlt_eq, n_many (f := g) (fun j hj => by rw [u2_ne _ _ (by omega)]; exact hd j hj), pcb_some, uA_self]
  | succ d ih =>
    intro k n D h1 h2 hg hd
    obtain ⟨n, rfl⟩ : ∃ q, n = q + 1 := ⟨n - 1, by omega⟩
    have hk : k < 100 := by omega
    rw [g_X9_again_26, if_neg (nI_100 hk), c100, zck_nI (by omega) (by decide), zck_nI hk (by decide), dlt_eq, ix_nI (by omega), ix_nI (by omega), nI_1, hg k hk]
    obtain ⟨F, e1, e2⟩ := ih (k + 1) n (u2 D (m + 1) k (g k)) (by omega) (by omega) (fun j hj => by rw [u2_ne _ _ (by omega)]; exact hg j hj) (fun j hj => by
      rw [u2_same]
      by_cases e : j = k
      · rw [e, upd_same]
      · rw [upd_ne _ _ e]; exact hd j (by omega))
    exact ⟨F, by rw [e1, uA_u2], e2⟩
theorem op_keep {D : DD} (h : St D) (slot : Int32) : ∃ (r : Int32) (D1 D2 : DD), g_X8_keep 0 slot D = some (r, D1) ∧ g_X9_keep 80 slot D1 = some (r, D2) ∧ St D2 := by
  obtain ⟨f, us, sl, xs, tr, fm, hC, hM, hA⟩ := id h
  unfold g_X8_keep g_X9_keep
  rcases slot_or slot with ⟨s, hs, rfl⟩ | hs
  · rw [n_isSlot hs, pcb_some, if_neg one_ne0, zck_nI hs (by decide), ix_nI (by omega)]
    simp only [Nat.zero_add]
    unfold g_X6_fill
    obtain ⟨D1, e1, e2, e3⟩ := n_become (p := 74 + 3 * s + 1) (q := 1) (Or.inr (by omega)) hC.1
    rw [e1, vcb_some, dlt_eq, vcb_some]
    generalize hE : u2 D1 (74 + 3 * s) 1 1 = E
    have eo : ∀ c, c ≠ 74 + 3 * s → c ≠ 74 + 3 * s + 1 → c ≠ 74 + 3 * s + 2 → E c = D c := fun c c1 c2 c3 => by rw [← hE, u2_ne _ _ c1, e3 c c2 (by omega)]
    show ∃ (r : Int32) (D1 D2 : DD), pcb (some (E 1 1)) _ = _ ∧ _
    rw [pcb_some, eo 1 (by omega) (by omega) (by omega), hC.1.2]
    have hCE : CI E f us (fun j => if j = s then some f else sl j) xs tr fm := by
      obtain ⟨h1, h2, ⟨fi, h3⟩, h4, h5, h6, h7, L, h8, h9⟩ := hC
      refine ⟨h1.congr (eo _ (by omega) (by omega) (by omega)) (eo _ (by omega) (by omega) (by omega)), h2.congr (fun c a b => eo c (by omega) (by omega) (by omega)), ⟨fi, h3.congr (fun c a b => eo c (by omega) (by omega) (by omega))⟩, fun j hj => ?_, h5.congr (eo _ (by omega) (by omega) (by omega)) (eo _ (by omega) (by omega) (by omega)), h6.congr (eo _ (by omega) (by omega) (by omega)) (eo _ (by omega) (by omega) (by omega)), fun g hg => by rw [eo _ (by omega) (by omega) (by omega)]; exact h7 g hg, L, h8, by rw [eo _ (by omega) (by omega) (by omega)]; exact h9⟩
      by_cases e : j = s
      · subst e
        exact Or.inr ⟨f, if_pos rfl, by rw [← hE, u2_same, upd_same], e2.congr (by rw [← hE, u2_ne _ _ (by omega)]) (by rw [← hE, u2_ne _ _ (by omega)])⟩
      · have ej : (fun j => if j = s then some f else sl j) j = sl j := if_neg e
        rw [ej]
        rcases h4 j hj with ⟨a, b⟩ | ⟨g, a, b, c⟩
        · exact Or.inl ⟨a, by rw [eo _ (by omega) (by omega) (by omega)]; exact b⟩
        · exact Or.inr ⟨g, a, by rw [eo _ (by omega) (by omega) (by omega)]; exact b, c.congr (eo _ (by omega) (by omega) (by omega)) (eo _ (by omega) (by omega) (by omega))⟩
    have hME : MI E 80 f us sl xs tr fm := hM.congr (fun c a b => eo c (by omega) (by omega) (by omega))
    refine ⟨nI (cn f 0 100), E, ?_⟩
    obtain ⟨F, k1, k2, k3⟩ := n_keepLoop (m := 80) (f := f) hs 100 0 1000 (u2 E 85 s 1) (by omega) (by omega) (fun k hk => by rw [u2_ne _ _ (by omega)]; exact hME.1 k hk)
    refine ⟨uA (u2 E 85 s 1) 84 F, rfl, ?_, f, us, fun j => if j = s then some f else sl j, xs, tr, fm, hCE.congr (fun c hc => by rw [uA_ne _ _ (by omega), u2_ne _ _ (by omega)]), ?_, ?_⟩
    · rw [n_in01 hs, pcb_some, if_neg one_ne0, zck_nI hs (by decide), dlt_eq, show (0 : Int32) = nI 0 from nI_0.symm]
      exact k1
    · have uo : ∀ c, c ≠ 84 → c ≠ 85 → uA (u2 E 85 s 1) 84 F c = E c := fun c c1 c2 => by rw [uA_ne _ _ c1, u2_ne _ _ c2]
      obtain ⟨m1, ⟨nx, a1, a2, a3, a4, a5⟩, m3, m4, m5⟩ := hME
      refine ⟨fun k hk => by rw [uo _ (by omega) (by omega)]; exact m1 k hk, ⟨nx, by rw [uo _ (by omega) (by omega)]; exact a1, a2, by rw [uo _ (by omega) (by omega)]; exact a3, a4, fun j g hj k hk => by rw [uo _ (by omega) (by omega)]; exact a5 j g hj k hk⟩, fun j hj => ?_, ⟨by rw [uo _ (by omega) (by omega)]; exact m4.1, fun j x hx => by rw [uo _ (by omega) (by omega)]; exact m4.2 j x hx⟩, by rw [uo _ (by omega) (by omega)]; exact m5.1, by rw [uo _ (by omega) (by omega)]; exact m5.2.1, fun j x hx => by rw [uo _ (by omega) (by omega)]; exact m5.2.2 j x hx⟩
      by_cases e : j = s
      · subst e
        exact Or.inr ⟨f, if_pos rfl, by rw [uA_ne _ _ (by omega), u2_same, upd_same], fun k hk => by rw [uA_same]; exact k2 k (by omega) hk⟩
      · have ej : (fun j => if j = s then some f else sl j) j = sl j := if_neg e
        rw [ej]
        rcases m3 j hj with ⟨a, b⟩ | ⟨g, a, b, c⟩
        · exact Or.inl ⟨a, by rw [uA_ne _ _ (by omega), u2_same, upd_ne _ _ e]; exact b⟩
        · exact Or.inr ⟨g, a, by rw [uA_ne _ _ (by omega), u2_same, upd_ne _ _ e]; exact b, fun k hk => by rw [uA_same, k3 _ (by omega), u2_ne _ _ (by omega)]; exact c k hk⟩
    · refine ⟨hA.1, hA.2.1, fun j g hj => ?_, hA.2.2.2⟩
      by_cases e : j = s
      · have ej : (fun j => if j = s then some f else sl j) j = some f := if_pos e
        rw [ej] at hj; cases hj; exact hA.1
      · have ej : (fun j => if j = s then some f else sl j) j = sl j := if_neg e
        rw [ej] at hj; exact hA.2.2.1 j g hj
  · rw [n_isSlot_f hs, pcb_some, if_pos rfl]
    exact ⟨_, _, _, rfl, by rw [n_in01_f hs, pcb_some, if_pos rfl], h⟩
theorem op_again {D : DD} (h : St D) (slot : Int32) : ∃ (r : Int32) (D1 D2 : DD), g_X8_again 0 slot D = some (r, D1) ∧ g_X9_again 80 slot D1 = some (r, D2) ∧ St D2 := by
  obtain ⟨f, us, sl, xs, tr, fm, hC, hM, hA⟩ := id h
  unfold g_X8_again g_X9_again
  rcases slot_or slot with ⟨s, hs, rfl⟩ | hs
  · rw [n_isSlot hs, pcb_some, if_neg one_ne0, zck_nI hs (by decide), ix_nI (by omega)]
    simp only [Nat.zero_add, n_in01 hs, pcb_some, if_neg one_ne0, zck_nI hs (show 2 ≤ 100000 by decide), ix_nI (show s < 2 ^ 31 by omega)]
    unfold g_X6_isFilled
    rcases hC.2.2.2.1 s hs with ⟨a1, a2⟩ | ⟨g, a1, a2, a3⟩
    · rw [a2, zck_t (by decide), pcb_some, if_pos rfl]
      refine ⟨_, _, _, rfl, ?_, h⟩
      rcases hM.2.2.1 s hs with ⟨b1, b2⟩ | ⟨g, b1, b2, b3⟩
      · rw [show D (80 + 5) s = 0 from b2, if_pos rfl]
      · rw [a1] at b1; cases b1
    · rw [a2, zck_t (by decide), pcb_some, if_neg one_ne0]
      obtain ⟨D1, e1, e2, e3⟩ := n_become (p := 1) (q := 74 + 3 * s + 1) (Or.inl (by omega)) a3
      rw [e1, vcb_some]
      show ∃ (r : Int32) (D1' D2 : DD), vcb (some (u2 D1 12 2 0)) _ = _ ∧ _
      rw [vcb_some]
      obtain ⟨fi, hU⟩ := hC.2.2.1
      obtain ⟨D2, g1, g2, g3⟩ := hC.grown (D1 := u2 D1 12 2 0) (f' := g) (us' := []) (e2.congr (u2_ne _ _ (by omega)) (u2_ne _ _ (by omega))) ⟨fi, by rw [u2_same, upd_ne _ _ (by omega), e3 12 (by omega) (by omega)]; exact hU.1, hU.2.1, by rw [u2_same, upd_same]; exact nI_0.symm, by simp, fun j q hj => by simp at hj⟩ (fun c c1 c2 c3 => by rw [u2_ne _ _ (by omega), e3 c c1 (by omega)])
      rw [g1, vcb_some]
      show ∃ (r : Int32) (D1' D2' : DD), pcb (some (D2 1 1)) _ = _ ∧ _
      rw [pcb_some, g2.1.2]
      have hM2 : MI D2 80 f us sl xs tr fm := hM.congr (fun c a b => by rw [g3 c (by omega) (by omega) (by omega) (by omega) (by omega), u2_ne _ _ (by omega), e3 c (by omega) (by omega)])
      rcases hM2.2.2.1 s hs with ⟨b1, b2⟩ | ⟨g', b1, b2, b3⟩
      · rw [a1] at b1; cases b1
      · rw [a1] at b1; cases b1
        obtain ⟨F, k1, k2⟩ := n_againLoop (m := 80) hs 100 0 1000 D2 (by omega) (by omega) b3 (fun j hj => by omega)
        refine ⟨nI (cn g 0 100), D2, u2 (uA D2 81 F) 80 3 0, rfl, ?_, g, [], sl, xs, tr, fm, g2.congr (fun c hc => by rw [u2_ne _ _ (by omega), uA_ne _ _ (by omega)]), ?_, hA.map (hA.2.2.1 s g a1) (fun q hq => by cases hq) (by simp)⟩
        · rw [show D2 (80 + 5) s = 1 from b2, if_neg one_ne0, show (0 : Int32) = nI 0 from nI_0.symm]
          exact k1
        · obtain ⟨nx, m1, m2, m3, m4, m5⟩ := hM2.2.1
          refine hM2.changed (fun k hk => by rw [u2_ne _ _ (by omega), uA_same]; exact k2 k hk) ⟨nx, by rw [u2_same, upd_ne _ _ (by omega), uA_ne _ _ (by omega)]; exact m1, m2, by rw [u2_same, upd_same]; exact nI_0.symm, by simp, fun j q hj => by simp at hj⟩ (fun c c1 c2 c3 => by rw [u2_ne _ _ c1, uA_ne _ _ c2]) (fun j j1 j2 => by rw [u2_same, upd_ne _ _ j1, uA_ne _ _ (by omega)])
  · rw [n_isSlot_f hs, pcb_some, if_pos rfl]
    exact ⟨_, _, _, rfl, by rw [n_in01_f hs, pcb_some, if_pos rfl], h⟩
