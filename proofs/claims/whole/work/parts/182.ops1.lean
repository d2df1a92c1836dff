/-! ===== class and reference side by side ===== -/
theorem CI.congr {D D' : DD} {f : Mp} {us : List Mp} {sl : Nat → Option Mp} {xs : List Int32} {tr : Int32} {fm : List Int32} (h : ∀ c, c < 80 → D' c = D c) (hc : CI D f us sl xs tr fm) : CI D' f us sl xs tr fm := by
  obtain ⟨h1, h2, ⟨fi, h3⟩, h4, h5, h6, h7, L, h8, h9⟩ := hc
  exact ⟨h1.congr (h _ (by omega)) (h _ (by omega)), h2.congr (fun c a b => h c (by omega)), ⟨fi, h3.congr (fun c a b => h c (by omega))⟩, h4.congr (fun c a b => h c (by omega)), h5.congr (h _ (by omega)) (h _ (by omega)), h6.congr (h _ (by omega)) (h _ (by omega)), fun g hg => by rw [h _ (by omega)]; exact h7 g hg, L, h8, by rw [h _ (by omega)]; exact h9⟩
theorem MI.congr {D D' : DD} {f : Mp} {us : List Mp} {sl : Nat → Option Mp} {xs : List Int32} {tr : Int32} {fm : List Int32} (h : ∀ c, 80 ≤ c → c ≤ 116 → D' c = D c) (hm : MI D 80 f us sl xs tr fm) : MI D' 80 f us sl xs tr fm := by
  obtain ⟨h1, ⟨nx, a1, a2, a3, a4, a5⟩, h3, h4, h5⟩ := hm
  refine ⟨fun k hk => by rw [h _ (by omega) (by omega)]; exact h1 k hk, ⟨nx, by rw [h _ (by omega) (by omega)]; exact a1, a2, by rw [h _ (by omega) (by omega)]; exact a3, a4, fun j g hj k hk => by rw [h _ (by omega) (by omega)]; exact a5 j g hj k hk⟩, fun j hj => ?_, ⟨by rw [h _ (by omega) (by omega)]; exact h4.1, fun j x hx => by rw [h _ (by omega) (by omega)]; exact h4.2 j x hx⟩, by rw [h _ (by omega) (by omega)]; exact h5.1, by rw [h _ (by omega) (by omega)]; exact h5.2.1, fun j x hx => by rw [h _ (by omega) (by omega)]; exact h5.2.2 j x hx⟩
  rcases h3 j hj with ⟨q1, q2⟩ | ⟨g, q1, q2, q3⟩
  · exact Or.inl ⟨q1, by rw [h _ (by omega) (by omega)]; exact q2⟩
  · exact Or.inr ⟨g, q1, by rw [h _ (by omega) (by omega)]; exact q2, fun k hk => by rw [h _ (by omega) (by omega)]; exact q3 k hk⟩
def Inv (D : DD) (f : Mp) (us : List Mp) (sl : Nat → Option Mp) (xs : List Int32) (tr : Int32) (fm : List Int32) : Prop := CI D f us sl xs tr fm ∧ MI D 80 f us sl xs tr fm ∧ AOk f us sl xs fm
def St (D : DD) : Prop := ∃ f us sl xs tr fm, Inv D f us sl xs tr fm
theorem pushU_mem {us : List Mp} {f g : Mp} (h : g ∈ pushU us f) : g ∈ us ∨ g = f := by
  unfold pushU at h
  split at h
  · rcases List.mem_append.mp h with q | q
    · exact Or.inl (List.mem_of_mem_tail q)
    · exact Or.inr (List.mem_singleton.mp q)
  · rcases List.mem_append.mp h with q | q
    · exact Or.inl q
    · exact Or.inr (List.mem_singleton.mp q)
theorem AOk.map {f f' : Mp} {us us' : List Mp} {sl : Nat → Option Mp} {xs fm : List Int32} (h : AOk f us sl xs fm) (hf : OkM f') (hu : ∀ g ∈ us', OkM g) (hl : us'.length ≤ 14) : AOk f' us' sl xs fm := ⟨hf, hu, h.2.2.1, h.2.2.2.1, h.2.2.2.2.1, h.2.2.2.2.2.1, hl⟩
theorem AOk.push {f f' : Mp} {us : List Mp} {sl : Nat → Option Mp} {xs fm : List Int32} (h : AOk f us sl xs fm) (hf : OkM f') : AOk f' (pushU us f) sl xs fm := h.map hf (fun g hg => (pushU_mem hg).elim (h.2.1 g) (fun e => e ▸ h.1)) (by rw [pushU_len us f h.2.2.2.2.2.2]; split <;> have := h.2.2.2.2.2.2 <;> omega)
theorem OkM.put {f : Mp} {k : Nat} {v : Int32} (h : OkM f) (hk : k < 100) (hv : isNum v) (hr : ¬ (f k = -9 ∧ 40 ≤ cn f 0 100)) : OkM (upd f k v) := by
  have hv9 : v ≠ -9 := fun e => not_num_9 (e ▸ hv)
  refine ⟨fun j hj => ?_, ?_⟩
  · by_cases e : j = k
    · rw [e, upd_same]; exact Or.inr hv
    · rw [upd_ne _ _ e]; exact h.1 j hj
  · rw [cn_upd hv9 hk]
    have := h.2
    by_cases e : f k = -9
    · rw [if_pos e]
      have : ¬ 40 ≤ cn f 0 100 := fun q => hr ⟨e, q⟩
      omega
    · rw [if_neg e]; omega
theorem OkM.drop {f : Mp} {k : Nat} (h : OkM f) (hk : k < 100) (hf : f k ≠ -9) : OkM (upd f k (-9)) := by
  refine ⟨fun j hj => ?_, ?_⟩
  · by_cases e : j = k
    · rw [e, upd_same]; exact Or.inl rfl
    · rw [upd_ne _ _ e]; exact h.1 j hj
  · have := cn_drop hk hf
    have := h.2
    omega
/-- the map has changed (and what can be undone), the tree is made anew -/
theorem CI.grown {D D1 : DD} {f f' : Mp} {us us' : List Mp} {sl : Nat → Option Mp} {xs : List Int32} {tr : Int32} {fm : List Int32} (hC : CI D f us sl xs tr fm) (hP : Prs D1 1 f') (hU : ∃ fi, UI D1 fi us') (ho : ∀ c, c ≠ 1 → c ≠ 2 → (c < 12 ∨ 41 < c) → D1 c = D c) : ∃ D' : DD, g_X7_grow 3 1 D1 = some D' ∧ CI D' f' us' sl xs tr fm ∧ ∀ c, c ≠ 3 → c ≠ 4 → c ≠ 5 → c ≠ 6 → c ≠ 8 → D' c = D1 c := by
  obtain ⟨h1, h2, -, h4, h5, h6, h7, L, h8, h9⟩ := hC
  obtain ⟨D', e1, e2, e3⟩ := n_regrow (D := D1) (t := 3) (p := 1) (f := f') (Or.inl (by omega)) hP.1 (fun g hg => by rw [ho (3 + 4) (by omega) (by omega) (by omega)]; exact h2.2.2.2 g hg)
  have fr : ∀ c, c ≠ 3 → c ≠ 4 → c ≠ 5 → c ≠ 6 → c ≠ 8 → D' c = D1 c := fun c c1 c2 c3 c4 c5 => e3.1 c c1 c2 c3 c4 c5
  obtain ⟨fi, hU⟩ := hU
  exact ⟨D', e1, ⟨hP.congr (fr _ (by omega) (by omega) (by omega) (by omega) (by omega)) (fr _ (by omega) (by omega) (by omega) (by omega) (by omega)), e2, ⟨fi, hU.congr (fun c a b => fr c (by omega) (by omega) (by omega) (by omega) (by omega))⟩, h4.congr (fun c a b => (fr c (by omega) (by omega) (by omega) (by omega) (by omega)).trans (ho c (by omega) (by omega) (by omega))), h5.congr ((fr _ (by omega) (by omega) (by omega) (by omega) (by omega)).trans (ho _ (by omega) (by omega) (by omega))) ((fr _ (by omega) (by omega) (by omega) (by omega) (by omega)).trans (ho _ (by omega) (by omega) (by omega))), h6.congr ((fr _ (by omega) (by omega) (by omega) (by omega) (by omega)).trans (ho _ (by omega) (by omega) (by omega))) ((fr _ (by omega) (by omega) (by omega) (by omega) (by omega)).trans (ho _ (by omega) (by omega) (by omega))), fun g hg => by rw [fr _ (by omega) (by omega) (by omega) (by omega) (by omega), ho _ (by omega) (by omega) (by omega)]; exact h7 g hg, L, h8, by rw [fr _ (by omega) (by omega) (by omega) (by omega) (by omega), ho _ (by omega) (by omega) (by omega)]; exact h9⟩, fr⟩
/-- the reference's map has changed -/
theorem MI.changed {D D' : DD} {f f' : Mp} {us us' : List Mp} {sl : Nat → Option Mp} {xs : List Int32} {tr : Int32} {fm : List Int32} (hM : MI D 80 f us sl xs tr fm) (hf : ∀ k, k < 100 → D' 81 k = f' k) (hU : ∃ nx, MU D' 80 nx us') (ho : ∀ c, c ≠ 80 → c ≠ 81 → c ≠ 83 → D' c = D c) (hm : ∀ j, j ≠ 3 → j ≠ 4 → D' 80 j = D 80 j) : MI D' 80 f' us' sl xs tr fm := by
  obtain ⟨-, -, h3, h4, h5⟩ := hM
  refine ⟨hf, hU, fun j hj => ?_, ⟨by rw [hm 25 (by omega) (by omega)]; exact h4.1, fun j x hx => by rw [ho _ (by omega) (by omega) (by omega)]; exact h4.2 j x hx⟩, by rw [hm 26 (by omega) (by omega)]; exact h5.1, by rw [hm 28 (by omega) (by omega)]; exact h5.2.1, fun j x hx => by rw [ho _ (by omega) (by omega) (by omega)]; exact h5.2.2 j x hx⟩
  rcases h3 j hj with ⟨q1, q2⟩ | ⟨g, q1, q2, q3⟩
  · exact Or.inl ⟨q1, by rw [ho _ (by omega) (by omega) (by omega)]; exact q2⟩
  · exact Or.inr ⟨g, q1, by rw [ho _ (by omega) (by omega) (by omega)]; exact q2, fun k hk => by rw [ho _ (by omega) (by omega) (by omega)]; exact q3 k hk⟩
theorem op_put {D : DD} (h : St D) (key v : Int32) : ∃ (r : Int32) (D1 D2 : DD), g_X8_put 0 key v D = some (r, D1) ∧ g_X9_put 80 key v D1 = some (r, D2) ∧ St D2 := by
  obtain ⟨f, us, sl, xs, tr, fm, hC, hM, hA⟩ := id h
  unfold g_X8_put g_X9_put
  rcases num_or key with ⟨k, hk, rfl⟩ | hk
  · rw [n_isNumber hk, pcb_some, if_neg one_ne0]
    simp only [n_isNumber9t hk, pcb_some, if_neg one_ne0]
    rcases num_or v with ⟨j, hj, rfl⟩ | hv
    · rw [n_isNumber hj, pcb_some, if_neg one_ne0]
      simp only [n_isNumber9t hj, pcb_some, if_neg one_ne0, Nat.zero_add]
      rw [n_room hC.1 hk, pcb_some]
      by_cases hr : f k = -9 ∧ 40 ≤ cn f 0 100
      · rw [if_pos hr, if_pos rfl]
        refine ⟨_, _, _, rfl, ?_, h⟩
        rw [n_mayPut (v := 80 + 1) hM.1 hk, pcb_some, if_pos hr, if_pos rfl]
      · rw [if_neg hr, if_neg one_ne0, n_valueOf hk, pcb_some, hC.1.1 k hk]
        obtain ⟨fi, hU⟩ := hC.2.2.1
        obtain ⟨D1, e1, e2, e3⟩ := n_note hU hC.1
        obtain ⟨D2, f1, f2, f3⟩ := n_give (v := nI j) (hC.1.congr (e3 1 (by omega)) (e3 (1 + 1) (by omega))) hk (nI_ne9 (by omega))
        obtain ⟨fi', e2⟩ := e2
        obtain ⟨D3, g1, g2, g3⟩ := hC.grown (D1 := D2) (f' := upd f k (nI j)) (us' := pushU us f) f2 ⟨fi', e2.congr (fun c a b => f3 c (by omega) (by omega))⟩ (fun c c1 c2 c3 => by rw [f3 c c1 c2, e3 c c3])
        rw [e1, vcb_some, f1, vcb_some, g1, vcb_some]
        have hM3 : MI D3 80 f us sl xs tr fm := hM.congr (fun c a b => by rw [g3 c (by omega) (by omega) (by omega) (by omega) (by omega), f3 c (by omega) (by omega), e3 c (by omega)])
        refine ⟨f k, D3, ?_⟩
        obtain ⟨nx, hMU⟩ := hM3.2.1
        obtain ⟨D4, k1, k2, k3, k4⟩ := n_note9 hM3.1 hMU
        refine ⟨u2 D4 81 k (nI j), rfl, ?_, upd f k (nI j), pushU us f, sl, xs, tr, fm, g2.congr (fun c hc => by rw [u2_ne _ _ (by omega), k3 c (by omega) (by omega)]), ?_, hA.push (hA.1.put hk (isNum_nI hj) hr)⟩
        · rw [n_mayPut (v := 80 + 1) hM3.1 hk, pcb_some, if_neg hr, if_neg one_ne0, k1, vcb_some, zck_nI hk (by decide), zck_nI hk (by decide), ix_nI (by omega), dlt_eq, k3 (80 + 1) (by omega) (by omega), hM3.1 k hk]
        · obtain ⟨nx', a1, a2, a3, a4, a5⟩ := k2
          refine hM3.changed (fun i hi => ?_) ⟨nx', by rw [u2_ne _ _ (by omega)]; exact a1, a2, by rw [u2_ne _ _ (by omega)]; exact a3, a4, fun i g hi q hq => by rw [u2_ne _ _ (by omega)]; exact a5 i g hi q hq⟩ (fun c c1 c2 c3 => by rw [u2_ne _ _ c2, k3 c c1 c3]) (fun i i1 i2 => by rw [u2_ne _ _ (by omega)]; exact k4 i i1 i2)
          rw [u2_same]
          by_cases e : i = k
          · rw [e, upd_same, upd_same]
          · rw [upd_ne _ _ e, upd_ne _ _ e, k3 81 (by omega) (by omega)]; exact hM3.1 i hi
    · rw [n_isNumber_f hv, pcb_some, if_pos rfl]
      exact ⟨_, _, _, rfl, by rw [n_isNumber9f hv, pcb_some, if_pos rfl], h⟩
  · rw [n_isNumber_f hk, pcb_some, if_pos rfl]
    exact ⟨_, _, _, rfl, by rw [n_isNumber9f hk, pcb_some, if_pos rfl], h⟩
theorem op_remove {D : DD} (h : St D) (key : Int32) : ∃ (r : Int32) (D1 D2 : DD), g_X8_remove 0 key D = some (r, D1) ∧ g_X9_remove 80 key D1 = some (r, D2) ∧ St D2 := by
  obtain ⟨f, us, sl, xs, tr, fm, hC, hM, hA⟩ := id h
  unfold g_X8_remove g_X9_remove
  rcases num_or key with ⟨k, hk, rfl⟩ | hk
  · rw [n_isNumber hk, pcb_some, if_neg one_ne0]
    simp only [n_isNumber9t hk, pcb_some, if_neg one_ne0, Nat.zero_add]
    rw [n_has hk, hC.1.1 k hk, pcb_some]
    by_cases hr : f k = -9
    · rw [if_pos hr, if_pos rfl]
      refine ⟨_, _, _, rfl, ?_, h⟩
      rw [zck_nI hk (by decide), ix_nI (by omega), hM.1 k hk, if_pos hr]
    · rw [if_neg hr, if_neg one_ne0, n_valueOf hk, pcb_some, hC.1.1 k hk]
      obtain ⟨fi, hU⟩ := hC.2.2.1
      obtain ⟨D1, e1, e2, e3⟩ := n_note hU hC.1
      obtain ⟨D2, f1, f2, f3⟩ := n_drop (hC.1.congr (e3 1 (by omega)) (e3 (1 + 1) (by omega))) hk hr
      obtain ⟨fi', e2⟩ := e2
      obtain ⟨D3, g1, g2, g3⟩ := hC.grown (D1 := D2) (f' := upd f k (-9)) (us' := pushU us f) f2 ⟨fi', e2.congr (fun c a b => f3 c (by omega) (by omega))⟩ (fun c c1 c2 c3 => by rw [f3 c c1 c2, e3 c c3])
      rw [e1, vcb_some, f1, vcb_some, g1, vcb_some]
      have hM3 : MI D3 80 f us sl xs tr fm := hM.congr (fun c a b => by rw [g3 c (by omega) (by omega) (by omega) (by omega) (by omega), f3 c (by omega) (by omega), e3 c (by omega)])
      refine ⟨f k, D3, ?_⟩
      obtain ⟨nx, hMU⟩ := hM3.2.1
      obtain ⟨D4, k1, k2, k3, k4⟩ := n_note9 hM3.1 hMU
      refine ⟨u2 D4 81 k (-9), rfl, ?_, upd f k (-9), pushU us f, sl, xs, tr, fm, g2.congr (fun c hc => by rw [u2_ne _ _ (by omega), k3 c (by omega) (by omega)]), ?_, hA.push (hA.1.drop hk hr)⟩
      · rw [zck_nI hk (by decide), ix_nI (by omega), hM3.1 k hk, if_neg hr, k1, vcb_some, zck_nI hk (by decide), zck_nI hk (by decide), dlt_eq, k3 (80 + 1) (by omega) (by omega), hM3.1 k hk]
      · obtain ⟨nx', a1, a2, a3, a4, a5⟩ := k2
        refine hM3.changed (fun i hi => ?_) ⟨nx', by rw [u2_ne _ _ (by omega)]; exact a1, a2, by rw [u2_ne _ _ (by omega)]; exact a3, a4, fun i g hi q hq => by rw [u2_ne _ _ (by omega)]; exact a5 i g hi q hq⟩ (fun c c1 c2 c3 => by rw [u2_ne _ _ c2, k3 c c1 c3]) (fun i i1 i2 => by rw [u2_ne _ _ (by omega)]; exact k4 i i1 i2)
        rw [u2_same]
        by_cases e : i = k
        · rw [e, upd_same, upd_same]
        · rw [upd_ne _ _ e, upd_ne _ _ e, k3 81 (by omega) (by omega)]; exact hM3.1 i hi
  · rw [n_isNumber_f hk, pcb_some, if_pos rfl]
    exact ⟨_, _, _, rfl, by rw [n_isNumber9f hk, pcb_some, if_pos rfl], h⟩
