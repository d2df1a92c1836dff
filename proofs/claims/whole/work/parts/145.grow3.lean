set_option maxHeartbeats 1000000 in
theorem n_growLoop {f h : Nat → Int32} {a p : Nat} (hap : Ap a p) : ∀ (d c n : Nat) (st : List Nat) (D : DD), c + d = 100 → d < n → Src f h a p D → D a 5 = nI st.length → st.length ≤ c → Opn (D (a + 5)) st → Chn f (D (a + 1)) st c → (∀ j, lb st ≤ j → j < c → f j = -9) → Jc f h a D c →
    ∃ D' : DD, g_X7_grow_15 n a p (nI c) D = some D' ∧ Fr a D D' ∧ TrOk f h (D' (a + 1)) (D' (a + 2)) (D' (a + 3)) ∧ D' a 6 = oI (bs f 0 100) ∧ ∀ j, f j = -9 → D' (a + 3) j = D (a + 3) j := by
  intro d
  induction d with
  | zero =>
    intro c n st D hcd hn hs hlen hlc hop hch hno hJ
    obtain ⟨n, rfl⟩ : ∃ m, n = m + 1 := ⟨n - 1, by omega⟩
    have hc : c = 100 := by omega
    subst hc
    have hbn : bs f (lb st) 100 = none := bs_none_of hno
    obtain ⟨D1, st1, e1, e2, e3, e4, e5, e6, e7, e8, e9, e10, e11, e12, e13, e14, e15⟩ := n_closeLoop hap (c := 100) (Nat.le_refl _) (fun q => absurd q (by omega)) st D 0 1000 (by omega) (by omega) hs hlen hop hch (fun q => absurd q (by omega)) hJ (fun lo k b1 b2 b3 => by
      obtain ⟨a1, a2, a3, -⟩ := bs_some b2
      exact absurd (hno k b3 a2) a3) (fun b hb => by rw [hbn] at hb; cases hb)
    have hst : st1 = [] := by
      rcases e15 with q | ⟨q, -⟩
      · exact q
      · omega
    subst hst
    unfold g_X7_grow_15
    rw [if_pos nI_100']
    have e1' : g_X7_closeBefore a (100 : Int32) p D = some (oI (bs f 0 100), D1) := by
      unfold g_X7_closeBefore
      rw [hbn] at e1
      exact e1
    rw [e1', dcb_some, dlt_eq]
    refine ⟨_, rfl, e2.tr ⟨fun b c1 c2 c3 c4 c5 => u2_ne _ _ c1, fun j c1 c2 => by rw [u2_same, upd_ne _ _ c2]⟩, ?_, by rw [u2_same, upd_same], fun j hj => by rw [u2_ne _ _ (by omega)]; exact e7 j hj⟩
    rw [u2_ne _ _ (by omega), u2_ne _ _ (by omega), u2_ne _ _ (by omega)]
    intro lo hi k b1 b2
    obtain ⟨a1, a2, -, -⟩ := bs_some b2
    have := b1.2.1
    by_cases hh : hi = 100
    · subst hh
      exact e13 lo k b1 b2 (Nat.zero_le _)
    · exact e12 lo hi k b1 (by omega) b2
  | succ d ih =>
    intro c n st D hcd hn hs hlen hlc hop hch hno hJ
    obtain ⟨n, rfl⟩ : ∃ m, n = m + 1 := ⟨n - 1, by omega⟩
    have hc : c < 100 := by omega
    have hbn : bs f (lb st) c = none := bs_none_of hno
    unfold g_X7_grow_15
    rw [if_neg (nI_100 hc), n_has hc, pcb_some, hs.1 c hc]
    by_cases hfc : f c = -9
    · rw [if_pos hfc, if_pos rfl]
      unfold g_X7_grow_70
      rw [nI_1]
      refine ih (c + 1) n st D (by omega) (by omega) hs hlen (by omega) hop ?_ ?_ ?_
      · cases st with
        | nil => trivial
        | cons k r =>
          obtain ⟨h1, h2, h3, h4, h5, h6, h7⟩ := hch
          refine ⟨by omega, h2, fun j j1 j2 j3 => ?_, h4, h5, h6, h7⟩
          by_cases e : j = c
          · rw [e] at j3; exact absurd hfc j3
          · exact h3 j j1 (by omega) j3
      · intro j j1 j2
        by_cases e : j = c
        · rw [e]; exact hfc
        · exact hno j j1 (by omega)
      · intro lo hi k b1 b2 b3
        by_cases e : hi = c
        · obtain ⟨-, -, -, b4⟩ := b1
          rcases b4 with b4 | ⟨b4, -⟩
          · omega
          · rw [e] at b4; exact absurd hfc b4
        · exact hJ lo hi k b1 (by omega) b3
    · rw [if_neg hfc, if_neg one_ne0]
      obtain ⟨D1, st1, e1, e2, e3, e4, e5, e6, e7, e8, e9, e10, e11, e12, e13, e14, e15⟩ := n_closeLoop hap (c := c) (by omega) (fun _ => hfc) st D 0 1000 (by omega) (by omega) hs hlen hop hch (fun _ j j1 j2 j3 => absurd (hno j j1 j2) j3) hJ (fun lo k b1 b2 b3 => by
        obtain ⟨a1, a2, a3, -⟩ := bs_some b2
        exact absurd (hno k b3 a2) a3) (fun b hb => by rw [hbn] at hb; cases hb)
      have e1' : g_X7_closeBefore a (nI c) p D = some (oI (bs f (lb st1) c), D1) := by
        unfold g_X7_closeBefore
        rw [hbn] at e1
        exact e1
      have hl1 : st1.length < 100 := by omega
      rw [e1', dcb_some, zck_nI hc (by decide), dlt_eq, ix_nI (by omega)]
      have hab : ∀ k, st1.head? = some k → rk c < rk k := by
        intro k hk
        rcases e15 with q | ⟨-, q⟩
        · rw [q] at hk; cases hk
        · exact q k hk
      generalize hD2 : u2 D1 (a + 1) c (oI (bs f (lb st1) c)) = D2
      have d5 : D2 a 5 = nI st1.length := by rw [← hD2, u2_ne _ _ (by omega)]; exact e5
      have do1 : D2 (a + 5) = D1 (a + 5) := by rw [← hD2, u2_ne _ _ (by omega)]
      have dl1 : D2 (a + 1) = upd (D1 (a + 1)) c (oI (bs f (lb st1) c)) := by rw [← hD2, u2_same]
      have dr1 : D2 (a + 2) = D1 (a + 2) := by rw [← hD2, u2_ne _ _ (by omega)]
      have dd1 : D2 (a + 3) = D1 (a + 3) := by rw [← hD2, u2_ne _ _ (by omega)]
      have hF2 : Fr a D D2 := e2.tr ⟨fun b c1 c2 c3 c4 c5 => by rw [← hD2, u2_ne _ _ c2], fun j c1 c2 => by rw [← hD2, u2_ne _ _ (by omega)]⟩
      rw [d5, if_neg (nI_100 hl1), zck_nI hl1 (by decide), dlt_eq, ix_nI (by omega)]
      generalize hD3 : u2 D2 (a + 5) st1.length (nI c) = D3
      have t5 : D3 a 5 = nI st1.length := by rw [← hD3, u2_ne _ _ (by omega)]; exact d5
      rw [dlt_eq, t5, nI_1]
      generalize hD4 : u2 D3 a 5 (nI (st1.length + 1)) = D4
      have k5 : D4 a 5 = nI (c :: st1).length := by rw [← hD4, u2_same, upd_same]; rfl
      have ko : D4 (a + 5) = upd (D1 (a + 5)) st1.length (nI c) := by rw [← hD4, u2_ne _ _ (by omega), ← hD3, u2_same, do1]
      have kl : D4 (a + 1) = upd (D1 (a + 1)) c (oI (bs f (lb st1) c)) := by rw [← hD4, u2_ne _ _ (by omega), ← hD3, u2_ne _ _ (by omega), dl1]
      have kr : D4 (a + 2) = D1 (a + 2) := by rw [← hD4, u2_ne _ _ (by omega), ← hD3, u2_ne _ _ (by omega), dr1]
      have kd : D4 (a + 3) = D1 (a + 3) := by rw [← hD4, u2_ne _ _ (by omega), ← hD3, u2_ne _ _ (by omega), dd1]
      have hF4 : Fr a D D4 := hF2.tr ⟨fun b c1 c2 c3 c4 c5 => by rw [← hD4, u2_ne _ _ c1, ← hD3, u2_ne _ _ c5], fun j c1 c2 => by rw [← hD4, u2_same, upd_ne _ _ c1, ← hD3, u2_ne _ _ (by omega)]⟩
      unfold g_X7_grow_70
      rw [nI_1]
      obtain ⟨D', i1, i2, i3, i4, i5⟩ := ih (c + 1) n (c :: st1) D4 (by omega) (by omega) (hs.fr hap hF4) k5 (by simp only [List.length_cons]; omega) (by
          rw [ko]
          exact ⟨by rw [upd_same], Opn_congr (fun j hj => by rw [upd_ne _ _ (by omega)]) e9⟩) (by
          rw [kl]
          refine ⟨by omega, hfc, fun j j1 j2 => by omega, fun j j1 j2 j3 => e11 hc j j1 j2 j3, by rw [upd_same], hab, Chn_congr (fun j hj => by rw [upd_ne _ _ (by omega)]) e10⟩) (fun j j1 j2 => by simp only [lb] at j1; omega) (by
          intro lo hi k b1 b2 b3
          obtain ⟨a1, a2, a3, a4⟩ := bs_some b3
          have hk : k ≠ c := by omega
          unfold Cl
          rw [kl, kr, kd, upd_ne _ _ hk]
          by_cases e : hi = c
          · subst e
            refine e13 lo k b1 b3 ?_
            rcases e15 with q | ⟨-, q⟩
            · rw [q]; exact Nat.zero_le _
            · cases st1 with
              | nil => exact Nat.zero_le _
              | cons k' r' =>
                have q1 := q k' rfl
                have q2 := e10.2.1
                have q3 : k' < hi := e10.1
                obtain ⟨-, -, -, b4⟩ := b1
                rcases b4 with b4 | ⟨b4, b5⟩
                · omega
                · show k' + 1 ≤ k
                  rcases Nat.lt_or_ge k' lo with q4 | q4
                  · omega
                  · have := b5 k' q4 q3 q2
                    omega
          · exact e12 lo hi k b1 (by omega) b3)
      exact ⟨D', i1, hF4.tr i2, i3, i4, fun j hj => by rw [i5 j hj, kd]; exact e7 j hj⟩
/-- grow: the arrays of the tree of a map -/
theorem n_grow {f h : Nat → Int32} {a p : Nat} {D : DD} (hap : Ap a p) (hs : Src f h a p D) : ∃ D' : DD, g_X7_grow a p D = some D' ∧ Fr a D D' ∧ TrOk f h (D' (a + 1)) (D' (a + 2)) (D' (a + 3)) ∧ D' a 6 = oI (bs f 0 100) ∧ ∀ j, j < 100 → f j = -9 → D' (a + 3) j = 0 := by
  obtain ⟨fz, z1, z2⟩ := n_fill 100 (a + 3) 0 D (by decide)
  unfold g_X7_grow
  rw [z1, vcb_some, dlt_eq]
  generalize hD1 : u2 (uA D (a + 3) fz) a 5 (0 : Int32) = D1
  have hF : Fr a D D1 := ⟨fun b c1 c2 c3 c4 c5 => by rw [← hD1, u2_ne _ _ c1, uA_ne _ _ c4], fun j c1 c2 => by rw [← hD1, u2_same, upd_ne _ _ c1, uA_ne _ _ (by omega)]⟩
  have hd : D1 (a + 3) = fz := by rw [← hD1, u2_ne _ _ (by omega), uA_same]
  obtain ⟨D', e1, e2, e3, e4, e5⟩ := n_growLoop hap 100 0 1000 [] D1 (by omega) (by omega) (hs.fr hap hF) (by rw [← hD1, u2_same, upd_same]; rfl) (Nat.le_refl _) trivial trivial (fun j j1 j2 => by omega) (fun lo hi k b1 b2 => by omega)
  exact ⟨D', e1, hF.tr e2, e3, e4, fun j h1 h2 => by rw [e5 j h2, hd]; exact z2 j h1⟩
