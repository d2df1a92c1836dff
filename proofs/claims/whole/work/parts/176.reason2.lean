theorem hgD_X {m : Nat} {D : DD} {on : Option Nat} {sd : Nat} {nd lf : Int32} : FrX m D (hgD m D on sd nd lf) := ⟨fun c a b => hgD_o _ _ _ _ _ a (by omega) (by omega) (by omega) (by omega), fun j _ _ c => hgD_m _ _ _ _ _ c⟩
theorem ndD_X {m L c k lo : Nat} {D : DD} {hi v : Int32} {on : Option Nat} {sd : Nat} : FrX m D (ndD m D L c k lo hi v on sd) := by
  unfold ndD
  refine ⟨fun x a b => ?_, fun j a b d => ?_⟩
  · rw [wt_o _ _ _ _ _ _ a (by omega) (by omega) (by omega) (by omega), wt_o _ _ _ _ _ _ a (by omega) (by omega) (by omega) (by omega), hgD_o _ _ _ _ _ a (by omega) (by omega) (by omega) (by omega), u2_ne _ _ a, u2_ne _ _ (by omega), u2_ne _ _ (by omega)]
  · rw [wt_f, upd_ne _ _ a, wt_f, upd_ne _ _ a, hgD_m _ _ _ _ _ d, u2_same, upd_ne _ _ b, u2_ne _ _ (by omega), u2_ne _ _ (by omega)]
theorem Row.fr {D D' : DD} {m : Nat} {xs : List Int32} (hF : FrX m D D') (h : Row D m xs) : Row D' m xs := ⟨by rw [hF.2 25 (by omega) (by omega) (by omega)]; exact h.1, fun j x hx => by rw [hF.1 (m + 21) (by omega) (by omega)]; exact h.2 j x hx⟩
set_option maxHeartbeats 4000000 in
def Ij (s : Nat → Int32) (c : Nat) (kf : Nat → Nat) : Prop := (∀ i, i < c → s (kf i) ≠ -9) ∧ ∀ i j, i < c → j < c → kf i = kf j → i = j
theorem Ij_node {s : Nat → Int32} {c k : Nat} {kf : Nat → Nat} {v : Int32} (h : Ij s c kf) (hk : s k = -9) (hv : v ≠ -9) : Ij (upd s k v) (c + 1) (fun i => if i = c then k else kf i) := by
  refine ⟨fun i hi => ?_, fun i j hi hj e => ?_⟩
  · by_cases e : i = c
    · simp only [if_pos e, upd_same]; exact hv
    · simp only [if_neg e]
      by_cases e2 : kf i = k
      · exact absurd hk (e2 ▸ h.1 i (by omega))
      · rw [upd_ne _ _ e2]; exact h.1 i (by omega)
  · by_cases ei : i = c
    · by_cases ej : j = c
      · omega
      · simp only [if_pos ei, if_neg ej] at e
        exact absurd (e ▸ hk) (h.1 j (by omega))
    · by_cases ej : j = c
      · simp only [if_neg ei, if_pos ej] at e
        exact absurd (e ▸ hk) (h.1 i (by omega))
      · simp only [if_neg ei, if_neg ej] at e
        exact h.2 i j (by omega) (by omega) e
theorem n_reasonLoop {m a b : Nat} {xs : List Int32} (ha : a ≤ b) (hb : b < 100) (hxs : ∀ x ∈ xs, isIt x) (hxl : xs.length ≤ 100) : ∀ (rest pre : List Int32) (ws : List WW) (st : List RW) (s h : Nat → Int32) (c : Nat) (kf lf hf : Nat → Nat) (D : DD) (n code : Nat) (s' h' : Nat → Int32), xs = pre ++ rest → rest.length < n → Row D m xs → Wn m D ws → D m 21 = nI ws.length → ws.length ≤ pre.length + 1 → D m 36 = nI c → c ≤ pre.length → Lkk D m c ws st → Vs s st → rd a b rest st s h = (code, s', h') → (code = 0 → NF D m s' h' c ws kf lf hf) → Ij s c kf →
    ∃ D' : DD, FrX m D D' ∧ ((code ≠ 0 ∧ g_X9_reasonOf_27 n m (nI a) (nI b) (nI pre.length) D = some (nI code, D')) ∨ (code = 0 ∧ ∃ (c' : Nat) (kf' lf' hf' : Nat → Nat), g_X9_reasonOf_27 n m (nI a) (nI b) (nI pre.length) D = dcb (g_X9_shownDigest m D') (fun r1 D2 => g_X9_reasonOf_108 1000 m r1 (0 : Int32) (0 : Int32) D2) ∧ NF D' m s' h' c' [] kf' lf' hf' ∧ c' ≤ 100 ∧ D' m 36 = nI c' ∧ ∀ i j, i < c' → j < c' → kf' i = kf' j → i = j)) := by
  intro rest
  induction rest with
  | nil =>
    intro pre ws st s h c kf lf hf D n code s' h' hx hn hR hW h21 hwl h36 hc hL hV hrd hN hJ
    obtain ⟨n, rfl⟩ : ∃ q, n = q + 1 := ⟨n - 1, by omega⟩
    have hpl : xs.length = pre.length := by rw [hx, List.append_nil]
    cases ws with
    | nil =>
      cases st with
      | nil =>
        rw [rd] at hrd
        cases hrd
        refine ⟨D, FrX.rf, Or.inr ⟨rfl, c, kf, lf, hf, ?_, hN rfl, by omega, h36, hJ.2⟩⟩
        rw [g_X9_reasonOf_27, h21, if_pos (show nI ([] : List WW).length ≤ 0 by decide), hR.1, if_pos (nI_le (by omega) (by omega))]
      | cons v q => exact hL.elim
    | cons w r =>
      cases st with
      | nil => exact hL.elim
      | cons v q =>
        rw [rd] at hrd
        cases hrd
        refine ⟨D, FrX.rf, Or.inl ⟨by decide, ?_⟩⟩
        simp only [List.length_cons] at h21 hwl
        rw [g_X9_reasonOf_27, h21, if_neg (nI_nle (by omega) (by omega)), hR.1, hpl, if_pos rfl]
        rfl
  | cons x rest ih =>
    intro pre ws st s h c kf lf hf D n code s' h' hx hn hR hW h21 hwl h36 hc hL hV hrd hN hJ
    obtain ⟨n, rfl⟩ : ∃ q, n = q + 1 := ⟨n - 1, by omega⟩
    have hlen : xs.length = pre.length + (rest.length + 1) := by rw [hx]; simp
    have hxj : xs[pre.length]? = some x := by rw [hx]; simp
    have hxi : isIt x := hxs x (List.mem_of_getElem? hxj)
    have hx2 : xs = (pre ++ [x]) ++ rest := by rw [hx]; simp
    have hpl : (pre ++ [x]).length = pre.length + 1 := by simp
    cases ws with
    | nil =>
      cases st with
      | nil =>
        rw [rd] at hrd
        cases hrd
        refine ⟨D, FrX.rf, Or.inl ⟨by decide, ?_⟩⟩
        rw [g_X9_reasonOf_27, h21, if_pos (show nI ([] : List WW).length ≤ 0 by decide), hR.1, if_neg (nI_ge (by omega) (by omega))]
        rfl
      | cons v q => exact hL.elim
    | cons w r =>
      cases st with
      | nil => exact hL.elim
      | cons v q =>
        obtain ⟨lo, H, on, sd⟩ := w
        obtain ⟨vlo, vH, par⟩ := v
        obtain ⟨l1, l2, l3, l4, l5, l6, l7⟩ := hL
        simp only at l1 l2 l3 l4 l5 l6
        subst l1; subst l2
        obtain ⟨w1, w2, w3, w4, w5⟩ := hW
        simp only at w1 w2 w3 w4
        simp only [List.length_cons] at h21 hwl
        rw [g_X9_reasonOf_27, h21, if_neg (nI_nle (by omega) (by omega)), hR.1, if_neg (fun z => by have := (nI_eq (by omega) (by omega)).mp z; omega), show nI (r.length + 1) - (1 : Int32) = nI r.length from nI_pred _, dlt_eq, zck_nI (by omega) (by decide), ix_nI (by omega)]
        generalize hE : u2 D m 21 (nI r.length) = E
        have eo : ∀ z, z ≠ m → E z = D z := fun z hz => by rw [← hE, u2_ne _ _ hz]
        have em : ∀ j, j ≠ 21 → E m j = D m j := fun j hj => by rw [← hE, u2_same, upd_ne _ _ hj]
        have e21 : E m 21 = nI r.length := by rw [← hE, u2_same, upd_same]
        have hFE : FrX m D E := ⟨fun z a _ => eo z a, fun j a _ _ => em j a⟩
        rw [e21, eo (m + 21) (by omega), hR.2 _ _ hxj, n_takeItem (par := par) (c := c) ha hb hxi (by omega) l4 l5 l3 (by rw [eo _ (by omega)]; exact w1) (by rw [eo _ (by omega)]; exact w2) (by rw [eo _ (by omega)]; exact w3) (by rw [eo _ (by omega)]; exact w4) e21 (by rw [em 36 (by omega)]; exact h36) (by omega) (l6.elim Or.inl (fun ⟨i, p, a1, a2, a3, a4, a5⟩ => Or.inr ⟨i, p, a1, a2, by omega, a4, by rw [eo _ (by omega)]; exact a5⟩))]
        rw [rd] at hrd
        simp only at hrd
        have hwE : Wn m E r := Wn_congr (fun j _ => by rw [eo _ (by omega), eo _ (by omega), eo _ (by omega), eo _ (by omega)]; exact ⟨rfl, rfl, rfl, rfl⟩) w5
        -- a leaf that is fine
        have leaf : rd a b rest q s (upd h H x) = (code, s', h') → ∃ D' : DD, FrX m D D' ∧ ((code ≠ 0 ∧ g_X9_reasonOf_27 n m (nI a) (nI b) (nI pre.length + 1) (hgD m E on sd (-9) x) = some (nI code, D')) ∨ (code = 0 ∧ ∃ (c' : Nat) (kf' lf' hf' : Nat → Nat), g_X9_reasonOf_27 n m (nI a) (nI b) (nI pre.length + 1) (hgD m E on sd (-9) x) = dcb (g_X9_shownDigest m D') (fun r1 D2 => g_X9_reasonOf_108 1000 m r1 (0 : Int32) (0 : Int32) D2) ∧ NF D' m s' h' c' [] kf' lf' hf' ∧ c' ≤ 100 ∧ D' m 36 = nI c' ∧ ∀ i j, i < c' → j < c' → kf' i = kf' j → i = j)) := by
          intro hrd2
          generalize hG : hgD m E on sd (-9) x = G
          have hFG : FrX m E G := by rw [← hG]; exact hgD_X
          have go : ∀ z, z ≠ m → z ≠ m + 25 → z ≠ m + 26 → z ≠ m + 27 → z ≠ m + 28 → G z = E z := fun z a b c d e => by rw [← hG]; exact hgD_o _ _ _ _ _ a b c d e
          have gm : ∀ j, j ≠ 37 → G m j = E m j := fun j hj => by rw [← hG]; exact hgD_m _ _ _ _ _ hj
          have := ih (pre ++ [x]) r q s (upd h H x) c kf lf hf G n code s' h' hx2 (by simp only [List.length_cons] at hn; omega) (hR.fr (hFE.tr hFG)) (Wn_congr (fun j _ => by rw [go (m + 16) (by omega) (by omega) (by omega) (by omega) (by omega), go (m + 17) (by omega) (by omega) (by omega) (by omega) (by omega), go (m + 18) (by omega) (by omega) (by omega) (by omega) (by omega), go (m + 19) (by omega) (by omega) (by omega) (by omega) (by omega)]; exact ⟨rfl, rfl, rfl, rfl⟩) hwE) (by rw [gm 21 (by omega)]; exact e21) (by rw [hpl]; omega) (by rw [gm 36 (by omega), em 36 (by omega)]; exact h36) (by rw [hpl]; omega) (Lkk_mono (Nat.le_refl _) (fun i _ => by rw [go (m + 23) (by omega) (by omega) (by omega) (by omega) (by omega), eo _ (by omega)]) l7) hV.2.2.2.2 hrd2 (fun h0 => by
            subst h0
            obtain ⟨f1, f2⟩ := rd_leaf hV hrd2
            exact NF_leaf (hN rfl) f1 f2 (by rw [← hG, ← hE])) hJ
          rw [hpl, ← nI_1] at this
          obtain ⟨D', g1, g2⟩ := this
          exact ⟨D', (hFE.tr hFG).tr g1, g2⟩
        have stop : ∀ cd : Nat, cd ≠ 0 → cd ≤ 5 → (code, s', h') = (cd, s, h) → ∃ D' : DD, FrX m D D' ∧ ((code ≠ 0 ∧ dcb (some (nI cd, E)) (fun r4 D5 => if r4 = 0 then g_X9_reasonOf_27 n m (nI a) (nI b) (nI pre.length + 1) D5 else some (r4, D5)) = some (nI code, D')) ∨ (code = 0 ∧ ∃ (c' : Nat) (kf' lf' hf' : Nat → Nat), dcb (some (nI cd, E)) (fun r4 D5 => if r4 = 0 then g_X9_reasonOf_27 n m (nI a) (nI b) (nI pre.length + 1) D5 else some (r4, D5)) = dcb (g_X9_shownDigest m D') (fun r1 D2 => g_X9_reasonOf_108 1000 m r1 (0 : Int32) (0 : Int32) D2) ∧ NF D' m s' h' c' [] kf' lf' hf' ∧ c' ≤ 100 ∧ D' m 36 = nI c' ∧ ∀ i j, i < c' → j < c' → kf' i = kf' j → i = j)) := by
          intro cd h1 h2 e
          cases e
          exact ⟨E, hFE, Or.inl ⟨h1, by rw [dcb_some, if_neg (nI_ne0 (by omega) (by omega))]⟩⟩
        by_cases c0 : 0 ≤ x
        · rw [if_pos c0] at hrd ⊢
          by_cases c1 : x = 0
          · rw [if_pos c1] at hrd ⊢
            rw [dcb_some, if_pos rfl]
            exact leaf hrd
          · rw [if_neg c1] at hrd ⊢
            by_cases c2 : H ≤ lo
            · rw [if_pos c2] at hrd ⊢
              exact stop 3 (by decide) (by decide) hrd.symm
            · rw [if_neg c2] at hrd ⊢
              by_cases c3 : lo ≤ b ∧ a < H
              · rw [if_pos c3] at hrd ⊢
                exact stop 5 (by decide) (by decide) hrd.symm
              · rw [if_neg c3] at hrd ⊢
                rw [dcb_some, if_pos rfl]
                exact leaf hrd
        · rw [if_neg c0] at hrd ⊢
          by_cases c1 : lo ≤ kx x ∧ kx x < H
          · rw [if_neg (show ¬ ¬ (lo ≤ kx x ∧ kx x < H) from fun z => z c1)] at hrd ⊢
            by_cases c2 : under (kx x) par = false
            · rw [if_pos c2] at hrd ⊢
              exact stop 4 (by decide) (by decide) hrd.symm
            · rw [if_neg c2] at hrd ⊢
              rw [dcb_some, if_pos rfl]
              obtain ⟨hk1, hk2⟩ := n_keyOf hxi c0
              generalize hG : ndD m E r.length c (kx x) lo (nI H - 1) (vx x) on sd = G
              have hFG : FrX m E G := by rw [← hG]; exact ndD_X
              have g23 : G (m + 23) = upd (D (m + 23)) c (nI (kx x)) := by
                rw [← hG]; unfold ndD
                rw [wt_o _ _ _ _ _ _ (by omega) (by omega) (by omega) (by omega) (by omega), wt_o _ _ _ _ _ _ (by omega) (by omega) (by omega) (by omega) (by omega), hgD_o _ _ _ _ _ (by omega) (by omega) (by omega) (by omega) (by omega), u2_ne _ _ (by omega), u2_ne _ _ (by omega), u2_same, eo _ (by omega)]
              have gW : Wn m G ((lo, kx x, some c, 0) :: (kx x + 1, H, some c, 1) :: r) := by
                rw [← hG]; unfold ndD
                generalize hB : hgD m (u2 (u2 (u2 E (m + 23) c (nI (kx x))) (m + 24) c (vx x)) m 36 (nI (c + 1))) on sd (nI c) 0 = B
                have hBW : Wn m B r := Wn_congr (fun j _ => by
                  rw [← hB, hgD_o _ _ _ _ _ (by omega) (by omega) (by omega) (by omega) (by omega), hgD_o _ _ _ _ _ (by omega) (by omega) (by omega) (by omega) (by omega), hgD_o _ _ _ _ _ (by omega) (by omega) (by omega) (by omega) (by omega), hgD_o _ _ _ _ _ (by omega) (by omega) (by omega) (by omega) (by omega), u2_ne _ _ (by omega), u2_ne _ _ (by omega), u2_ne _ _ (by omega), u2_ne _ _ (by omega), u2_ne _ _ (by omega), u2_ne _ _ (by omega), u2_ne _ _ (by omega), u2_ne _ _ (by omega), u2_ne _ _ (by omega), u2_ne _ _ (by omega), u2_ne _ _ (by omega), u2_ne _ _ (by omega)]
                  exact ⟨rfl, rfl, rfl, rfl⟩) hwE
                have h1 := Wn_wt (m := m) (D := B) (ws := r) (w := (kx x + 1, H, some c, 1)) (hi := nI H - 1) rfl hBW
                have h2 := Wn_wt (m := m) (ws := (kx x + 1, H, some c, 1) :: r) (w := (lo, kx x, some c, 0)) (hi := nI (kx x) - 1) rfl h1
                exact h2
              have gm36 : G m 36 = nI (c + 1) := by
                rw [← hG]; unfold ndD
                rw [wt_f, upd_ne _ _ (by omega), wt_f, upd_ne _ _ (by omega), hgD_m _ _ _ _ _ (by omega), u2_same, upd_same]
              have gm21 : G m 21 = nI (r.length + 1 + 1) := by
                rw [← hG]; unfold ndD
                rw [wt_f, upd_same]
              have := ih (pre ++ [x]) ((lo, kx x, some c, 0) :: (kx x + 1, H, some c, 1) :: r) ((lo, kx x, some (kx x)) :: (kx x + 1, H, some (kx x)) :: q) (upd s (kx x) (vx x)) h (c + 1) (fun i => if i = c then kx x else kf i) (fun i => if i = c then lo else lf i) (fun i => if i = c then H else hf i) G n code s' h' hx2 (by simp only [List.length_cons] at hn; omega) (hR.fr (hFE.tr hFG)) gW (by rw [gm21]; rfl) (by rw [hpl]; simp only [List.length_cons]; omega) gm36 (by rw [hpl]; omega) ⟨rfl, rfl, by show 0 < 2; decide, l4, by simp only; omega, Or.inr ⟨c, kx x, rfl, rfl, by omega, hk2, by rw [g23, upd_same]⟩, rfl, rfl, by show 1 < 2; decide, by simp only; omega, l5, Or.inr ⟨c, kx x, rfl, rfl, by omega, hk2, by rw [g23, upd_same]⟩, Lkk_mono (Nat.le_succ c) (fun i hi => by rw [g23, upd_ne _ _ (by omega)]) l7⟩ (Vs_node hV c1.1 c1.2) hrd (fun h0 => by
                subst h0
                obtain ⟨f1, f2⟩ := rd_node hV c1.1 c1.2 (vx_ne9 x) hrd
                exact NF_node (w := (lo, H, on, sd)) (hN rfl) f1 l5 f2 (by rw [← hG, ← hE])) (Ij_node hJ (hV.2.2.1 _ c1.1 c1.2) (vx_ne9 x))
              rw [hpl, ← nI_1] at this
              obtain ⟨D', g1, g2⟩ := this
              exact ⟨D', (hFE.tr hFG).tr g1, g2⟩
          · rw [if_pos c1] at hrd ⊢
            exact stop 3 (by decide) (by decide) hrd.symm
