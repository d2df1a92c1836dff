theorem Bd_uniq {f : Nat → Int32} {lo hi lo' hi' k : Nat} (h1 : Bd f lo hi) (e1 : bs f lo hi = some k) (h2 : Bd f lo' hi') (e2 : bs f lo' hi' = some k) : lo = lo' ∧ hi = hi' := by
  have key : ∀ {lo hi lo' hi' : Nat}, Bd f lo hi → bs f lo hi = some k → Bd f lo' hi' → bs f lo' hi' = some k → ¬ lo < lo' ∧ ¬ hi' < hi := by
    intro lo hi lo' hi' h1 e1 h2 e2
    obtain ⟨a1, a2, a3, a4⟩ := bs_some e1
    obtain ⟨b1, b2, b3, b4⟩ := bs_some e2
    obtain ⟨-, -, c3, c4⟩ := h2
    refine ⟨fun q => ?_, fun q => ?_⟩
    · rcases c3 with c3 | ⟨c3, c5⟩
      · omega
      · have := c5 k b1 b2 b3
        have := a4 (lo' - 1) (by omega) (by omega) c3
        omega
    · rcases c4 with c4 | ⟨c4, c5⟩
      · have := h1.2.1; omega
      · have := c5 k b1 b2 b3
        have := a4 hi' (by omega) q c4
        omega
  have x := key h1 e1 h2 e2
  have y := key h2 e2 h1 e1
  omega
theorem MkOk_Tr {f : Nat → Int32} {m b lev : Nat} {D : DD} (h : MkOk f m b lev D) : TrOk f zg (fun k => D (m + 7) (b + k)) (fun k => D (m + 8) (b + k)) (fun k => D (m + 13) (b + k)) := by
  intro lo hi k hB e
  obtain ⟨a1, a2, a3, -⟩ := bs_some e
  have := hB.2.1
  have hk : k < 100 := by omega
  obtain ⟨p1, p2, -⟩ := pl_spec a3 hk
  obtain ⟨q1, q2⟩ := Bd_uniq hB e p1 p2
  obtain ⟨h1, h2, h3, h4⟩ := h.2 k hk a3
  unfold Lft at h2
  unfold Rgt at h3
  rw [← q1] at h2
  rw [← q2] at h3
  have h5 := h4.2
  rw [← q1, ← q2] at h5
  exact ⟨h2, h3, h5⟩
def Prf (D : DD) (m : Nat) (xs : List Int32) : Prop := D m 23 = nI xs.length ∧ ∀ (j : Nat) (x : Int32), xs[j]? = some x → D (m + 20) j = x
def FrP (m : Nat) (D D' : DD) : Prop := (∀ c, c ≠ m → (c < m + 6 ∨ m + 20 < c) → D' c = D c) ∧ ∀ j, j ≠ 21 → j ≠ 23 → D' m j = D m j
theorem FrP.tr {m : Nat} {D D' D'' : DD} (h1 : FrP m D D') (h2 : FrP m D' D'') : FrP m D D'' := ⟨fun c a b => (h2.1 c a b).trans (h1.1 c a b), fun j a b => (h2.2 j a b).trans (h1.2 j a b)⟩
theorem FrM.P {m : Nat} {D D' : DD} (h : FrM m D D') : FrP m D D' := ⟨fun c a b => h.1 c a (by omega), fun j a _ => h.2 j a⟩
/-- which of the reference's arrays the laying of a proof looks at -/
def PrT (f : Nat → Int32) (m v : Nat) (D : DD) : Prop := TrOk f zg (D (m + 7)) (D (m + 8)) (D (m + 13)) ∧ ∀ k, k < 100 → D v k = f k
def wIv : List WW → List (Nat × Nat)
  | [] => []
  | w :: r => (w.1, w.2.1) :: wIv r
theorem wIv_len (f : Nat → Int32) (a b : Nat) : ∀ ws : List WW, ws.length ≤ (pfs f a b (wIv ws)).length
  | [] => Nat.le_refl _
  | i :: r => by
    have h1 := wIv_len f a b r
    have h2 := pf_pos f a b i.1 i.2.1
    simp only [wIv, pfs, List.length_append, List.length_cons]
    omega
def WsOk (f : Nat → Int32) (ws : List WW) : Prop := ∀ w ∈ ws, Bd f w.1 w.2.1 ∧ w.2.2.1 = bs f w.1 w.2.1 ∧ w.2.2.2 = 0
theorem n_shown {m v a b lo H : Nat} {on : Int32} {E : DD} (kk : Nat → Nat → Int32 → Int32 → DD → Option DD) (hab : a ≤ b) (hb : b < 100) (hlo : lo ≤ 100) (hH : H ≤ 100) : ∃ z : Int32, (z = 0 ∨ z = 1) ∧ (lo < H → (z = 1 ↔ (lo ≤ b ∧ a < H))) ∧ (if nI lo ≤ nI a then g_X9_prove_92 kk m v (nI a) (nI b) (nI lo) (nI H - 1) on (nI a) E else g_X9_prove_92 kk m v (nI a) (nI b) (nI lo) (nI H - 1) on (nI lo) E) = g_X9_prove_112 kk m v (nI a) (nI b) (nI lo) (nI H - 1) on z E := by
  have t1 : (1 : Int32) = 1 := rfl
  have t0 : ¬ (0 : Int32) = 1 := by decide
  have hbH : (nI b ≤ nI H - 1) ↔ b < H := by
    rw [← Int32.not_lt, hi_lt (by omega) (by omega)]; omega
  by_cases h1 : lo ≤ a
  · rw [if_pos (nI_le h1 (by omega))]
    unfold g_X9_prove_92
    by_cases h2 : b < H
    · rw [if_pos (hbH.mpr h2)]
      unfold g_X9_prove_104
      rw [if_neg (nI_nlt hab (by omega))]
      exact ⟨1, Or.inr rfl, fun _ => ⟨fun _ => by omega, fun _ => rfl⟩, rfl⟩
    · rw [if_neg (fun q => h2 (hbH.mp q))]
      unfold g_X9_prove_104
      by_cases h3 : H ≤ a
      · rw [if_pos ((hi_lt (by omega) (by omega)).mpr h3)]
        exact ⟨0, Or.inl rfl, fun _ => ⟨fun q => absurd q t0, fun q => by omega⟩, rfl⟩
      · rw [if_neg (fun q => h3 ((hi_lt (by omega) (by omega)).mp q))]
        exact ⟨1, Or.inr rfl, fun _ => ⟨fun _ => by omega, fun _ => rfl⟩, rfl⟩
  · rw [if_neg (nI_ge (by omega) (by omega))]
    unfold g_X9_prove_92
    by_cases h2 : b < H
    · rw [if_pos (hbH.mpr h2)]
      unfold g_X9_prove_104
      by_cases h3 : b < lo
      · rw [if_pos (nI_lt h3 (by omega))]
        exact ⟨0, Or.inl rfl, fun _ => ⟨fun q => absurd q t0, fun q => by omega⟩, rfl⟩
      · rw [if_neg (nI_nlt (by omega) (by omega))]
        exact ⟨1, Or.inr rfl, fun _ => ⟨fun _ => by omega, fun _ => rfl⟩, rfl⟩
    · rw [if_neg (fun q => h2 (hbH.mp q))]
      unfold g_X9_prove_104
      by_cases h3 : H ≤ lo
      · rw [if_pos ((hi_lt (by omega) (by omega)).mpr h3)]
        exact ⟨0, Or.inl rfl, fun q => by omega, rfl⟩
      · rw [if_neg (fun q => h3 ((hi_lt (by omega) (by omega)).mp q))]
        exact ⟨1, Or.inr rfl, fun _ => ⟨fun _ => by omega, fun _ => rfl⟩, rfl⟩
theorem Prf_add {D : DD} {m : Nat} {xs : List Int32} {x : Int32} (h : Prf D m xs) (D' : DD) (h1 : D' m 23 = nI (xs.length + 1)) (h2 : D' (m + 20) = upd (D (m + 20)) xs.length x) : Prf D' m (xs ++ [x]) := by
  refine ⟨by rw [h1]; simp, fun j y hy => ?_⟩
  rw [h2]
  by_cases hj : j = xs.length
  · subst hj
    rw [upd_same]
    simpa using hy
  · rw [upd_ne _ _ hj]
    rw [List.getElem?_append] at hy
    split at hy
    · exact h.2 j y hy
    · exfalso
      have := (List.getElem?_eq_some_iff.mp hy).1
      simp at this
      omega
set_option maxHeartbeats 4000000 in
theorem n_proveLoop {f : Nat → Int32} {m v a b : Nat} (hv : v = m + 1 ∨ v = m + 2) (hab : a ≤ b) (hb : b < 100) : ∀ (N : Nat) (ws : List WW) (xs : List Int32) (D : DD) (n : Nat), (pfs f a b (wIv ws)).length ≤ N → N < n → xs.length + N ≤ 100 → PrT f m v D → WsOk f ws → Prf D m xs → Wn m D ws → D m 21 = nI ws.length →
    ∃ D' : DD, g_X9_prove_30 n m v (nI a) (nI b) D = some D' ∧ Prf D' m (xs ++ pfs f a b (wIv ws)) ∧ FrP m D D' ∧ D' m 21 = nI 0 := by
  intro N
  induction N with
  | zero =>
    intro ws xs D n h1 h2 h3 hT hO hP hW h21
    obtain ⟨n, rfl⟩ : ∃ q, n = q + 1 := ⟨n - 1, by omega⟩
    have := wIv_len f a b ws
    have hws : ws = [] := List.eq_nil_of_length_eq_zero (by omega)
    subst hws
    refine ⟨D, ?_, by simpa [wIv, pfs] using hP, ⟨fun _ _ _ => rfl, fun _ _ _ => rfl⟩, h21⟩
    rw [g_X9_prove_30, h21, if_pos (show nI ([] : List WW).length ≤ 0 by decide)]
  | succ N ih =>
    intro ws xs D n h1 h2 h3 hT hO hP hW h21
    obtain ⟨n, rfl⟩ : ∃ q, n = q + 1 := ⟨n - 1, by omega⟩
    have hwl := wIv_len f a b ws
    cases ws with
    | nil =>
      refine ⟨D, ?_, by simpa [wIv, pfs] using hP, ⟨fun _ _ _ => rfl, fun _ _ _ => rfl⟩, h21⟩
      rw [g_X9_prove_30, h21, if_pos (show nI ([] : List WW).length ≤ 0 by decide)]
    | cons w r =>
      obtain ⟨lo, H, on, sd⟩ := w
      obtain ⟨o1, o2, o3⟩ := hO _ List.mem_cons_self
      simp only at o1 o2 o3
      subst o2; subst o3
      obtain ⟨w1, w2, w3, w4, w5⟩ := hW
      simp only at w1 w2 w3 w4
      have hH := o1.2.1
      have hlH := o1.1
      simp only [List.length_cons] at h21 hwl
      have hrl : r.length < 101 := by omega
      have hpos := pf_pos f a b lo H
      simp only [wIv, pfs, List.length_append] at h1
      rw [g_X9_prove_30, h21, if_neg (nI_nle (by omega) (by omega)), show nI (r.length + 1) - (1 : Int32) = nI r.length from nI_pred _, dlt_eq]
      generalize hE : u2 D m 21 (nI r.length) = E
      have e21 : E m 21 = nI r.length := by rw [← hE, u2_same, upd_same]
      have e23 : E m 23 = nI xs.length := by rw [← hE, u2_same, upd_ne _ _ (by omega)]; exact hP.1
      have eo : ∀ c, c ≠ m → E c = D c := fun c hc => by rw [← hE, u2_ne _ _ hc]
      rw [e21, ix_nI (by omega)]
      simp only [zck_nI (show r.length < 110 by omega) (by decide)]
      rw [eo (m + 16) (by omega), eo (m + 17) (by omega), eo (m + 18) (by omega), w1, w2, w3]
      obtain ⟨z, z1, z2, z3⟩ := n_shown (m := m) (v := v) (on := oI (bs f lo H)) (E := E) (g_X9_prove_30 n) hab hb (lo := lo) (H := H) (by omega) hH
      rw [z3]
      -- a leaf: its item, and on
      have leaf : ∀ x : Int32, pf f a b lo H = [x] → ∃ D' : DD, g_X9_prove_30 n m v (nI a) (nI b) (u2 (u2 E (m + 20) xs.length x) m 23 (nI (xs.length + 1))) = some D' ∧ Prf D' m (xs ++ pfs f a b (wIv ((lo, H, bs f lo H, 0) :: r))) ∧ FrP m D D' ∧ D' m 21 = nI 0 := by
        intro x hpf
        generalize hG : u2 (u2 E (m + 20) xs.length x) m 23 (nI (xs.length + 1)) = G
        have go : ∀ c, c ≠ m → c ≠ m + 20 → G c = D c := fun c c1 c2 => by rw [← hG, u2_ne _ _ c1, u2_ne _ _ c2, eo c c1]
        have gP : Prf G m (xs ++ [x]) := Prf_add hP G (by rw [← hG, u2_same, upd_same]) (by rw [← hG, u2_ne _ _ (by omega), u2_same, eo (m + 20) (by omega)])
        have gm : ∀ j, j ≠ 23 → G m j = E m j := fun j hj => by rw [← hG, u2_same, upd_ne _ _ hj, u2_ne _ _ (by omega)]
        rw [hpf] at h1
        obtain ⟨D', i1, i2, i3, i4⟩ := ih r (xs ++ [x]) G n (by simp only [List.length_cons, List.length_nil] at h1; omega) (by omega) (by simp only [List.length_append, List.length_cons, List.length_nil]; omega) (by
            unfold PrT
            rw [go (m + 7) (by omega) (by omega), go (m + 8) (by omega) (by omega), go (m + 13) (by omega) (by omega), go v (by omega) (by omega)]
            exact hT) (fun w hw => hO w (List.mem_cons_of_mem _ hw)) gP (Wn_congr (fun j _ => by rw [go (m + 16) (by omega) (by omega), go (m + 17) (by omega) (by omega), go (m + 18) (by omega) (by omega), go (m + 19) (by omega) (by omega)]; exact ⟨rfl, rfl, rfl, rfl⟩) w5) (by rw [gm 21 (by omega)]; exact e21)
        refine ⟨D', i1, ?_, FrP.tr ⟨fun c c1 c2 => go c c1 (by omega), fun j j1 j2 => by rw [gm j j2, ← hE, u2_same, upd_ne _ _ j1]⟩ i3, i4⟩
        simp only [wIv, pfs, hpf]
        simpa [List.append_assoc] using i2
      have hx100 : xs.length < 100 := by omega
      cases e : bs f lo H with
      | none =>
        rw [e] at leaf
        unfold g_X9_prove_112
        rw [if_pos (show oI none = -9 from rfl)]
        unfold g_X9_prove_157
        rw [e23, zck_nI hx100 (by decide), ix_nI (by omega), dlt_eq, u2_ne _ _ (by omega), e23, nI_1, dlt_eq, if_pos (show oI none = -9 from rfl)]
        exact leaf 0 (pf_none e)
      | some k =>
        rw [e] at leaf
        obtain ⟨a1, a2, a3, a4⟩ := bs_some e
        have hk : k < 100 := by omega
        have hTk := hT.1 lo H k o1 e
        unfold g_X9_prove_112
        rw [show oI (some k) = nI k from rfl, if_neg (nI_ne9 (by omega))]
        by_cases hs : lo ≤ b ∧ a < H
        · have hz : z = 1 := (z2 (by omega)).mpr hs
          subst hz
          rw [if_neg one_ne0, zck_nI hk (by decide), ix_nI (by omega), eo v (by omega), hT.2 k hk]
          show ∃ D' : DD, pcb (some (itm k (f k))) _ = _ ∧ _
          rw [pcb_some]
          unfold g_X9_prove_157
          rw [e23, zck_nI hx100 (by decide), ix_nI (by omega), dlt_eq, u2_ne _ _ (by omega), e23, nI_1, dlt_eq, if_neg (nI_ne9 (by omega)), if_neg one_ne0, zck_nI (by omega) (by decide), ix_nI (by omega)]
          generalize hG : u2 (u2 E (m + 20) xs.length (itm k (f k))) m 23 (nI (xs.length + 1)) = G
          have go : ∀ c, c ≠ m → c ≠ m + 20 → G c = D c := fun c c1 c2 => by rw [← hG, u2_ne _ _ c1, u2_ne _ _ c2, eo c c1]
          have gP : Prf G m (xs ++ [itm k (f k)]) := Prf_add hP G (by rw [← hG, u2_same, upd_same]) (by rw [← hG, u2_ne _ _ (by omega), u2_same, eo (m + 20) (by omega)])
          have gm : ∀ j, j ≠ 23 → G m j = E m j := fun j hj => by rw [← hG, u2_same, upd_ne _ _ hj, u2_ne _ _ (by omega)]
          have g21 : G m 21 = nI r.length := by rw [gm 21 (by omega)]; exact e21
          have hWG : Wn m G r := Wn_congr (fun j _ => by rw [go (m + 16) (by omega) (by omega), go (m + 17) (by omega) (by omega), go (m + 18) (by omega) (by omega), go (m + 19) (by omega) (by omega)]; exact ⟨rfl, rfl, rfl, rfl⟩) w5
          rw [go (m + 8) (by omega) (by omega), hTk.2.1, nI_1, n_want (L := r.length) (by omega) g21, vcb_some, zck_nI (by omega) (by decide)]
          have hW1 := Wn_wt (m := m) (D := G) (ws := r) (w := (k + 1, H, bs f (k + 1) H, 0)) (hi := nI H - 1) rfl hWG
          simp only at hW1
          rw [nI_0] at hW1
          generalize hX : wt m G r.length (nI (k + 1)) (nI H - 1) (oI (bs f (k + 1) H)) 0 = X at hW1 ⊢
          have xo : ∀ c, c ≠ m → c ≠ m + 16 → c ≠ m + 17 → c ≠ m + 18 → c ≠ m + 19 → X c = G c := fun c c0 c1 c2 c3 c4 => by rw [← hX]; exact wt_o _ _ _ _ _ _ c0 c1 c2 c3 c4
          have x21 : X m 21 = nI (r.length + 1) := by rw [← hX, wt_f, upd_same]
          rw [xo (m + 7) (by omega) (by omega) (by omega) (by omega) (by omega), go (m + 7) (by omega) (by omega), hTk.1, n_want (L := r.length + 1) (by omega) x21, vcb_some]
          have hW2 := Wn_wt (m := m) (D := X) (ws := (k + 1, H, bs f (k + 1) H, 0) :: r) (w := (lo, k, bs f lo k, 0)) (hi := nI k - 1) rfl hW1
          simp only [List.length_cons] at hW2
          rw [nI_0] at hW2
          generalize hY : wt m X (r.length + 1) (nI lo) (nI k - 1) (oI (bs f lo k)) 0 = Y at hW2 ⊢
          have yo : ∀ c, c ≠ m → c ≠ m + 16 → c ≠ m + 17 → c ≠ m + 18 → c ≠ m + 19 → Y c = G c := fun c c0 c1 c2 c3 c4 => by rw [← hY, wt_o _ _ _ _ _ _ c0 c1 c2 c3 c4]; exact xo c c0 c1 c2 c3 c4
          have ym : ∀ j, j ≠ 21 → Y m j = G m j := fun j hj => by rw [← hY, wt_f, upd_ne _ _ hj, ← hX, wt_f, upd_ne _ _ hj]
          have hpf : pf f a b lo H = itm k (f k) :: (pf f a b lo k ++ pf f a b (k + 1) H) := by rw [pf_some e, if_pos hs]
          rw [hpf] at h1
          obtain ⟨D', i1, i2, i3, i4⟩ := ih ((lo, k, bs f lo k, 0) :: (k + 1, H, bs f (k + 1) H, 0) :: r) (xs ++ [itm k (f k)]) Y n (by
              simp only [wIv, pfs, List.length_cons, List.length_append] at h1 ⊢
              omega) (by omega) (by simp only [List.length_append, List.length_cons, List.length_nil]; omega) (by
              unfold PrT
              rw [yo (m + 7) (by omega) (by omega) (by omega) (by omega) (by omega), yo (m + 8) (by omega) (by omega) (by omega) (by omega) (by omega), yo (m + 13) (by omega) (by omega) (by omega) (by omega) (by omega), yo v (by omega) (by omega) (by omega) (by omega) (by omega), go (m + 7) (by omega) (by omega), go (m + 8) (by omega) (by omega), go (m + 13) (by omega) (by omega), go v (by omega) (by omega)]
              exact hT) (fun w hw => by
              rcases List.mem_cons.mp hw with rfl | hw
              · exact ⟨Bd_left o1 e, rfl, rfl⟩
              · rcases List.mem_cons.mp hw with rfl | hw
                · exact ⟨Bd_right o1 e, rfl, rfl⟩
                · exact hO w (List.mem_cons_of_mem _ hw)) ⟨by rw [ym 23 (by omega)]; exact gP.1, fun j x hx => by rw [yo (m + 20) (by omega) (by omega) (by omega) (by omega) (by omega)]; exact gP.2 j x hx⟩ hW2 (by rw [← hY, wt_f, upd_same]; rfl)
          refine ⟨D', i1, ?_, FrP.tr ⟨fun c c1 c2 => (yo c c1 (by omega) (by omega) (by omega) (by omega)).trans (go c c1 (by omega)), fun j j1 j2 => by rw [ym j j1, gm j j2, ← hE, u2_same, upd_ne _ _ j1]⟩ i3, i4⟩
          simp only [wIv, pfs, hpf]
          simpa [wIv, pfs, List.append_assoc] using i2
        · have hz : z = 0 := by
            rcases z1 with q | q
            · exact q
            · exact absurd ((z2 (by omega)).mp q) hs
          subst hz
          rw [if_pos rfl, zck_nI (by omega) (by decide), ix_nI (by omega), eo (m + 13) (by omega), hTk.2.2]
          unfold g_X9_prove_157
          rw [e23, zck_nI hx100 (by decide), ix_nI (by omega), dlt_eq, u2_ne _ _ (by omega), e23, nI_1, dlt_eq, if_neg (nI_ne9 (by omega)), if_pos rfl]
          exact leaf _ (by rw [pf_some e, if_neg hs])
/-- prove: the reference's proof of a range -/
theorem n_prove {f : Nat → Int32} {m v a b : Nat} {D : DD} (hv : v = m + 1 ∨ v = m + 2) (hab : a ≤ b) (hb : b < 100) (hf : ∀ k, k < 100 → D v k = f k) (hcn : cn f 0 100 ≤ 49) : ∃ D' : DD, g_X9_prove m v (nI a) (nI b) D = some D' ∧ Prf D' m (pf f a b 0 100) ∧ FrP m D D' := by
  unfold g_X9_prove
  obtain ⟨D1, e1, e2, e3⟩ := n_make (lev := 0) hv (by decide) hf
  rw [show (0 : Int32) = nI 0 from nI_0.symm, e1, vcb_some, dlt_eq, dlt_eq]
  generalize hE : u2 (u2 D1 m 23 (nI 0)) m 21 (nI 0) = E
  have eo : ∀ c, c ≠ m → E c = D1 c := fun c c1 => by rw [← hE, u2_ne _ _ c1, u2_ne _ _ c1]
  have e21 : E m 21 = nI 0 := by rw [← hE, u2_same, upd_same]
  rw [zck_nI (by decide) (by decide), ix_nI (by decide), eo (m + 14) (by omega), e2.1, n_want (L := 0) (by decide) e21, vcb_some]
  have hW1 := Wn_wt (m := m) (D := E) (ws := []) (w := (0, 100, bs f 0 100, 0)) (hi := 99) (show (99 : Int32) = nI 100 - 1 by decide) trivial
  simp only [List.length_nil] at hW1
  generalize hX : wt m E 0 (nI 0) 99 (oI (bs f 0 100)) (nI 0) = X at hW1 ⊢
  have xo : ∀ c, c ≠ m → c ≠ m + 16 → c ≠ m + 17 → c ≠ m + 18 → c ≠ m + 19 → X c = D1 c := fun c c0 c1 c2 c3 c4 => by rw [← hX, wt_o _ _ _ _ _ _ c0 c1 c2 c3 c4, eo c c0]
  have hTr := MkOk_Tr e2
  simp only [Nat.mul_zero, Nat.zero_add] at hTr
  have hlen := pf_len f a b 100 0 100 (by omega)
  obtain ⟨D', i1, i2, i3, i4⟩ := n_proveLoop (f := f) hv hab hb 99 [(0, 100, bs f 0 100, 0)] [] X 1000 (by simp only [wIv, pfs, List.append_nil]; omega) (by omega) (by simp) (by
      unfold PrT
      rw [xo (m + 7) (by omega) (by omega) (by omega) (by omega) (by omega), xo (m + 8) (by omega) (by omega) (by omega) (by omega) (by omega), xo (m + 13) (by omega) (by omega) (by omega) (by omega) (by omega), xo v (by omega) (by omega) (by omega) (by omega) (by omega)]
      exact ⟨hTr, fun k hk => by rw [e3.1 v (by omega) (by omega)]; exact hf k hk⟩) (fun w hw => by
      rw [List.mem_singleton.mp hw]
      exact ⟨Bd_top f, rfl, rfl⟩) ⟨by rw [← hX, wt_f, upd_ne _ _ (by omega), ← hE, u2_same, upd_ne _ _ (by omega), u2_same, upd_same]; rfl, fun j x hx => by simp at hx⟩ hW1 (by rw [← hX, wt_f, upd_same]; rfl)
  refine ⟨D', i1, by simpa [wIv, pfs] using i2, e3.P.tr (FrP.tr ⟨fun c c1 c2 => xo c c1 (by omega) (by omega) (by omega) (by omega), fun j j1 j2 => by rw [← hX, wt_f, upd_ne _ _ j1, ← hE, u2_same, upd_ne _ _ j1, u2_same, upd_ne _ _ j2]⟩ i3)⟩
