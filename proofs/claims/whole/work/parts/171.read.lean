/-! ===== reading a row of items: what it shows, why it is not believed ===== -/
abbrev RW : Type := Nat × Nat × Option Nat
def under (x : Nat) : Option Nat → Bool
  | none => true
  | some p => decide (rk x < rk p)
def rd (a b : Nat) : List Int32 → List RW → (Nat → Int32) → (Nat → Int32) → Nat × (Nat → Int32) × (Nat → Int32)
  | [], [], s, h => (0, s, h)
  | _ :: _, [], s, h => (2, s, h)
  | [], _ :: _, s, h => (1, s, h)
  | x :: xs, w :: st, s, h =>
    if 0 ≤ x then
      if x = 0 then rd a b xs st s (upd h w.2.1 x)
      else if w.2.1 ≤ w.1 then (3, s, h)
      else if w.1 ≤ b ∧ a < w.2.1 then (5, s, h)
      else rd a b xs st s (upd h w.2.1 x)
    else if ¬ (w.1 ≤ kx x ∧ kx x < w.2.1) then (3, s, h)
    else if under (kx x) w.2.2 = false then (4, s, h)
    else rd a b xs ((w.1, kx x, some (kx x)) :: (kx x + 1, w.2.1, some (kx x)) :: st) (upd s (kx x) (vx x)) h
def pR : List (Nat × Nat) → List RW
  | [] => []
  | i :: r => (i.1 + 1, i.2, some i.1) :: pR r
theorem cnF_upd {f : Nat → Int32} {k : Nat} {v : Int32} (hv : v ≠ -9) (lo : Nat) : ∀ d, cnF (upd f k v) lo d = cnF f lo d + (if lo ≤ k ∧ k < lo + d ∧ f k = -9 then 1 else 0)
  | 0 => by rw [if_neg (by omega)]; rfl
  | d + 1 => by
    rw [cnF, cnF, cnF_upd hv lo d]
    by_cases h : lo + d = k
    · subst h
      rw [upd_same, if_neg hv, if_neg (by omega)]
      by_cases e : f (lo + d) = -9
      · rw [if_pos e, if_pos ⟨by omega, by omega, e⟩]
      · rw [if_neg e, if_neg (fun q => e q.2.2)]
    · rw [upd_ne _ _ h]
      have : (lo ≤ k ∧ k < lo + d ∧ f k = -9) ↔ (lo ≤ k ∧ k < lo + (d + 1) ∧ f k = -9) := ⟨fun ⟨a, b, c⟩ => ⟨a, by omega, c⟩, fun ⟨a, b, c⟩ => ⟨a, by omega, c⟩⟩
      simp only [this]
      omega
theorem cn_upd {f : Nat → Int32} {k : Nat} {v : Int32} (hv : v ≠ -9) (hk : k < 100) : cn (upd f k v) 0 100 = cn f 0 100 + (if f k = -9 then 1 else 0) := by
  unfold cn
  rw [cnF_upd hv]
  congr 1
  by_cases e : f k = -9
  · rw [if_pos e, if_pos ⟨by omega, by omega, e⟩]
  · rw [if_neg e, if_neg (fun q => e q.2.2)]
/-- pairs as they stand in memory: values, and how many -/
def Prs (D : DD) (p : Nat) (f : Nat → Int32) : Prop := (∀ k, k < 100 → D (p + 1) k = f k) ∧ D p 1 = nI (cn f 0 100)
theorem Prs.congr {D D' : DD} {p : Nat} {f : Nat → Int32} (h0 : D' p = D p) (h1 : D' (p + 1) = D (p + 1)) (h : Prs D p f) : Prs D' p f := ⟨fun k hk => by rw [h1]; exact h.1 k hk, by rw [h0]; exact h.2⟩
theorem n_give {D : DD} {p k : Nat} {f : Nat → Int32} {v : Int32} (h : Prs D p f) (hk : k < 100) (hv : v ≠ -9) : ∃ D' : DD, g_X2_give p (nI k) v D = some D' ∧ Prs D' p (upd f k v) ∧ ∀ b, b ≠ p → b ≠ p + 1 → D' b = D b := by
  unfold g_X2_give
  rw [n_isNumber hk, pcb_some, if_neg one_ne0, zck_nI hk (by decide), ix_nI (by omega), h.1 k hk]
  by_cases e : f k = -9
  · rw [if_pos e, h.2, nI_1, dlt_eq]
    unfold g_X2_give_28
    rw [zck_nI hk (by decide), ix_nI (by omega), dlt_eq]
    refine ⟨_, rfl, ⟨fun j hj => ?_, ?_⟩, fun b b1 b2 => by rw [u2_ne _ _ b2, u2_ne _ _ b1]⟩
    · rw [u2_same, u2_ne _ _ (by omega)]
      by_cases hjk : j = k
      · rw [hjk, upd_same, upd_same]
      · rw [upd_ne _ _ hjk, upd_ne _ _ hjk]; exact h.1 j hj
    · rw [u2_ne _ _ (by omega), u2_same, upd_same, cn_upd hv hk, if_pos e]
  · rw [if_neg e]
    unfold g_X2_give_28
    rw [zck_nI hk (by decide), ix_nI (by omega), dlt_eq]
    refine ⟨_, rfl, ⟨fun j hj => ?_, ?_⟩, fun b b1 b2 => by rw [u2_ne _ _ b2]⟩
    · rw [u2_same]
      by_cases hjk : j = k
      · rw [hjk, upd_same, upd_same]
      · rw [upd_ne _ _ hjk, upd_ne _ _ hjk]; exact h.1 j hj
    · rw [u2_ne _ _ (by omega), cn_upd hv hk, if_neg e, Nat.add_zero]; exact h.2
def Gp (D : DD) (t : Nat) (h : Nat → Int32) : Prop := ∀ g, g ≤ 100 → D (t + 4) g = h g
theorem n_hide {D : DD} {t H : Nat} {h : Nat → Int32} (hg : Gp D t h) (hH : H ≤ 100) (x : Int32) : ∃ D' : DD, g_X7_hide t (nI H) x D = some D' ∧ Gp D' t (upd h H x) ∧ ∀ b, b ≠ t + 4 → D' b = D b := by
  unfold g_X7_hide
  rw [if_neg (nI_pos (by omega)), if_neg (show ¬ (100 : Int32) < nI H from nI_nlt (a := 100) hH (by decide)), zck_nI (by omega) (by decide), ix_nI (by omega), dlt_eq]
  refine ⟨_, rfl, fun g hg2 => ?_, fun b b1 => by rw [u2_ne _ _ b1]⟩
  rw [u2_same]
  by_cases e : g = H
  · rw [e, upd_same, upd_same]
  · rw [upd_ne _ _ e, upd_ne _ _ e]; exact hg g hg2
theorem n_itemAt {D : DD} {w : Nat} {xs : List Int32} {j : Nat} {x : Int32} (h : Itm D w xs) (hl : xs.length ≤ 100) (hx : xs[j]? = some x) : g_X1_itemAt w (nI j) D = some x := by
  have hj : j < xs.length := (List.getElem?_eq_some_iff.mp hx).1
  unfold g_X1_itemAt g_X1_hasPlace
  rw [if_neg (nI_pos (by omega)), h.1, if_neg (nI_ge hj (by omega)), pcb_some, if_neg one_ne0, zck_nI (by omega) (by decide), ix_nI (by omega), h.2 j x hx]
theorem hi_1 (H : Nat) : nI H - (1 : Int32) + 1 = nI H := Int32.sub_add_cancel _ _
/-- the reader's own state while it reads -/
def RdI (r : Nat) (xs : List Int32) (D : DD) (ps : List (Nat × Nat)) (s h : Nat → Int32) : Prop := Itm D (r + 1) xs ∧ Prs D (r + 4) s ∧ Gp D (r + 6) h ∧ D (r + 15) 2 = nI ps.length ∧ Pnd D (r + 15) ps
def FrR (r : Nat) (D D' : DD) : Prop := ∀ c, c ≠ r + 4 → c ≠ r + 5 → c ≠ r + 10 → c ≠ r + 15 → c ≠ r + 16 → c ≠ r + 17 → D' c = D c
theorem FrR.tr {r : Nat} {D D' D'' : DD} (h1 : FrR r D D') (h2 : FrR r D' D'') : FrR r D D'' := fun c a b d e f g => (h2 c a b d e f g).trans (h1 c a b d e f g)
set_option maxHeartbeats 4000000 in
theorem n_takeLoop {r a b : Nat} {xs : List Int32} (ha : a < 100) (hb : b < 100) (hxs : ∀ x ∈ xs, isIt x) (hxl : xs.length ≤ 100) : ∀ (rest pre : List Int32) (lo H : Nat) (par : Option Nat) (ps : List (Nat × Nat)) (s h : Nat → Int32) (D : DD) (n : Nat), xs = pre ++ rest → rest.length < n → lo ≤ 100 → H ≤ 100 → (∀ p, par = some p → p < 100) → ps.length ≤ pre.length → (∀ i ∈ ps, i.1 < 100 ∧ i.2 ≤ 100) → RdI r xs D ps s h →
    ∃ (code : Nat) (s' h' : Nat → Int32) (D' : DD), rd a b rest ((lo, H, par) :: pR ps) s h = (code, s', h') ∧ g_X5_takeIn_34 n r (nI a) (nI b) (oI par) (nI lo) (nI H - 1) (nI pre.length) D = some (nI code, D') ∧ code ≤ 5 ∧ Itm D' (r + 1) xs ∧ Prs D' (r + 4) s' ∧ Gp D' (r + 6) h' ∧ FrR r D D' := by
  intro rest
  induction rest with
  | nil =>
    intro pre lo H par ps s h D n hx hn hlo hH hpar hps hpv hI
    obtain ⟨n, rfl⟩ : ∃ q, n = q + 1 := ⟨n - 1, by omega⟩
    obtain ⟨i1, i2, i3, i4, i5⟩ := hI
    refine ⟨1, s, h, D, rfl, ?_, by decide, i1, i2, i3, fun _ _ _ _ _ _ _ => rfl⟩
    rw [g_X5_takeIn_34]
    show pcb (some (D (r + 1) 1)) _ = _
    rw [pcb_some, i1.1, hx, List.append_nil, if_pos (Int32.le_refl _)]
    rfl
  | cons x rest ih =>
    intro pre lo H par ps s h D n hx hn hlo hH hpar hps hpv hI
    obtain ⟨n, rfl⟩ : ∃ q, n = q + 1 := ⟨n - 1, by omega⟩
    obtain ⟨i1, i2, i3, i4, i5⟩ := id hI
    have hlen : xs.length = pre.length + (rest.length + 1) := by rw [hx]; simp
    have hxj : xs[pre.length]? = some x := by rw [hx]; simp
    have hxi : isIt x := hxs x (List.mem_of_getElem? hxj)
    have hx2 : xs = (pre ++ [x]) ++ rest := by rw [hx]; simp
    have hpl : (pre ++ [x]).length = pre.length + 1 := by simp
    rw [g_X5_takeIn_34]
    show ∃ (code : Nat) (s' h' : Nat → Int32) (D' : DD), _ ∧ pcb (some (D (r + 1) 1)) _ = _ ∧ _
    rw [pcb_some, i1.1, if_neg (nI_ge (by omega) (by omega)), n_itemAt i1 hxl hxj, pcb_some]
    -- a leaf that is fine
    have leaf : 0 ≤ x → (rd a b (x :: rest) ((lo, H, par) :: pR ps) s h = rd a b rest (pR ps) s (upd h H x)) → ∃ (code : Nat) (s' h' : Nat → Int32) (D' : DD), rd a b (x :: rest) ((lo, H, par) :: pR ps) s h = (code, s', h') ∧ g_X5_takeIn_104 (g_X5_takeIn_34 n) r (nI a) (nI b) (nI lo) (nI H - 1) (nI pre.length) x 0 D = some (nI code, D') ∧ code ≤ 5 ∧ Itm D' (r + 1) xs ∧ Prs D' (r + 4) s' ∧ Gp D' (r + 6) h' ∧ FrR r D D' := by
      intro hx0 hrd
      rw [hrd]
      unfold g_X5_takeIn_104
      rw [if_pos rfl, if_pos hx0, hi_1]
      obtain ⟨D1, e1, e2, e3⟩ := n_hide i3 hH x
      rw [e1, vcb_some]
      have q1 : D1 (r + 15) = D (r + 15) := e3 _ (by omega)
      have q2 : D1 (r + 15 + 1) = D (r + 15 + 1) := e3 _ (by omega)
      have q3 : D1 (r + 15 + 2) = D (r + 15 + 2) := e3 _ (by omega)
      have hI1 : Itm D1 (r + 1) xs := i1.congr (e3 _ (by omega)) (e3 _ (by omega))
      have hP1 : Prs D1 (r + 4) s := i2.congr (e3 _ (by omega)) (e3 _ (by omega))
      have hF1 : FrR r D D1 := fun c _ _ c3 _ _ _ => e3 c c3
      cases ps with
      | nil =>
        rw [n_pop0 (by rw [q1]; exact i4), dcb_some, if_pos rfl]
        show ∃ (code : Nat) (s' h' : Nat → Int32) (D' : DD), _ ∧ pcb (some (D1 (r + 1) 1)) _ = _ ∧ _
        rw [pcb_some, hI1.1, nI_1]
        cases rest with
        | nil =>
          rw [if_pos (nI_le (by simp only [List.length_nil] at hlen; omega) (by omega))]
          exact ⟨0, s, upd h H x, D1, rfl, rfl, by decide, hI1, hP1, e2, hF1⟩
        | cons y ys =>
          rw [if_neg (nI_ge (by simp only [List.length_cons] at hlen; omega) (by omega))]
          exact ⟨2, s, upd h H x, D1, rfl, rfl, by decide, hI1, hP1, e2, hF1⟩
      | cons i ps2 =>
        obtain ⟨k, H2⟩ := i
        obtain ⟨v1, v2⟩ := hpv (k, H2) List.mem_cons_self
        simp only at v1 v2
        simp only [List.length_cons] at hps
        obtain ⟨D2, f1, f2, f3, f4, f5, f6⟩ := n_pop (D := D1) (by rw [q1]; exact i4) (Pnd_congr (fun j _ => by rw [q2, q3]; exact ⟨rfl, rfl⟩) i5) (by omega)
        rw [f1, dcb_some, if_neg one_ne0, n_pkey, pcb_some, n_phi, pcb_some, f4, f5, nI_1]
        unfold g_X5_takeIn_221
        rw [nI_1]
        have := ih (pre ++ [x]) (k + 1) H2 (some k) ps2 s (upd h H x) D2 n hx2 (by simp only [List.length_cons] at hn; omega) (by omega) v2 (fun p hp => by cases hp; exact v1) (by rw [hpl]; omega) (fun i hi => hpv i (List.mem_cons_of_mem _ hi)) ⟨hI1.congr (f6 _ (by omega)) (f6 _ (by omega)), hP1.congr (f6 _ (by omega)) (f6 _ (by omega)), fun g hg => by rw [f6 _ (by omega)]; exact e2 g hg, f2, f3⟩
        rw [hpl] at this
        obtain ⟨code, s', h', D', g1, g2, g3, g4, g5, g6, g7⟩ := this
        exact ⟨code, s', h', D', g1, g2, g3, g4, g5, g6, hF1.tr (fun c c1 c2 c3 c4 c5 c6 => (g7 c c1 c2 c3 c4 c5 c6).trans (f6 c c4))⟩
    by_cases hx0 : 0 ≤ x
    · rw [if_pos hx0]
      -- the leaf's reason
      have via : ∀ z : Int32, (z = 0 ∨ z = 1) → ((z = 1) ↔ (lo ≤ b ∧ a < H)) → ∃ (code : Nat) (s' h' : Nat → Int32) (D' : DD), rd a b (x :: rest) ((lo, H, par) :: pR ps) s h = (code, s', h') ∧ g_X5_takeIn_101 (g_X5_takeIn_34 n) r (nI a) (nI b) (nI lo) (nI H - 1) (nI pre.length) x x (nI lo) (nI H - 1) z D = some (nI code, D') ∧ code ≤ 5 ∧ Itm D' (r + 1) xs ∧ Prs D' (r + 4) s' ∧ Gp D' (r + 6) h' ∧ FrR r D D' := by
        intro z hz hzm
        have hle : (nI lo ≤ nI H - 1) ↔ lo < H := by rw [← Int32.not_lt, hi_lt (by omega) (by omega)]; omega
        unfold g_X5_takeIn_101 g_X5_reasonOfLeaf
        by_cases h1 : x = 0
        · rw [if_pos h1, pcb_some]
          exact leaf hx0 (by rw [rd, if_pos hx0, if_pos h1])
        · rw [if_neg h1]
          by_cases h2 : lo < H
          · rw [if_pos (hle.mpr h2)]
            by_cases h3 : lo ≤ b ∧ a < H
            · rw [hzm.mpr h3, if_neg one_ne0, pcb_some]
              refine ⟨5, s, h, D, by rw [rd, if_pos hx0, if_neg h1, if_neg (by simp only; omega), if_pos h3], ?_, by decide, i1, i2, i3, fun _ _ _ _ _ _ _ => rfl⟩
              unfold g_X5_takeIn_104
              rw [if_neg (by decide)]
              rfl
            · have hz0 : z = 0 := hz.elim id (fun q => absurd (hzm.mp q) h3)
              rw [hz0, if_pos rfl, pcb_some]
              exact leaf hx0 (by rw [rd, if_pos hx0, if_neg h1, if_neg (by simp only; omega), if_neg h3])
          · rw [if_neg (fun q => h2 (hle.mp q)), pcb_some]
            refine ⟨3, s, h, D, by rw [rd, if_pos hx0, if_neg h1, if_pos (by simp only; omega)], ?_, by decide, i1, i2, i3, fun _ _ _ _ _ _ _ => rfl⟩
            unfold g_X5_takeIn_104
            rw [if_neg (by decide)]
            rfl
      by_cases c1 : b < lo
      · rw [if_pos (nI_lt c1 (by omega))]
        exact via 0 (Or.inl rfl) ⟨fun q => absurd q (by decide), fun q => by omega⟩
      · rw [if_neg (nI_nlt (by omega) (by omega))]
        by_cases c2 : a < H
        · rw [if_neg (fun q => (hi_le (by omega) (by omega)).mp q c2)]
          exact via 1 (Or.inr rfl) ⟨fun _ => ⟨by omega, c2⟩, fun _ => rfl⟩
        · rw [if_pos ((hi_le (by omega) (by omega)).mpr c2)]
          exact via 0 (Or.inl rfl) ⟨fun q => absurd q (by decide), fun q => absurd q.2 c2⟩
    · rw [if_neg hx0]
      obtain ⟨hk1, hk2⟩ := n_keyOf hxi hx0
      show ∃ (code : Nat) (s' h' : Nat → Int32) (D' : DD), _ ∧ pcb (some (((-100 : Int32) - x) / (100 : Int32))) _ = _ ∧ _
      rw [pcb_some, hk1]
      unfold g_X5_reasonOfNode
      have stop : ∀ c : Nat, c ≠ 0 → c ≤ 5 → rd a b (x :: rest) ((lo, H, par) :: pR ps) s h = (c, s, h) → ∃ (code : Nat) (s' h' : Nat → Int32) (D' : DD), rd a b (x :: rest) ((lo, H, par) :: pR ps) s h = (code, s', h') ∧ g_X5_takeIn_104 (g_X5_takeIn_34 n) r (nI a) (nI b) (nI lo) (nI H - 1) (nI pre.length) x (nI c) D = some (nI code, D') ∧ code ≤ 5 ∧ Itm D' (r + 1) xs ∧ Prs D' (r + 4) s' ∧ Gp D' (r + 6) h' ∧ FrR r D D' := by
        intro c hc hc5 hrd
        refine ⟨c, s, h, D, hrd, ?_, hc5, i1, i2, i3, fun _ _ _ _ _ _ _ => rfl⟩
        unfold g_X5_takeIn_104
        rw [if_neg (nI_ne0 (by omega) (by omega))]
      by_cases c1 : kx x < lo
      · rw [if_pos (nI_lt c1 (by omega)), pcb_some]
        exact stop 3 (by decide) (by decide) (by rw [rd, if_neg hx0, if_pos (by simp only; omega)])
      · rw [if_neg (nI_nlt (by omega) (by omega))]
        have hle : (nI (kx x) ≤ nI H - 1) ↔ kx x < H := by rw [← Int32.not_lt, hi_lt (by omega) (by omega)]; omega
        by_cases c2 : kx x < H
        · rw [if_pos (hle.mpr c2)]
          have fine : under (kx x) par = true → ∃ (code : Nat) (s' h' : Nat → Int32) (D' : DD), rd a b (x :: rest) ((lo, H, par) :: pR ps) s h = (code, s', h') ∧ g_X5_takeIn_104 (g_X5_takeIn_34 n) r (nI a) (nI b) (nI lo) (nI H - 1) (nI pre.length) x 0 D = some (nI code, D') ∧ code ≤ 5 ∧ Itm D' (r + 1) xs ∧ Prs D' (r + 4) s' ∧ Gp D' (r + 6) h' ∧ FrR r D D' := by
            intro hu
            have hrd : rd a b (x :: rest) ((lo, H, par) :: pR ps) s h = rd a b rest ((lo, kx x, some (kx x)) :: pR ((kx x, H) :: ps)) (upd s (kx x) (vx x)) h := by
              rw [rd, if_neg hx0, if_neg (by simp only; omega), if_neg (by rw [hu]; decide)]
              rfl
            rw [hrd]
            unfold g_X5_takeIn_104
            rw [if_pos rfl, if_neg hx0]
            show ∃ (code : Nat) (s' h' : Nat → Int32) (D' : DD), _ ∧ pcb (some (((-100 : Int32) - x) / (100 : Int32))) _ = _ ∧ _
            rw [pcb_some]
            show ∃ (code : Nat) (s' h' : Nat → Int32) (D' : DD), _ ∧ pcb (some (((-100 : Int32) - x) - ((-100 : Int32) - x) / (100 : Int32) * (100 : Int32))) _ = _ ∧ _
            rw [pcb_some, n_valOf hxi hx0, hk1]
            obtain ⟨D1, e1, e2, e3⟩ := n_give i2 hk2 (vx_ne9 x)
            have q1 : D1 (r + 15) = D (r + 15) := e3 _ (by omega) (by omega)
            have q2 : D1 (r + 15 + 1) = D (r + 15 + 1) := e3 _ (by omega) (by omega)
            have q3 : D1 (r + 15 + 2) = D (r + 15 + 2) := e3 _ (by omega) (by omega)
            obtain ⟨D2, f1, f2, f3, f4⟩ := n_push (D := D1) (k := kx x) (H := H) (hi := nI H - 1) (by rw [q1]; exact i4) (Pnd_congr (fun j _ => by rw [q2, q3]; exact ⟨rfl, rfl⟩) i5) (by omega) rfl
            rw [e1, vcb_some, f1, vcb_some]
            unfold g_X5_takeIn_221
            rw [nI_1]
            have := ih (pre ++ [x]) lo (kx x) (some (kx x)) ((kx x, H) :: ps) (upd s (kx x) (vx x)) h D2 n hx2 (by simp only [List.length_cons] at hn; omega) hlo (by omega) (fun p hp => by cases hp; exact hk2) (by rw [hpl]; simp only [List.length_cons]; omega) (fun i hi => by
              rcases List.mem_cons.mp hi with rfl | hi
              · exact ⟨hk2, hH⟩
              · exact hpv i hi) ⟨(i1.congr (e3 _ (by omega) (by omega)) (e3 _ (by omega) (by omega))).congr (f4 _ (by omega) (by omega) (by omega)) (f4 _ (by omega) (by omega) (by omega)), e2.congr (f4 _ (by omega) (by omega) (by omega)) (f4 _ (by omega) (by omega) (by omega)), fun g hg => by rw [f4 _ (by omega) (by omega) (by omega), e3 _ (by omega) (by omega)]; exact i3 g hg, f2, f3⟩
            rw [hpl] at this
            obtain ⟨code, s', h', D', g1, g2, g3, g4, g5, g6, g7⟩ := this
            exact ⟨code, s', h', D', g1, g2, g3, g4, g5, g6, fun c c1 c2 c3 c4 c5 c6 => ((g7 c c1 c2 c3 c4 c5 c6).trans (f4 c c4 (by omega) (by omega))).trans (e3 c c1 (by omega))⟩
          cases par with
          | none =>
            rw [show oI none = -9 from rfl, n_isNumber9, pcb_some, if_pos rfl, pcb_some]
            exact fine rfl
          | some p =>
            have hp := hpar p rfl
            rw [show oI (some p) = nI p from rfl, n_isNumber hp, pcb_some, if_neg one_ne0, n_above8 hp hk2, pcb_some]
            by_cases c3 : rk (kx x) < rk p
            · rw [if_pos c3, if_neg one_ne0, pcb_some]
              exact fine (by simp [under, c3])
            · rw [if_neg c3, if_pos rfl, pcb_some]
              exact stop 4 (by decide) (by decide) (by rw [rd, if_neg hx0, if_neg (by simp only; omega), if_pos (by simp [under, c3])])
        · rw [if_neg (fun q => c2 (hle.mp q)), pcb_some]
          exact stop 3 (by decide) (by decide) (by rw [rd, if_neg hx0, if_pos (by simp only; omega)])
