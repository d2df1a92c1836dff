/-! ===== the keys that were read, in a row ===== -/
theorem cn_s (s : Nat → Int32) (k : Nat) : cn s 0 (k + 1) = cn s 0 k + if s k = -9 then 0 else 1 := by
  rw [cn_add (f := s) (lo := 0) (k := k) (hi := k + 1) (by omega) (by omega), cn_one]
theorem cn_mono (s : Nat → Int32) {k l : Nat} (h : k ≤ l) : cn s 0 k ≤ cn s 0 l := by
  rw [cn_add (f := s) (lo := 0) (k := k) (hi := l) (by omega) h]; omega
theorem cn_lt {s : Nat → Int32} {k l : Nat} (h : k < l) (hk : s k ≠ -9) : cn s 0 k < cn s 0 l := by
  have h1 := cn_s s k
  rw [if_neg hk] at h1
  have := cn_mono s (show k + 1 ≤ l by omega)
  omega
theorem cn_100 (s : Nat → Int32) : cn s 0 100 ≤ 100 := cn_le s 0 100
theorem cn_none {s : Nat → Int32} {lo hi : Nat} (hl : lo ≤ hi) (e : bs s lo hi = none) : cn s 0 hi = cn s 0 lo := by
  have : ∀ d, lo + d ≤ hi → cn s 0 (lo + d) = cn s 0 lo := by
    intro d
    induction d with
    | zero => intro _; rfl
    | succ d ih => intro h; rw [← Nat.add_assoc, cn_s, ih (by omega), if_pos (bs_none e _ (by omega) (by omega))]; omega
  have h1 := this (hi - lo) (by omega)
  rw [show lo + (hi - lo) = hi by omega] at h1
  exact h1
theorem pos_key {s : Nat → Int32} : ∀ (n p : Nat), p < cn s 0 n → ∃ k, k < n ∧ s k ≠ -9 ∧ cn s 0 k = p := by
  intro n
  induction n with
  | zero => intro p hp; exact absurd hp (by have := cn_le s 0 0; omega)
  | succ n ih =>
    intro p hp
    rw [cn_s] at hp
    by_cases e : s n = -9
    · rw [if_pos e] at hp
      obtain ⟨k, a, b, c⟩ := ih p (by omega)
      exact ⟨k, by omega, b, c⟩
    · rw [if_neg e] at hp
      by_cases q : p = cn s 0 n
      · exact ⟨n, by omega, e, q.symm⟩
      · obtain ⟨k, a, b, c⟩ := ih p (by omega)
        exact ⟨k, by omega, b, c⟩
theorem cn_inj {s : Nat → Int32} {k l : Nat} (hk : s k ≠ -9) (hl : s l ≠ -9) (e : cn s 0 k = cn s 0 l) : k = l := by
  rcases Nat.lt_trichotomy k l with q | q | q
  · have := cn_lt q hk; omega
  · exact q
  · have := cn_lt q hl; omega
def Gk (s : Nat → Int32) (g : Nat) : Prop := g = 100 ∨ (g < 100 ∧ s g ≠ -9)
theorem Gk_inj {s : Nat → Int32} {k l : Nat} (hk : Gk s k) (hl : Gk s l) (e : cn s 0 k = cn s 0 l) : k = l := by
  rcases hk with hk | ⟨hk, hk'⟩
  · rcases hl with hl | ⟨hl, hl'⟩
    · omega
    · have := cn_lt (s := s) (show l < k by omega) hl'; omega
  · rcases hl with hl | ⟨hl, hl'⟩
    · have := cn_lt (s := s) (show k < l by omega) hk'; omega
    · exact cn_inj hk' hl' e
theorem Gk_le {s : Nat → Int32} {k : Nat} (hk : Gk s k) : cn s 0 k ≤ 100 := by
  have h1 := cn_100 s
  have h2 : k ≤ 100 := by rcases hk with q | q <;> omega
  have := cn_mono s h2
  omega
def RowP (D : DD) (m : Nat) (s : Nat → Int32) (k : Nat) : Prop := D m 41 = nI (cn s 0 k) ∧ ∀ j, j < k → s j ≠ -9 → D (m + 30) (cn s 0 j) = nI j ∧ D (m + 31) (cn s 0 j) = s j
def RowK (D : DD) (m : Nat) (s g : Nat → Int32) : Prop := RowP D m s 100 ∧ ∀ k, Gk s k → D (m + 32) (cn s 0 k) = g k
theorem RowP.congr {D D' : DD} {m k : Nat} {s : Nat → Int32} (h : RowP D m s k) (h0 : D' m 41 = D m 41) (h1 : D' (m + 30) = D (m + 30)) (h2 : D' (m + 31) = D (m + 31)) : RowP D' m s k := ⟨by rw [h0]; exact h.1, fun j hj hs => by rw [h1, h2]; exact h.2 j hj hs⟩
theorem Ks.congr {D D' : DD} {m c : Nat} {s : Nat → Int32} {kf : Nat → Nat} (h : Ks D m s c kf) (h1 : D' (m + 23) = D (m + 23)) (h2 : D' (m + 24) = D (m + 24)) : Ks D' m s c kf := ⟨fun i hi => by rw [h1, h2]; exact h.1 i hi, h.2⟩
def lw (m : Nat) (D : DD) (p k : Nat) (v : Int32) : DD := u2 (u2 (u2 D (m + 30) p (nI k)) (m + 31) p v) m 41 (nI (p + 1))
theorem lay_no {m c k : Nat} {s : Nat → Int32} {kf : Nat → Nat} {D : DD} (kk : Nat → Int32 → DD → Option DD) (hK : Ks D m s c kf) (hc : c ≤ 100) (h36 : D m 36 = nI c) (hk : k < 100) : ∀ (d i n : Nat), i + d = c → d < n → (∀ j, i ≤ j → j < c → kf j ≠ k) → g_X9_layRow_25 kk n m (nI k) (nI i) D = kk m (nI (k + 1)) D := by
  intro d
  induction d with
  | zero =>
    intro i n h1 h2 h3
    obtain ⟨n, rfl⟩ : ∃ q, n = q + 1 := ⟨n - 1, by omega⟩
    rw [g_X9_layRow_25, h36, if_pos (nI_le (by omega) (by omega)), nI_1]
  | succ d ih =>
    intro i n h1 h2 h3
    obtain ⟨n, rfl⟩ : ∃ q, n = q + 1 := ⟨n - 1, by omega⟩
    have hi : i < c := by omega
    obtain ⟨k1, k2, k3, k4⟩ := hK.1 i hi
    rw [g_X9_layRow_25, h36, if_neg (nI_ge hi (by omega)), zck_nI (by omega) (by decide), ix_nI (by omega), k2, if_neg (fun q => h3 i (Nat.le_refl _) hi ((nI_eq (by omega) (by omega)).mp q))]
    unfold g_X9_layRow_78
    rw [nI_1]
    exact ih (i + 1) n (by omega) (by omega) (fun j a b => h3 j (by omega) b)
theorem lay_yes {m c k p q : Nat} {s : Nat → Int32} {kf : Nat → Nat} {D : DD} (kk : Nat → Int32 → DD → Option DD) (hK : Ks D m s c kf) (hc : c ≤ 100) (h36 : D m 36 = nI c) (h41 : D m 41 = nI p) (hp : p < 102) (hk : k < 100) (hq : q < c) (eq : kf q = k) : ∀ (d i n : Nat), i + d = c → d < n → i ≤ q → g_X9_layRow_25 kk n m (nI k) (nI i) D = kk m (nI (k + 1)) (lw m D p k (s k)) := by
  intro d
  induction d with
  | zero => intro i n h1 h2 h3; omega
  | succ d ih =>
    intro i n h1 h2 h3
    obtain ⟨n, rfl⟩ : ∃ q, n = q + 1 := ⟨n - 1, by omega⟩
    have hi : i < c := by omega
    obtain ⟨k1, k2, k3, k4⟩ := hK.1 i hi
    rw [g_X9_layRow_25, h36, if_neg (nI_ge hi (by omega)), zck_nI (by omega) (by decide), ix_nI (by omega), k2]
    unfold g_X9_layRow_78
    by_cases e : i = q
    · subst e
      rw [eq, if_pos rfl, h41, zck_nI hp (by decide), dlt_eq, zck_nI (by omega) (by decide), ix_nI (by omega), u2_ne _ _ (by omega), h41, zck_nI hp (by decide), dlt_eq, ix_nI (by omega), u2_ne _ _ (by omega), u2_ne _ _ (by omega), u2_ne _ _ (by omega), h41, nI_1, nI_1, dlt_eq, k3, eq]
      have hlw : u2 (u2 (u2 D (m + 30) p (nI k)) (m + 31) p (s k)) m 41 (nI (p + 1)) = lw m D p k (s k) := rfl
      rw [hlw]
      refine lay_no kk (hK.congr ?_ ?_) hc ?_ hk (c - (i + 1)) (i + 1) n (by omega) (by omega) (fun j a b ej => ?_)
      · unfold lw; rw [u2_ne _ _ (by omega), u2_ne _ _ (by omega), u2_ne _ _ (by omega)]
      · unfold lw; rw [u2_ne _ _ (by omega), u2_ne _ _ (by omega), u2_ne _ _ (by omega)]
      · unfold lw; rw [u2_same, upd_ne _ _ (by omega), u2_ne _ _ (by omega), u2_ne _ _ (by omega)]; exact h36
      · have := hK.2.1 j i b hi (by rw [ej, eq]); omega
    · rw [if_neg (fun z => e (hK.2.1 i q hi hq (by rw [eq]; exact (nI_eq (by omega) (by omega)).mp z)))]
      rw [nI_1]
      exact ih (i + 1) n (by omega) (by omega) (by omega)
def FrL (m : Nat) (D D' : DD) : Prop := (∀ c, c ≠ m → (c < m + 30 ∨ m + 32 < c) → D' c = D c) ∧ ∀ j, j ≠ 41 → D' m j = D m j
theorem FrL.tr {m : Nat} {D D' D'' : DD} (h1 : FrL m D D') (h2 : FrL m D' D'') : FrL m D D'' := ⟨fun c a b => (h2.1 c a b).trans (h1.1 c a b), fun j a => (h2.2 j a).trans (h1.2 j a)⟩
theorem n_lay1 {m c : Nat} {s : Nat → Int32} {kf : Nat → Nat} (hc : c ≤ 100) : ∀ (d k n : Nat) (D : DD), k + d = 100 → d < n → Ks D m s c kf → D m 36 = nI c → RowP D m s k → ∃ D' : DD, g_X9_layRow_17 n m (nI k) D = g_X9_layRow_92 1000 m 0 D' ∧ RowP D' m s 100 ∧ FrL m D D' ∧ D' (m + 32) = D (m + 32) := by
  intro d
  induction d with
  | zero =>
    intro k n D h1 h2 hK h36 hR
    obtain ⟨n, rfl⟩ : ∃ q, n = q + 1 := ⟨n - 1, by omega⟩
    have hk : k = 100 := by omega
    subst hk
    rw [g_X9_layRow_17, if_pos nI_100']
    exact ⟨D, rfl, hR, ⟨fun _ _ _ => rfl, fun _ _ => rfl⟩, rfl⟩
  | succ d ih =>
    intro k n D h1 h2 hK h36 hR
    obtain ⟨n, rfl⟩ : ∃ q, n = q + 1 := ⟨n - 1, by omega⟩
    have hk : k < 100 := by omega
    rw [g_X9_layRow_17, if_neg (nI_100 hk)]
    by_cases e : s k = -9
    · have := lay_no (g_X9_layRow_17 n) hK hc h36 hk c 0 1000 (by omega) (by omega) (fun j _ hj ej => (hK.1 j hj).2.2.2 (ej ▸ e))
      rw [nI_0] at this
      rw [this]
      refine ih (k + 1) n D (by omega) (by omega) hK h36 ⟨by rw [cn_s, if_pos e]; exact hR.1, fun j hj hs => hR.2 j ?_ hs⟩
      by_cases q : j = k
      · subst q; exact absurd e hs
      · omega
    · obtain ⟨q, hq, eq⟩ := hK.2.2 k hk e
      have h100 : cn s 0 k < 102 := by have := cn_le s 0 k; omega
      have := lay_yes (g_X9_layRow_17 n) hK hc h36 hR.1 h100 hk hq eq c 0 1000 (by omega) (by omega) (by omega)
      rw [nI_0] at this
      rw [this]
      have l0 : ∀ j, j ≠ 41 → lw m D (cn s 0 k) k (s k) m j = D m j := fun j hj => by unfold lw; rw [u2_same, upd_ne _ _ hj, u2_ne _ _ (by omega), u2_ne _ _ (by omega)]
      have lo : ∀ c, c ≠ m → c ≠ m + 30 → c ≠ m + 31 → lw m D (cn s 0 k) k (s k) c = D c := fun c c1 c2 c3 => by unfold lw; rw [u2_ne _ _ c1, u2_ne _ _ c3, u2_ne _ _ c2]
      obtain ⟨D', r1, r2, r3, r4⟩ := ih (k + 1) n (lw m D (cn s 0 k) k (s k)) (by omega) (by omega) (hK.congr (lo _ (by omega) (by omega) (by omega)) (lo _ (by omega) (by omega) (by omega))) (by rw [l0 _ (by omega)]; exact h36) ⟨by rw [cn_s, if_neg e]; unfold lw; rw [u2_same, upd_same], fun j hj hs => by
        have e30 : lw m D (cn s 0 k) k (s k) (m + 30) = upd (D (m + 30)) (cn s 0 k) (nI k) := by unfold lw; rw [u2_ne _ _ (by omega), u2_ne _ _ (by omega), u2_same]
        have e31 : lw m D (cn s 0 k) k (s k) (m + 31) = upd (D (m + 31)) (cn s 0 k) (s k) := by unfold lw; rw [u2_ne _ _ (by omega), u2_same, u2_ne _ _ (by omega)]
        rw [e30, e31]
        by_cases ej : j = k
        · subst ej; rw [upd_same, upd_same]; exact ⟨rfl, rfl⟩
        · have : cn s 0 j < cn s 0 k := cn_lt (by omega) hs
          rw [upd_ne _ _ (by omega), upd_ne _ _ (by omega)]
          exact hR.2 j (by omega) hs⟩
      refine ⟨D', r1, r2, ⟨fun c c1 c2 => by rw [r3.1 c c1 c2, lo c c1 (by omega) (by omega)], fun j hj => by rw [r3.2 j hj, l0 j hj]⟩, by rw [r4, lo _ (by omega) (by omega) (by omega)]⟩
theorem n_placeOf9 {m k : Nat} {s : Nat → Int32} {D : DD} (hR : RowP D m s 100) (hk : k < 100) : g_X9_placeOf m (nI k) D = some (if s k = -9 then -9 else nI (cn s 0 k)) := by
  have hN := cn_100 s
  have loop : ∀ (d p n : Nat) (v : Int32), p + d = cn s 0 100 → d < n → g_X9_placeOf_5 n m (nI k) v (nI p) D = some (if s k ≠ -9 ∧ p ≤ cn s 0 k then nI (cn s 0 k) else v) := by
    intro d
    induction d with
    | zero =>
      intro p n v h1 h2
      obtain ⟨n, rfl⟩ : ∃ q, n = q + 1 := ⟨n - 1, by omega⟩
      rw [g_X9_placeOf_5, hR.1, if_pos (nI_le (by omega) (by omega)), if_neg]
      rintro ⟨a, b⟩
      have := cn_lt hk a
      omega
    | succ d ih =>
      intro p n v h1 h2
      obtain ⟨n, rfl⟩ : ∃ q, n = q + 1 := ⟨n - 1, by omega⟩
      obtain ⟨q, q1, q2, q3⟩ := pos_key (s := s) 100 p (by omega)
      have e30 := (hR.2 q q1 q2).1
      rw [q3] at e30
      rw [g_X9_placeOf_5, hR.1, if_neg (nI_ge (by omega) (by omega)), zck_nI (by omega) (by decide), ix_nI (by omega), e30]
      unfold g_X9_placeOf_28
      rw [nI_1]
      by_cases e : q = k
      · subst e
        rw [if_pos rfl, ih (p + 1) n _ (by omega) (by omega), if_neg (by omega), if_pos ⟨q2, by omega⟩, q3]
      · rw [if_neg (fun z => e ((nI_eq (by omega) (by omega)).mp z)), ih (p + 1) n _ (by omega) (by omega)]
        by_cases c1 : s k ≠ -9 ∧ p + 1 ≤ cn s 0 k
        · rw [if_pos c1, if_pos ⟨c1.1, by omega⟩]
        · rw [if_neg c1, if_neg]
          rintro ⟨a, b⟩
          by_cases z : p = cn s 0 k
          · exact e (cn_inj q2 a (by omega))
          · exact c1 ⟨a, by omega⟩
  have := loop (cn s 0 100) 0 1000 (-9) (by omega) (by omega)
  rw [nI_0] at this
  unfold g_X9_placeOf
  rw [this]
  by_cases e : s k = -9
  · rw [if_pos e, if_neg (fun q => q.1 e)]
  · rw [if_neg e, if_pos ⟨e, by omega⟩]
theorem NF_bd {D : DD} {m c : Nat} {s h : Nat → Int32} {kf lf hf : Nat → Nat} (hN : NF D m s h c [] kf lf hf) (hj : ∀ i j, i < c → j < c → kf i = kf j → i = j) : ∀ i, i < c → Bd s (lf i) (hf i) := by
  obtain ⟨h1, h2, -⟩ := hN
  have cov : ∀ (d i : Nat), i + d = c → ∀ j, i ≤ j → j < c → Bd s (lf j) (hf j) → ∀ k, lf j ≤ k → k < hf j → s k ≠ -9 → ∃ q, q < c ∧ kf q = k ∧ Bd s (lf q) (hf q) := by
    intro d
    induction d with
    | zero => intro i hi j a b; omega
    | succ d ih =>
      intro i hi j a b hB k k1 k2 k3
      by_cases e : i = j
      · subst e
        obtain ⟨-, -, p3, p4, p5, p6⟩ := h1 i b
        obtain ⟨b1, b2, -, -⟩ := bs_some p3
        by_cases ek : k = kf i
        · exact ⟨i, b, ek.symm, hB⟩
        · by_cases el : k < kf i
          · rcases p5 with q | ⟨-, q, -⟩ | ⟨q, q1, q2, -, q3, q4⟩
            · cases q
            · exact absurd (bs_none q k k1 el) k3
            · exact ih (i + 1) (by omega) q (by omega) q2 (by rw [q3, q4]; exact Bd_left hB p3) k (by omega) (by omega) k3
          · rcases p6 with q | ⟨-, q, -⟩ | ⟨q, q1, q2, -, q3, q4⟩
            · cases q
            · exact absurd (bs_none q k (by omega) k2) k3
            · exact ih (i + 1) (by omega) q (by omega) q2 (by rw [q3, q4]; exact Bd_right hB p3) k (by omega) (by omega) k3
      · exact ih (i + 1) (by omega) j (by omega) b hB k k1 k2 k3
  intro i hi
  obtain ⟨-, -, p3, p4, -, -⟩ := h1 i hi
  obtain ⟨b1, b2, b3, -⟩ := bs_some p3
  rcases h2 with q | ⟨q, -, -⟩ | ⟨q1, q2, q3⟩
  · cases q
  · omega
  · obtain ⟨q, r1, r2, r3⟩ := cov c 0 (by omega) 0 (by omega) q1 (by rw [q2, q3]; exact Bd_top s) (kf i) (by omega) (by omega) b3
    rw [hj q i r1 hi r2] at r3
    exact r3
def Wt (D : DD) (m : Nat) (kf hf : Nat → Nat) (i g : Nat) : Prop := ∃ j, j < i ∧ ((D (m + 25) j = -9 ∧ kf j = g) ∨ (D (m + 26) j = -9 ∧ hf j = g))
theorem u2_uA (D : DD) (a k : Nat) (v : Int32) (F : Nat → Int32) : u2 (uA D a F) a k v = uA D a (upd F k v) := by
  unfold u2
  rw [uA_same]
  funext b
  by_cases hb : b = a
  · rw [hb, uA_same, uA_same]
  · rw [uA_ne _ _ hb, uA_ne _ _ hb, uA_ne _ _ hb]
theorem n_lay2 {m c : Nat} {s h : Nat → Int32} {kf lf hf : Nat → Nat} {D : DD} (hN : NF D m s h c [] kf lf hf) (hj : ∀ i j, i < c → j < c → kf i = kf j → i = j) (hc : c ≤ 100) (h36 : D m 36 = nI c) (hR : RowP D m s 100) : ∀ (d i n : Nat) (F0 : Nat → Int32), i + d = c → d < n → (∀ g, Gk s g → Wt D m kf hf i g → F0 (cn s 0 g) = h g) → ∃ F : Nat → Int32, g_X9_layRow_92 n m (nI i) (uA D (m + 32) F0) = some (uA D (m + 32) F) ∧ (∀ g, Gk s g → Wt D m kf hf c g → F (cn s 0 g) = h g) ∧ (c = i → F = F0) := by
  have hB := NF_bd hN hj
  have hK := NF_keys hN hj
  intro d
  induction d with
  | zero =>
    intro i n F0 h1 h2 h3
    obtain ⟨n, rfl⟩ : ∃ q, n = q + 1 := ⟨n - 1, by omega⟩
    have hi : i = c := by omega
    subst hi
    refine ⟨F0, ?_, h3, fun _ => rfl⟩
    rw [g_X9_layRow_92, uA_ne _ _ (by omega), h36, if_pos (Int32.le_refl _)]
  | succ d ih =>
    intro i n F0 h1 h2 h3
    obtain ⟨n, rfl⟩ : ∃ q, n = q + 1 := ⟨n - 1, by omega⟩
    have hi : i < c := by omega
    obtain ⟨k1, k2, k3, k4⟩ := hK.1 i hi
    obtain ⟨-, -, p3, p4, p5, p6⟩ := hN.1 i hi
    obtain ⟨b1, b2, -, -⟩ := bs_some p3
    have hgk : Gk s (kf i) := Or.inr ⟨k1, k4⟩
    have hgh : Gk s (hf i) := by
      rcases (hB i hi).2.2.2 with q | q
      · exact Or.inl q
      · by_cases e : hf i = 100
        · exact Or.inl e
        · exact Or.inr ⟨by omega, q.1⟩
    have hp : cn s 0 (kf i) < 100 := by have := cn_lt k1 k4; have := cn_100 s; omega
    have hpl : g_X9_placeOf m (nI (kf i)) (uA D (m + 32) F0) = some (nI (cn s 0 (kf i))) := by
      rw [n_placeOf9 (hR.congr (by rw [uA_ne _ _ (by omega)]) (by rw [uA_ne _ _ (by omega)]) (by rw [uA_ne _ _ (by omega)])) k1, if_neg k4]
    -- what is written keeps what was written
    have wr : ∀ (F : Nat → Int32) (g0 : Nat), Gk s g0 → (∀ g, Gk s g → Wt D m kf hf i g → F (cn s 0 g) = h g) → ∀ g, Gk s g → Wt D m kf hf i g ∨ g = g0 → upd F (cn s 0 g0) (h g0) (cn s 0 g) = h g := by
      intro F g0 hg0 hF g hg hw
      by_cases e : g = g0
      · subst e; rw [upd_same]
      · rw [upd_ne _ _ (fun z => e (Gk_inj hg hg0 z))]
        exact hF g hg (hw.elim id (fun z => absurd z e))
    have left : ∃ F1 : Nat → Int32, (∀ g, Gk s g → (Wt D m kf hf i g ∨ (D (m + 25) i = -9 ∧ kf i = g)) → F1 (cn s 0 g) = h g) ∧ (if D (m + 25) i = -9 then zck (inb (nI i) 100) (zck (inb (nI (cn s 0 (kf i))) 103) (dlt (u2 (uA D (m + 32) F0) (m + 32) (ix (nI (cn s 0 (kf i)))) (D (m + 27) i)) (fun D7 => g_X9_layRow_134 (g_X9_layRow_92 n) m (nI i) (nI (cn s 0 (kf i))) D7))) else (g_X9_layRow_134 (g_X9_layRow_92 n) m (nI i) (nI (cn s 0 (kf i))) (uA D (m + 32) F0))) = g_X9_layRow_134 (g_X9_layRow_92 n) m (nI i) (nI (cn s 0 (kf i))) (uA D (m + 32) F1) := by
      rcases p5 with q | ⟨q1, q2, q3⟩ | ⟨q, q1, q2, q3, q4, q5⟩
      · cases q
      · refine ⟨upd F0 (cn s 0 (kf i)) (h (kf i)), fun g hg hw => wr F0 (kf i) hgk h3 g hg (hw.elim Or.inl (fun z => Or.inr z.2.symm)), ?_⟩
        rw [if_pos q1, zck_nI (by omega) (by decide), zck_nI (by omega) (by decide), dlt_eq, ix_nI (by omega), q3, u2_uA]
      · refine ⟨F0, fun g hg hw => h3 g hg (hw.elim id (fun z => absurd z.1 (by rw [q3]; exact nI_ne9 (by omega)))), ?_⟩
        rw [if_neg (by rw [q3]; exact nI_ne9 (by omega))]
    obtain ⟨F1, f1, f2⟩ := left
    have right : ∃ F2 : Nat → Int32, (∀ g, Gk s g → Wt D m kf hf (i + 1) g → F2 (cn s 0 g) = h g) ∧ g_X9_layRow_134 (g_X9_layRow_92 n) m (nI i) (nI (cn s 0 (kf i))) (uA D (m + 32) F1) = g_X9_layRow_92 n m (nI (i + 1)) (uA D (m + 32) F2) := by
      have split : ∀ g, Wt D m kf hf (i + 1) g → (Wt D m kf hf i g ∨ (D (m + 25) i = -9 ∧ kf i = g)) ∨ (D (m + 26) i = -9 ∧ hf i = g) := by
        rintro g ⟨j, hjj, hw⟩
        by_cases e : j = i
        · subst e
          rcases hw with z | z
          · exact Or.inl (Or.inr z)
          · exact Or.inr z
        · exact Or.inl (Or.inl ⟨j, by omega, hw⟩)
      unfold g_X9_layRow_134 g_X9_layRow_159
      rw [zck_nI (by omega) (by decide), ix_nI (by omega), uA_ne _ _ (show m + 26 ≠ m + 32 by omega), uA_ne _ _ (show m + 28 ≠ m + 32 by omega), nI_1, nI_1]
      rcases p6 with q | ⟨q1, q2, q3⟩ | ⟨q, q1, q2, q3, q4, q5⟩
      · cases q
      · have hcn : cn s 0 (hf i) = cn s 0 (kf i) + 1 := by
          rw [cn_none (by omega) q2, cn_s, if_neg k4]
        refine ⟨upd F1 (cn s 0 (hf i)) (h (hf i)), fun g hg hw => ?_, ?_⟩
        · by_cases e : g = hf i
          · subst e; rw [upd_same]
          · rw [upd_ne _ _ (fun z => e (Gk_inj hg hgh z))]
            exact f1 g hg ((split g hw).elim id (fun z => absurd z.2.symm e))
        · rw [if_pos q1, zck_nI (by omega) (by decide), ← hcn, zck_nI (by omega) (by decide), dlt_eq, ix_nI (by omega), q3, u2_uA]
      · refine ⟨F1, fun g hg hw => f1 g hg ((split g hw).elim id (fun z => absurd z.1 (by rw [q3]; exact nI_ne9 (by omega)))), ?_⟩
        rw [if_neg (by rw [q3]; exact nI_ne9 (by omega))]
    obtain ⟨F2, g1, g2⟩ := right
    obtain ⟨F, r1, r2, r3⟩ := ih (i + 1) n F2 (by omega) (by omega) g1
    refine ⟨F, ?_, r2, fun e => by omega⟩
    rw [← r1, ← g2, ← f2, g_X9_layRow_92, uA_ne _ _ (show m ≠ m + 32 by omega), h36, if_neg (nI_ge hi (by omega)), zck_nI (by omega) (by decide), ix_nI (by omega), uA_ne _ _ (show m + 23 ≠ m + 32 by omega), k2, hpl, pcb_some, zck_nI (by omega) (by decide), uA_ne _ _ (show m + 25 ≠ m + 32 by omega), uA_ne _ _ (show m + 27 ≠ m + 32 by omega)]
theorem NF_gaps {D : DD} {m c : Nat} {s h : Nat → Int32} {kf lf hf : Nat → Nat} (hN : NF D m s h c [] kf lf hf) (hc : 0 < c) : ∀ g, Gk s g → Wt D m kf hf c g := by
  obtain ⟨h1, h2, -⟩ := hN
  have cov : ∀ (d i : Nat), i + d = c → ∀ j, i ≤ j → j < c → ∀ g, (g = hf j ∨ (lf j ≤ g ∧ g < hf j ∧ s g ≠ -9)) → Wt D m kf hf c g := by
    intro d
    induction d with
    | zero => intro i hi j a b; omega
    | succ d ih =>
      intro i hi j a b g hg
      by_cases e : i = j
      · subst e
        obtain ⟨-, -, p3, p4, p5, p6⟩ := h1 i b
        obtain ⟨b1, b2, -, -⟩ := bs_some p3
        by_cases el : g ≤ kf i
        · rcases p5 with q | ⟨q0, q, -⟩ | ⟨q, q1, q2, -, q3, q4⟩
          · cases q
          · by_cases eg : g = kf i
            · exact ⟨i, b, Or.inl ⟨q0, eg.symm⟩⟩
            · rcases hg with z | z
              · omega
              · exact absurd (bs_none q g z.1 (by omega)) z.2.2
          · refine ih (i + 1) (by omega) q (by omega) q2 g ?_
            by_cases eg : g = kf i
            · exact Or.inl (by omega)
            · rcases hg with z | z
              · omega
              · exact Or.inr ⟨by omega, by omega, z.2.2⟩
        · rcases p6 with q | ⟨q0, q, -⟩ | ⟨q, q1, q2, -, q3, q4⟩
          · cases q
          · rcases hg with z | z
            · exact ⟨i, b, Or.inr ⟨q0, z.symm⟩⟩
            · exact absurd (bs_none q g (by omega) z.2.1) z.2.2
          · refine ih (i + 1) (by omega) q (by omega) q2 g ?_
            rcases hg with z | z
            · exact Or.inl (by omega)
            · exact Or.inr ⟨by omega, by omega, z.2.2⟩
      · exact ih (i + 1) (by omega) j (by omega) b g hg
  intro g hg
  rcases h2 with q | ⟨q, -, -⟩ | ⟨q1, q2, q3⟩
  · cases q
  · omega
  · refine cov c 0 (by omega) 0 (by omega) q1 g ?_
    rcases hg with z | z
    · exact Or.inl (by omega)
    · exact Or.inr ⟨by omega, by omega, z.2⟩
theorem n_layRow {m c : Nat} {s h : Nat → Int32} {kf lf hf : Nat → Nat} {D : DD} (hN : NF D m s h c [] kf lf hf) (hj : ∀ i j, i < c → j < c → kf i = kf j → i = j) (hc : c ≤ 100) (h36 : D m 36 = nI c) : ∃ D' : DD, g_X9_layRow m D = some D' ∧ RowK D' m s h ∧ FrL m D D' := by
  have hK := NF_keys hN hj
  unfold g_X9_layRow
  rw [dlt_eq, zck_t (by decide), dlt_eq, show ix (0 : Int32) = 0 by decide]
  have e37 : u2 D m 41 0 m 37 = D m 37 := by rw [u2_same, upd_ne _ _ (by omega)]
  rw [e37]
  generalize hE : u2 (u2 D m 41 0) (m + 32) 0 (D m 37) = E
  have eo : ∀ c, c ≠ m → c ≠ m + 32 → E c = D c := fun c c1 c2 => by rw [← hE, u2_ne _ _ c2, u2_ne _ _ c1]
  have em : ∀ j, j ≠ 41 → E m j = D m j := fun j hj => by rw [← hE, u2_ne _ _ (by omega), u2_same, upd_ne _ _ hj]
  have e32 : E (m + 32) 0 = D m 37 := by rw [← hE, u2_same, upd_same]
  have hFE : FrL m D E := ⟨fun c c1 c2 => eo c c1 (by omega), em⟩
  obtain ⟨D1, r1, r2, r3, r4⟩ := n_lay1 (m := m) (s := s) hc 100 0 1000 E (by omega) (by omega) (hK.congr (eo _ (by omega) (by omega)) (eo _ (by omega) (by omega))) (by rw [em 36 (by omega)]; exact h36) ⟨by rw [← hE, u2_ne _ _ (by omega), u2_same, upd_same]; exact nI_0.symm, fun j hj => by omega⟩
  have hF1 : FrL m D D1 := hFE.tr r3
  have hN1 : NF D1 m s h c [] kf lf hf := by
    unfold NF NL NR at hN ⊢
    rw [hF1.1 (m + 23) (by omega) (by omega), hF1.1 (m + 24) (by omega) (by omega), hF1.1 (m + 25) (by omega) (by omega), hF1.1 (m + 26) (by omega) (by omega), hF1.1 (m + 27) (by omega) (by omega), hF1.1 (m + 28) (by omega) (by omega), hF1.2 37 (by omega)]
    exact hN
  obtain ⟨F, f1, f2, f3⟩ := n_lay2 hN1 hj hc (by rw [hF1.2 36 (by omega)]; exact h36) r2 c 0 1000 (D1 (m + 32)) (by omega) (by omega) (fun g hg hw => by obtain ⟨j, hj, -⟩ := hw; omega)
  rw [uA_self, nI_0] at f1
  refine ⟨uA D1 (m + 32) F, ?_, ⟨r2.congr (by rw [uA_ne _ _ (by omega)]) (by rw [uA_ne _ _ (by omega)]) (by rw [uA_ne _ _ (by omega)]), fun k hk => ?_⟩, ⟨fun c c1 c2 => by rw [uA_ne _ _ (by omega)]; exact hF1.1 c c1 c2, fun j hj => by rw [uA_ne _ _ (by omega)]; exact hF1.2 j hj⟩⟩
  · rw [← f1, ← r1, nI_0]
  · rw [uA_same]
    by_cases e : 0 < c
    · exact f2 k hk (NF_gaps hN1 e k hk)
    · have hc0 : c = 0 := by omega
      have hs : ∀ k, k < 100 → s k = -9 := fun k hk => Classical.byContradiction (fun q => by obtain ⟨i, hi, -⟩ := hK.2.2 k hk q; omega)
      rcases hk with hk | hk
      · subst hk
        rw [f3 hc0, r4, cn_none (lo := 0) (by omega) (bs_none_of (fun j _ hj => hs j hj)), show cn s 0 0 = 0 from by have := cn_le s 0 0; omega, e32]
        rcases hN.2.1 with q | ⟨-, -, q⟩ | q
        · cases q
        · exact q
        · omega
      · exact absurd (hs k hk.1) hk.2
