theorem n_putIn {m k : Nat} {s g : Nat → Int32} {v : Int32} {D : DD} (h : RowK D m s g) (hk : k < 100) (hs : s k = -9) (hv : v ≠ -9) : ∃ D' : DD, g_X9_putIn m (nI k) v D = some D' ∧ RowK D' m (upd s k v) (upd g k 0) ∧ FrL m D D' := by
  obtain ⟨N, eN⟩ : ∃ N, cn s 0 100 = N := ⟨_, rfl⟩
  obtain ⟨A, eA⟩ : ∃ A, cn s 0 k = A := ⟨_, rfl⟩
  have hAN : A ≤ N := by rw [← eA, ← eN]; exact cn_mono s (by omega)
  have hN : N < 100 := by
    have h1 := cn_upd2 (s := s) (k := k) hv 100
    rw [if_pos ⟨hk, hs⟩, eN] at h1
    have := cn_100 (upd s k v)
    omega
  have h41 : D m 41 = nI N := by rw [h.1.1, eN]
  -- where it goes
  have loop0 : ∀ (d p n : Nat), p + d = A → d < n → g_X9_putIn_2 n m (nI k) v (nI p) D = g_X9_putIn_26 m (nI k) v (nI A) D := by
    intro d
    induction d with
    | zero =>
      intro p n h1 h2
      obtain ⟨n, rfl⟩ : ∃ q, n = q + 1 := ⟨n - 1, by omega⟩
      have hp : p = A := by omega
      subst hp
      rw [g_X9_putIn_2, h41]
      by_cases c : N ≤ p
      · rw [if_pos (nI_le c (by omega))]
      · rw [if_neg (nI_ge (by omega) (by omega)), zck_nI (by omega) (by decide), ix_nI (by omega)]
        obtain ⟨q, q1, q2, q3⟩ := pos_key (s := s) 100 p (by omega)
        have e30 := (h.1.2 q q1 q2).1
        rw [q3] at e30
        rw [e30, if_pos]
        refine nI_le ?_ (by omega)
        rcases Nat.lt_or_ge q k with z | z
        · have := cn_lt z q2; omega
        · exact z
    | succ d ih =>
      intro p n h1 h2
      obtain ⟨n, rfl⟩ : ∃ q, n = q + 1 := ⟨n - 1, by omega⟩
      obtain ⟨q, q1, q2, q3⟩ := pos_key (s := s) 100 p (by omega)
      have e30 := (h.1.2 q q1 q2).1
      rw [q3] at e30
      have hqk : q < k := by
        rcases Nat.lt_or_ge q k with z | z
        · exact z
        · have := cn_mono s z; omega
      rw [g_X9_putIn_2, h41, if_neg (nI_ge (by omega) (by omega)), zck_nI (by omega) (by decide), ix_nI (by omega), e30, if_neg (nI_ge hqk (by omega)), nI_1]
      exact ih (p + 1) n (by omega) (by omega)
  have loop1 : ∀ (d p n : Nat) (F30 F31 : Nat → Int32), p = A + d → p ≤ N → d < n → ∃ G30 G31 : Nat → Int32, g_X9_putIn_32 n m (nI k) v (nI A) (nI p) (uA (uA D (m + 30) F30) (m + 31) F31) = g_X9_putIn_84 1000 m (nI k) v (nI A) (nI (N + 1)) (uA (uA D (m + 30) G30) (m + 31) G31) ∧ (∀ q, A < q → q ≤ p → G30 q = F30 (q - 1) ∧ G31 q = F31 (q - 1)) ∧ ∀ q, (q ≤ A ∨ p < q) → G30 q = F30 q ∧ G31 q = F31 q := by
    intro d
    induction d with
    | zero =>
      intro p n F30 F31 h1 h2 h3
      obtain ⟨n, rfl⟩ : ∃ q, n = q + 1 := ⟨n - 1, by omega⟩
      refine ⟨F30, F31, ?_, fun q a b => by omega, fun q _ => ⟨rfl, rfl⟩⟩
      rw [g_X9_putIn_32, if_pos (nI_le (by omega) (by omega)), uA_ne _ _ (by omega), uA_ne _ _ (by omega), h41, nI_1]
    | succ d ih =>
      intro p n F30 F31 h1 h2 h3
      obtain ⟨n, rfl⟩ : ∃ q, n = q + 1 := ⟨n - 1, by omega⟩
      obtain ⟨p, rfl⟩ : ∃ q, p = q + 1 := ⟨p - 1, by omega⟩
      have st : g_X9_putIn_32 (n + 1) m (nI k) v (nI A) (nI (p + 1)) (uA (uA D (m + 30) F30) (m + 31) F31) = g_X9_putIn_32 n m (nI k) v (nI A) (nI p) (uA (uA D (m + 30) (upd F30 (p + 1) (F30 p))) (m + 31) (upd F31 (p + 1) (F31 p))) := by
        rw [g_X9_putIn_32, if_neg (nI_ge (by omega) (by omega)), nI_pred, nI_dec, zck_nI (by omega) (by decide), zck_nI (by omega) (by decide), ix_nI (by omega), ix_nI (by omega), dlt_eq, zck_nI (by omega) (by decide), zck_nI (by omega) (by decide), dlt_eq, uA_ne _ _ (show m + 30 ≠ m + 31 by omega), uA_same]
        congr 1
        funext c
        by_cases c31 : c = m + 31
        · subst c31; rw [u2_same, uA_same, u2_ne _ _ (by omega), uA_same]
        · rw [u2_ne _ _ c31, uA_ne _ _ c31]
          by_cases c30 : c = m + 30
          · subst c30; rw [u2_same, uA_same, uA_ne _ _ (by omega), uA_same]
          · rw [u2_ne _ _ c30, uA_ne _ _ c31, uA_ne _ _ c30, uA_ne _ _ c30]
      obtain ⟨G30, G31, r1, r2, r3⟩ := ih p n (upd F30 (p + 1) (F30 p)) (upd F31 (p + 1) (F31 p)) (by omega) (by omega) (by omega)
      refine ⟨G30, G31, by rw [st, r1], fun q a b => ?_, fun q hq => ?_⟩
      · by_cases e : q = p + 1
        · subst e
          obtain ⟨a1, a2⟩ := r3 (p + 1) (by omega)
          rw [a1, a2, upd_same, upd_same]; exact ⟨rfl, rfl⟩
        · obtain ⟨a1, a2⟩ := r2 q a (by omega)
          rw [a1, a2, upd_ne _ _ (by omega), upd_ne _ _ (by omega)]; exact ⟨rfl, rfl⟩
      · obtain ⟨a1, a2⟩ := r3 q (by omega)
        rw [a1, a2, upd_ne _ _ (by omega), upd_ne _ _ (by omega)]; exact ⟨rfl, rfl⟩
  have loop2 : ∀ (d p n : Nat) (E : DD), p = A + d → p ≤ N + 1 → d < n → E m 41 = nI N → ∃ G : Nat → Int32, g_X9_putIn_84 n m (nI k) v (nI A) (nI p) E = some (u2 (u2 (u2 (u2 (uA E (m + 32) G) (m + 32) A 0) (m + 30) A (nI k)) (m + 31) A v) m 41 (nI (N + 1))) ∧ (∀ q, A < q → q ≤ p → G q = E (m + 32) (q - 1)) ∧ ∀ q, (q ≤ A ∨ p < q) → G q = E (m + 32) q := by
    intro d
    induction d with
    | zero =>
      intro p n E h1 h2 h3 h4
      obtain ⟨n, rfl⟩ : ∃ q, n = q + 1 := ⟨n - 1, by omega⟩
      refine ⟨E (m + 32), ?_, fun q a b => by omega, fun q _ => rfl⟩
      rw [g_X9_putIn_84, if_pos (nI_le (by omega) (by omega)), zck_nI (by omega) (by decide), ix_nI (by omega), dlt_eq, zck_nI (by omega) (by decide), dlt_eq, zck_nI (by omega) (by decide), dlt_eq, u2_ne _ _ (by omega), u2_ne _ _ (by omega), u2_ne _ _ (by omega), h4, nI_1, dlt_eq, uA_self]
    | succ d ih =>
      intro p n E h1 h2 h3 h4
      obtain ⟨n, rfl⟩ : ∃ q, n = q + 1 := ⟨n - 1, by omega⟩
      obtain ⟨p, rfl⟩ : ∃ q, p = q + 1 := ⟨p - 1, by omega⟩
      obtain ⟨G, r1, r2, r3⟩ := ih p n (u2 E (m + 32) (p + 1) (E (m + 32) p)) (by omega) (by omega) (by omega) (by rw [u2_ne _ _ (by omega)]; exact h4)
      refine ⟨G, ?_, fun q a b => ?_, fun q hq => ?_⟩
      · rw [g_X9_putIn_84, if_neg (nI_ge (by omega) (by omega)), nI_pred, nI_dec, zck_nI (by omega) (by decide), zck_nI (by omega) (by decide), ix_nI (by omega), ix_nI (by omega), dlt_eq, r1, uA_u2]
      · by_cases e : q = p + 1
        · subst e
          rw [r3 (p + 1) (by omega), u2_same, upd_same]; rfl
        · rw [r2 q a (by omega), u2_same, upd_ne _ _ (by omega)]
      · rw [r3 q (by omega), u2_same, upd_ne _ _ (by omega)]
  have l0 := loop0 A 0 1000 (by omega) (by omega)
  obtain ⟨G30, G31, r1, r2, r3⟩ := loop1 (N - A) N 1000 (D (m + 30)) (D (m + 31)) (by omega) (by omega) (by omega)
  have hself : uA (uA D (m + 30) (D (m + 30))) (m + 31) (D (m + 31)) = D := by rw [uA_self, uA_self]
  rw [hself] at r1
  generalize hE : uA (uA D (m + 30) G30) (m + 31) G31 = E at *
  have eo : ∀ c, c ≠ m + 30 → c ≠ m + 31 → E c = D c := fun c c1 c2 => by rw [← hE, uA_ne _ _ c2, uA_ne _ _ c1]
  have e30 : E (m + 30) = G30 := by rw [← hE, uA_ne _ _ (by omega), uA_same]
  have e31 : E (m + 31) = G31 := by rw [← hE, uA_same]
  obtain ⟨G, t1, t2, t3⟩ := loop2 (N + 1 - A) (N + 1) 1000 E (by omega) (by omega) (by omega) (by rw [eo _ (by omega) (by omega)]; exact h41)
  rw [eo (m + 32) (by omega) (by omega)] at t2 t3
  have ecn : ∀ j, cn (upd s k v) 0 j = cn s 0 j + if k < j then 1 else 0 := fun j => by
    rw [cn_upd2 hv]
    by_cases e : k < j
    · rw [if_pos ⟨e, hs⟩, if_pos e]
    · rw [if_neg (fun q => e q.1), if_neg e]
  generalize hX : u2 (u2 (u2 (u2 (uA E (m + 32) G) (m + 32) A 0) (m + 30) A (nI k)) (m + 31) A v) m 41 (nI (N + 1)) = X at *
  have x32 : X (m + 32) = upd G A 0 := by rw [← hX, u2_ne _ _ (by omega), u2_ne _ _ (by omega), u2_ne _ _ (by omega), u2_same, uA_same]
  have x30 : X (m + 30) = upd G30 A (nI k) := by rw [← hX, u2_ne _ _ (by omega), u2_ne _ _ (by omega), u2_same, u2_ne _ _ (by omega), uA_ne _ _ (by omega), e30]
  have x31 : X (m + 31) = upd G31 A v := by rw [← hX, u2_ne _ _ (by omega), u2_same, u2_ne _ _ (by omega), u2_ne _ _ (by omega), uA_ne _ _ (by omega), e31]
  refine ⟨X, ?_, ⟨⟨?_, fun j hj hjs => ?_⟩, fun j hj => ?_⟩, ⟨fun c c1 c2 => by rw [← hX, u2_ne _ _ c1, u2_ne _ _ (by omega), u2_ne _ _ (by omega), u2_ne _ _ (by omega), uA_ne _ _ (by omega), eo c (by omega) (by omega)], fun j hj => by rw [← hX, u2_same, upd_ne _ _ hj, u2_ne _ _ (by omega), u2_ne _ _ (by omega), u2_ne _ _ (by omega), uA_ne _ _ (by omega), eo _ (by omega) (by omega)]⟩⟩
  · unfold g_X9_putIn
    rw [show (0 : Int32) = nI 0 from nI_0.symm, l0]
    unfold g_X9_putIn_26
    rw [h41, r1, t1]
  · rw [← hX, u2_same, upd_same, ecn, if_pos hk, eN]
  · rw [x30, x31, ecn]
    by_cases e : j = k
    · subst e
      rw [if_neg (by omega), Nat.add_zero, eA, upd_same, upd_same, upd_same]; exact ⟨rfl, rfl⟩
    · rw [upd_ne _ _ e] at hjs ⊢
      obtain ⟨a1, a2⟩ := h.1.2 j hj hjs
      have hjN := cn_lt hj hjs
      by_cases q : k < j
      · have hkj := cn_mono s (show k ≤ j by omega)
        rw [if_pos q]
        obtain ⟨b1, b2⟩ := r2 (cn s 0 j + 1) (by omega) (by omega)
        rw [upd_ne _ _ (by omega), upd_ne _ _ (by omega), b1, b2]; exact ⟨a1, a2⟩
      · have hkj := cn_lt (show j < k by omega) hjs
        rw [if_neg q, Nat.add_zero]
        obtain ⟨b1, b2⟩ := r3 (cn s 0 j) (by omega)
        rw [upd_ne _ _ (by omega), upd_ne _ _ (by omega), b1, b2]; exact ⟨a1, a2⟩
  · rw [x32, ecn]
    by_cases e : j = k
    · subst e
      rw [if_neg (by omega), Nat.add_zero, eA, upd_same, upd_same]
    · have hg : Gk s j := by
        rcases hj with q | q
        · exact Or.inl q
        · rw [upd_ne _ _ e] at q; exact Or.inr q
      have hjN : cn s 0 j ≤ N := by rw [← eN]; exact cn_mono s (by rcases hg with q | q <;> omega)
      rw [upd_ne g _ e]
      by_cases q : k < j
      · have hkj := cn_mono s (show k ≤ j by omega)
        rw [if_pos q, upd_ne _ _ (by omega), t2 _ (by omega) (by omega)]
        exact h.2 j hg
      · have hjs : s j ≠ -9 := by
          rcases hg with z | z
          · omega
          · exact z.2
        have hkj := cn_lt (show j < k by omega) hjs
        rw [if_neg q, Nat.add_zero, upd_ne _ _ (by omega), t3 _ (by omega)]
        exact h.2 j hg
/-! the uppermost of a row -/
def oP (s : Nat → Int32) : Option Nat → Int32
  | none => -9
  | some k => nI (cn s 0 k)
theorem bs_ext {s : Nat → Int32} {lo x y : Nat} (h1 : x ≤ y) (h2 : ∀ j, x ≤ j → j < y → s j = -9) (hl : lo ≤ x) (hy : y ≤ 100) : bs s lo y = bs s lo x := by
  cases e : bs s lo x with
  | none =>
    refine bs_none_of (fun j a b => ?_)
    rcases Nat.lt_or_ge j x with q | q
    · exact bs_none e j a q
    · exact h2 j q b
  | some b =>
    obtain ⟨a1, a2, a3, a4⟩ := bs_some e
    refine bs_of hy a1 (by omega) a3 (fun j c1 c2 c3 c4 => ?_)
    rcases Nat.lt_or_ge j x with q | q
    · exact bs_max (by omega) e c1 q c3 c4
    · exact absurd (h2 j q c2) c3
theorem n_upperOf {m lo hi : Nat} {s : Nat → Int32} {D : DD} (hR : RowP D m s 100) (hl : lo ≤ hi) (hh : hi ≤ 100) : g_X9_uppermostOf m (nI (cn s 0 lo)) (nI (cn s 0 hi) - 1) D = some (oP s (bs s lo hi)) := by
  have hN := cn_100 s
  have hhN := cn_mono s hh
  have loop : ∀ (d j x n : Nat), j + d = cn s 0 hi → d < n → cn s 0 x = j → lo ≤ x → x ≤ hi → g_X9_uppermostOf_6 n m (nI (cn s 0 hi) - 1) (oP s (bs s lo x)) (nI j) D = some (oP s (bs s lo hi)) := by
    intro d
    induction d with
    | zero =>
      intro j x n h1 h2 h3 h4 h5
      obtain ⟨n, rfl⟩ : ∃ q, n = q + 1 := ⟨n - 1, by omega⟩
      rw [g_X9_uppermostOf_6, if_pos ((hi_lt (by omega) (by omega)).mpr (by omega)), bs_ext h5 (fun y a b => Classical.byContradiction (fun q => by
        have h6 := cn_lt b q
        have h7 := cn_mono s a
        omega)) h4 hh]
    | succ d ih =>
      intro j x n h1 h2 h3 h4 h5
      obtain ⟨n, rfl⟩ : ∃ q, n = q + 1 := ⟨n - 1, by omega⟩
      obtain ⟨y, y1, y2, y3⟩ := pos_key (s := s) hi j (by omega)
      have hxy : x ≤ y := by
        rcases Nat.lt_or_ge y x with q | q
        · have := cn_lt q y2; omega
        · exact q
      have ex : bs s lo y = bs s lo x := bs_ext hxy (fun z a b => Classical.byContradiction (fun q => by
        have h6 := cn_lt b q
        have h7 := cn_mono s a
        omega)) h4 (by omega)
      have e30 := (hR.2 y (by omega) y2).1
      rw [y3] at e30
      have key := ih (j + 1) (y + 1) n (by omega) (by omega) (by rw [cn_s, if_neg y2, y3]) (by omega) (by omega)
      rw [g_X9_uppermostOf_6, if_neg (fun q => by have := (hi_lt (by omega) (by omega)).mp q; omega)]
      unfold g_X9_uppermostOf_37 g_X9_uppermostOf_43
      rw [nI_1]
      cases e : bs s lo x with
      | none =>
        rw [if_pos (show oP s none = -9 from rfl)]
        rw [e] at ex
        rw [bs_of (k := y) (by omega) (by omega) (by omega) y2 (fun i a b c d => absurd (bs_none ex i a (by omega)) c)] at key
        rw [show oP s (some y) = nI j by rw [← y3]; rfl] at key
        exact key
      | some b =>
        obtain ⟨a1, a2, a3, a4⟩ := bs_some e
        have hb := cn_lt (show b < y by omega) a3
        have e30b := (hR.2 b (by omega) a3).1
        rw [show oP s (some b) = nI (cn s 0 b) from rfl, if_neg (nI_ne9 (by omega)), zck_nI (by omega) (by decide), zck_nI (by omega) (by decide), ix_nI (by omega), ix_nI (by omega), e30, e30b, n_above9 (by omega) (by omega), pcb_some]
        rw [e] at ex
        by_cases c : rk b < rk y
        · rw [if_pos c, if_neg one_ne0]
          rw [bs_of (k := y) (by omega) (by omega) (by omega) y2 (fun i a b' c' d' => ?_)] at key
          · rw [show oP s (some y) = nI j by rw [← y3]; rfl] at key
            exact key
          · by_cases ib : i = b
            · subst ib; exact c
            · have := bs_max (by omega) ex a (by omega) c' ib; omega
        · rw [if_neg c, if_pos rfl]
          rw [bs_of (k := b) (by omega) a1 (by omega) a3 (fun i a b' c' d' => ?_)] at key
          · exact key
          · by_cases iy : i = y
            · subst iy
              have : rk i ≠ rk b := fun q => d' (rk_inj i (by omega) b (by omega) q)
              omega
            · exact bs_max (by omega) ex a (by omega) c' d'
  have := loop (cn s 0 hi - cn s 0 lo) (cn s 0 lo) lo 1000 (by have := cn_mono s hl; omega) (by omega) rfl (Nat.le_refl _) hl
  rw [bs_none_of (f := s) (lo := lo) (hi := lo) (fun j a b => by omega)] at this
  exact this
