def Ks (D : DD) (m : Nat) (s : Nat → Int32) (c : Nat) (kf : Nat → Nat) : Prop := (∀ i, i < c → kf i < 100 ∧ D (m + 23) i = nI (kf i) ∧ D (m + 24) i = s (kf i) ∧ s (kf i) ≠ -9) ∧ (∀ i j, i < c → j < c → kf i = kf j → i = j) ∧ ∀ k, k < 100 → s k ≠ -9 → ∃ i, i < c ∧ kf i = k
theorem NF_keys {D : DD} {m c : Nat} {s h : Nat → Int32} {kf lf hf : Nat → Nat} (hN : NF D m s h c [] kf lf hf) (hj : ∀ i j, i < c → j < c → kf i = kf j → i = j) : Ks D m s c kf := by
  obtain ⟨h1, h2, -⟩ := hN
  have cov : ∀ (d i : Nat), i + d = c → ∀ j, i ≤ j → j < c → ∀ k, lf j ≤ k → k < hf j → s k ≠ -9 → ∃ q, q < c ∧ kf q = k := by
    intro d
    induction d with
    | zero => intro i hi j a b; omega
    | succ d ih =>
      intro i hi j a b k k1 k2 k3
      by_cases e : i = j
      · subst e
        obtain ⟨-, -, p3, p4, p5, p6⟩ := h1 i b
        obtain ⟨b1, b2, -, -⟩ := bs_some p3
        by_cases ek : k = kf i
        · exact ⟨i, b, ek.symm⟩
        · by_cases el : k < kf i
          · rcases p5 with q | ⟨-, q, -⟩ | ⟨q, q1, q2, -, q3, q4⟩
            · cases q
            · exact absurd (bs_none q k k1 el) k3
            · exact ih (i + 1) (by omega) q (by omega) q2 k (by omega) (by omega) k3
          · rcases p6 with q | ⟨-, q, -⟩ | ⟨q, q1, q2, -, q3, q4⟩
            · cases q
            · exact absurd (bs_none q k (by omega) k2) k3
            · exact ih (i + 1) (by omega) q (by omega) q2 k (by omega) (by omega) k3
      · exact ih (i + 1) (by omega) j (by omega) b k k1 k2 k3
  refine ⟨fun i hi => ?_, hj, fun k hk hs => ?_⟩
  · obtain ⟨p1, p2, p3, p4, -, -⟩ := h1 i hi
    obtain ⟨b1, b2, b3, -⟩ := bs_some p3
    exact ⟨by omega, p1, p2, b3⟩
  · rcases h2 with q | ⟨-, q, -⟩ | ⟨q1, q2, q3⟩
    · cases q
    · exact absurd (bs_none q k (by omega) hk) hs
    · exact cov c 0 (by omega) 0 (by omega) q1 k (by omega) (by omega) hs
def sI (F : Nat → Int32) : Nat → Int32
  | 0 => 0
  | n + 1 => sI F n + F n
theorem sI_s (F : Nat → Int32) (n : Nat) : sI F (n + 1) = sI F n + F n := rfl
theorem nI_le_iff {a b : Nat} (ha : a < 2 ^ 31) (hb : b < 2 ^ 31) : nI a ≤ nI b ↔ a ≤ b := by
  refine ⟨fun h => ?_, fun h => nI_le h hb⟩
  rcases Nat.lt_or_ge b a with q | q
  · exact absurd h (nI_ge q ha)
  · exact q
theorem sI_congr {F G : Nat → Int32} : ∀ n, (∀ k, k < n → F k = G k) → sI F n = sI G n := by
  intro n
  induction n with
  | zero => intro _; rfl
  | succ n ih => intro h; rw [sI, sI, ih (fun k hk => h k (by omega)), h n (by omega)]
theorem sI_zero {F : Nat → Int32} : ∀ n, (∀ k, k < n → F k = 0) → sI F n = 0 := by
  intro n
  induction n with
  | zero => intro _; rfl
  | succ n ih => intro h; rw [sI, ih (fun k hk => h k (by omega)), h n (by omega)]; rfl
theorem sI_upd {F : Nat → Int32} {k : Nat} : ∀ n, k < n → sI F n = sI (upd F k 0) n + F k := by
  intro n
  induction n with
  | zero => intro h; omega
  | succ n ih =>
    intro h
    rw [sI, sI]
    by_cases e : k = n
    · subst e
      rw [upd_same, sI_congr (F := upd F k 0) (G := F) k (fun j hj => upd_ne _ _ (by omega)), Int32.add_zero]
    · rw [upd_ne _ _ (by omega), ih (by omega)]
      rw [Int32.add_assoc, Int32.add_assoc, Int32.add_comm (F k)]
theorem sI_perm : ∀ (c : Nat) (kf : Nat → Nat) (F : Nat → Int32), (∀ i, i < c → kf i < 100) → (∀ i j, i < c → j < c → kf i = kf j → i = j) → (∀ k, k < 100 → F k ≠ 0 → ∃ i, i < c ∧ kf i = k) → sI F 100 = sI (fun i => F (kf i)) c := by
  intro c
  induction c with
  | zero =>
    intro kf F h1 h2 h3
    rw [sI_zero (F := F) 100 (fun k hk => Classical.byContradiction (fun q => by obtain ⟨i, hi, -⟩ := h3 k hk q; omega))]
    rfl
  | succ c ih =>
    intro kf F h1 h2 h3
    rw [sI_upd (k := kf c) 100 (h1 c (by omega)), sI_s _ c, ih kf (upd F (kf c) 0) (fun i hi => h1 i (by omega)) (fun i j hi hj => h2 i j (by omega) (by omega)) (fun k hk hF => ?_)]
    · rw [sI_congr (F := fun i => upd F (kf c) 0 (kf i)) (G := fun i => F (kf i)) c (fun i hi => upd_ne _ _ (fun e => by have := h2 i c (by omega) (by omega) e; omega))]
    · by_cases e : k = kf c
      · subst e; exact absurd (upd_same _ _ _) hF
      · rw [upd_ne _ _ e] at hF
        obtain ⟨i, hi, ei⟩ := h3 k hk hF
        refine ⟨i, ?_, ei⟩
        by_cases q : i = c
        · subst q; exact absurd ei.symm e
        · omega
def GB (P : Nat → Prop) (r : Int32) : Prop := (r = -9 ∧ ∀ k, ¬ P k) ∨ ∃ k, r = nI k ∧ P k ∧ k < 100 ∧ ∀ j, P j → j ≤ k
theorem GB_uniq {P Q : Nat → Prop} {r r' : Int32} (hPQ : ∀ k, P k ↔ Q k) (h : GB P r) (h' : GB Q r') : r = r' := by
  rcases h with ⟨a, b⟩ | ⟨k, a, b, c, d⟩
  · rcases h' with ⟨a', b'⟩ | ⟨k', a', b', c', d'⟩
    · rw [a, a']
    · exact absurd ((hPQ k').mpr b') (b k')
  · rcases h' with ⟨a', b'⟩ | ⟨k', a', b', c', d'⟩
    · exact absurd ((hPQ k).mp b) (b' k)
    · have h1 := d k' ((hPQ k').mpr b')
      have h2 := d' k ((hPQ k).mp b)
      rw [a, a', show k = k' by omega]
def LA (P : Nat → Prop) (r : Int32) : Prop := (r = -9 ∧ ∀ k, ¬ P k) ∨ ∃ k, r = nI k ∧ P k ∧ k < 100 ∧ ∀ j, P j → k ≤ j
theorem LA_uniq {P Q : Nat → Prop} {r r' : Int32} (hPQ : ∀ k, P k ↔ Q k) (h : LA P r) (h' : LA Q r') : r = r' := by
  rcases h with ⟨a, b⟩ | ⟨k, a, b, c, d⟩
  · rcases h' with ⟨a', b'⟩ | ⟨k', a', b', c', d'⟩
    · rw [a, a']
    · exact absurd ((hPQ k').mpr b') (b k')
  · rcases h' with ⟨a', b'⟩ | ⟨k', a', b', c', d'⟩
    · exact absurd ((hPQ k).mp b) (b' k)
    · have h1 := d k' ((hPQ k').mpr b')
      have h2 := d' k ((hPQ k).mp b)
      rw [a, a', show k = k' by omega]
def cF (s : Nat → Int32) (a b k : Nat) : Int32 := if a ≤ k ∧ k ≤ b ∧ s k ≠ -9 then 1 else 0
def vF (s : Nat → Int32) (a b k : Nat) : Int32 := if a ≤ k ∧ k ≤ b ∧ s k ≠ -9 then s k else 0
theorem n_countWithin {D : DD} {p a b : Nat} {s : Nat → Int32} (h : Prs D p s) (ha : a < 1000) (hb : b < 1000) : g_X2_countWithin p (nI a) (nI b) D = some (sI (cF s a b) 100) := by
  have loop : ∀ (d k n : Nat), k + d = 100 → d < n → g_X2_countWithin_5 n p (nI a) (nI b) (sI (cF s a b) k) (nI k) D = some (sI (cF s a b) 100) := by
    intro d
    induction d with
    | zero =>
      intro k n h1 h2
      obtain ⟨n, rfl⟩ : ∃ q, n = q + 1 := ⟨n - 1, by omega⟩
      have hk : k = 100 := by omega
      subst hk
      rw [g_X2_countWithin_5, if_pos nI_100']
    | succ d ih =>
      intro k n h1 h2
      obtain ⟨n, rfl⟩ : ∃ q, n = q + 1 := ⟨n - 1, by omega⟩
      have hk : k < 100 := by omega
      have key := ih (k + 1) n (by omega) (by omega)
      rw [sI] at key
      rw [g_X2_countWithin_5, if_neg (nI_100 hk), n_has hk, h.1 k hk, pcb_some]
      unfold g_X2_countWithin_36
      rw [nI_1]
      by_cases c1 : k < a
      · rw [if_pos (nI_lt c1 (by omega))]
        rw [cF, if_neg (by omega), Int32.add_zero] at key; exact key
      · rw [if_neg (nI_nlt (by omega) (by omega))]
        by_cases c2 : b < k
        · rw [if_pos (nI_lt c2 (by omega))]
          rw [cF, if_neg (by omega), Int32.add_zero] at key; exact key
        · rw [if_neg (nI_nlt (by omega) (by omega))]
          by_cases c3 : s k = -9
          · rw [if_pos c3, if_pos rfl]
            rw [cF, if_neg (fun q => q.2.2 c3), Int32.add_zero] at key; exact key
          · rw [if_neg c3, if_neg one_ne0]
            rw [cF, if_pos ⟨by omega, by omega, c3⟩] at key; exact key
  exact loop 100 0 1000 (by omega) (by omega)
theorem n_sumWithin {D : DD} {p a b : Nat} {s : Nat → Int32} (h : Prs D p s) (ha : a < 1000) (hb : b < 1000) : g_X2_sumWithin p (nI a) (nI b) D = some (sI (vF s a b) 100) := by
  have loop : ∀ (d k n : Nat), k + d = 100 → d < n → g_X2_sumWithin_5 n p (nI a) (nI b) (sI (vF s a b) k) (nI k) D = some (sI (vF s a b) 100) := by
    intro d
    induction d with
    | zero =>
      intro k n h1 h2
      obtain ⟨n, rfl⟩ : ∃ q, n = q + 1 := ⟨n - 1, by omega⟩
      have hk : k = 100 := by omega
      subst hk
      rw [g_X2_sumWithin_5, if_pos nI_100']
    | succ d ih =>
      intro k n h1 h2
      obtain ⟨n, rfl⟩ : ∃ q, n = q + 1 := ⟨n - 1, by omega⟩
      have hk : k < 100 := by omega
      have key := ih (k + 1) n (by omega) (by omega)
      rw [sI] at key
      rw [g_X2_sumWithin_5, if_neg (nI_100 hk), n_has hk, zck_nI hk (by decide), ix_nI (by omega), h.1 k hk, pcb_some]
      unfold g_X2_sumWithin_43
      rw [nI_1]
      by_cases c1 : k < a
      · rw [if_pos (nI_lt c1 (by omega))]
        rw [vF, if_neg (by omega), Int32.add_zero] at key; exact key
      · rw [if_neg (nI_nlt (by omega) (by omega))]
        by_cases c2 : b < k
        · rw [if_pos (nI_lt c2 (by omega))]
          rw [vF, if_neg (by omega), Int32.add_zero] at key; exact key
        · rw [if_neg (nI_nlt (by omega) (by omega))]
          by_cases c3 : s k = -9
          · rw [if_pos c3, if_pos rfl]
            rw [vF, if_neg (fun q => q.2.2 c3), Int32.add_zero] at key; exact key
          · rw [if_neg c3, if_neg one_ne0]
            rw [vF, if_pos ⟨by omega, by omega, c3⟩] at key; exact key
  exact loop 100 0 1000 (by omega) (by omega)
theorem n_greatest {D : DD} {p a : Nat} {s : Nat → Int32} (h : Prs D p s) (ha : a < 1000) : ∃ r, g_X2_greatestBelow p (nI a) D = some r ∧ GB (fun k => k < 100 ∧ k < a ∧ s k ≠ -9) r := by
  have loop : ∀ (d k n : Nat) (r : Int32), k + d = 100 → d < n → GB (fun j => j < k ∧ j < a ∧ s j ≠ -9) r → ∃ r', g_X2_greatestBelow_5 n p (nI a) r (nI k) D = some r' ∧ GB (fun k => k < 100 ∧ k < a ∧ s k ≠ -9) r' := by
    intro d
    induction d with
    | zero =>
      intro k n r h1 h2 hr
      obtain ⟨n, rfl⟩ : ∃ q, n = q + 1 := ⟨n - 1, by omega⟩
      have hk : k = 100 := by omega
      subst hk
      rw [g_X2_greatestBelow_5, if_pos nI_100']
      exact ⟨r, rfl, hr⟩
    | succ d ih =>
      intro k n r h1 h2 hr
      obtain ⟨n, rfl⟩ : ∃ q, n = q + 1 := ⟨n - 1, by omega⟩
      have hk : k < 100 := by omega
      rw [g_X2_greatestBelow_5, if_neg (nI_100 hk), n_has hk, h.1 k hk, pcb_some]
      unfold g_X2_greatestBelow_26
      rw [nI_1]
      have same : ¬ (k < a ∧ s k ≠ -9) → GB (fun j => j < k + 1 ∧ j < a ∧ s j ≠ -9) r := by
        intro hn
        rcases hr with ⟨q1, q2⟩ | ⟨j, q1, q2, q3, q4⟩
        · refine Or.inl ⟨q1, fun i hi => ?_⟩
          by_cases e : i = k
          · subst e; exact hn hi.2
          · exact q2 i ⟨by omega, hi.2⟩
        · refine Or.inr ⟨j, q1, ⟨by omega, q2.2⟩, q3, fun i hi => ?_⟩
          by_cases e : i = k
          · subst e; exact absurd hi.2 hn
          · exact q4 i ⟨by omega, hi.2⟩
      by_cases c1 : a ≤ k
      · rw [if_pos (nI_le c1 (by omega))]
        exact ih (k + 1) n r (by omega) (by omega) (same (fun q => by omega))
      · rw [if_neg (nI_ge (by omega) (by omega))]
        by_cases c3 : s k = -9
        · rw [if_pos c3, if_pos rfl]
          exact ih (k + 1) n r (by omega) (by omega) (same (fun q => q.2 c3))
        · rw [if_neg c3, if_neg one_ne0]
          exact ih (k + 1) n (nI k) (by omega) (by omega) (Or.inr ⟨k, rfl, ⟨by omega, by omega, c3⟩, hk, fun j hj => by omega⟩)
  have := loop 100 0 1000 (-9) (by omega) (by omega) (Or.inl ⟨rfl, fun k hk => by omega⟩)
  exact this
theorem n_least {D : DD} {p b : Nat} {s : Nat → Int32} (h : Prs D p s) (hb : b < 1000) : ∃ r, g_X2_leastAbove p (nI b) D = some r ∧ LA (fun k => k < 100 ∧ b < k ∧ s k ≠ -9) r := by
  have loop : ∀ (d k n : Nat), k + d = 100 → d < n → (∀ j, j < k → ¬ (b < j ∧ s j ≠ -9)) → ∃ r', g_X2_leastAbove_2 n p (nI b) (nI k) D = some r' ∧ LA (fun k => k < 100 ∧ b < k ∧ s k ≠ -9) r' := by
    intro d
    induction d with
    | zero =>
      intro k n h1 h2 hr
      obtain ⟨n, rfl⟩ : ∃ q, n = q + 1 := ⟨n - 1, by omega⟩
      have hk : k = 100 := by omega
      subst hk
      rw [g_X2_leastAbove_2, if_pos nI_100']
      exact ⟨-9, rfl, Or.inl ⟨rfl, fun k hk => hr k hk.1 hk.2⟩⟩
    | succ d ih =>
      intro k n h1 h2 hr
      obtain ⟨n, rfl⟩ : ∃ q, n = q + 1 := ⟨n - 1, by omega⟩
      have hk : k < 100 := by omega
      rw [g_X2_leastAbove_2, if_neg (nI_100 hk), n_has hk, h.1 k hk, pcb_some]
      unfold g_X2_leastAbove_23
      rw [nI_1]
      have same : ¬ (b < k ∧ s k ≠ -9) → ∀ j, j < k + 1 → ¬ (b < j ∧ s j ≠ -9) := by
        intro hn j hj
        by_cases e : j = k
        · subst e; exact hn
        · exact hr j (by omega)
      by_cases c1 : k ≤ b
      · rw [if_pos (nI_le c1 (by omega))]
        exact ih (k + 1) n (by omega) (by omega) (same (fun q => by omega))
      · rw [if_neg (nI_ge (by omega) (by omega))]
        by_cases c3 : s k = -9
        · rw [if_pos c3, if_pos rfl]
          exact ih (k + 1) n (by omega) (by omega) (same (fun q => q.2 c3))
        · rw [if_neg c3, if_neg one_ne0]
          refine ⟨nI k, rfl, Or.inr ⟨k, rfl, ⟨hk, by omega, c3⟩, hk, fun j hj => ?_⟩⟩
          rcases Nat.lt_or_ge j k with q | q
          · exact absurd hj.2 (hr j q)
          · exact q
  have := loop 100 0 1000 (by omega) (by omega) (fun j hj => by omega)
  exact this
def ans (w : Nat) (v0 v1 v2 v3 v4 : Int32) : Int32 := if w = 0 then v0 else if w = 1 then v1 else if w = 2 then v2 else if w = 3 then v3 else v4
theorem n_learntLoop {D : DD} {m a b c w : Nat} {s : Nat → Int32} {kf : Nat → Nat} (hK : Ks D m s c kf) (hc : c ≤ 100) (h36 : D m 36 = nI c) (ha : a < 100) (hb : b < 100) (hw : w < 5) : ∀ (d i n : Nat) (less more : Int32), i + d = c → d < n → GB (fun k => k < a ∧ ∃ j, j < i ∧ kf j = k) less → LA (fun k => b < k ∧ ∃ j, j < i ∧ kf j = k) more → ∃ less' more' : Int32, g_X9_learnt_52 n m (nI a) (nI b) (nI w) (sI (fun i => cF s a b (kf i)) i) (sI (fun i => vF s a b (kf i)) i) less more (nI i) D = some (ans w (sI (fun i => cF s a b (kf i)) c) (sI (fun i => vF s a b (kf i)) c) less' more' (nI c), D) ∧ GB (fun k => k < a ∧ ∃ j, j < c ∧ kf j = k) less' ∧ LA (fun k => b < k ∧ ∃ j, j < c ∧ kf j = k) more' := by
  intro d
  induction d with
  | zero =>
    intro i n less more h1 h2 hL hM
    obtain ⟨n, rfl⟩ : ∃ q, n = q + 1 := ⟨n - 1, by omega⟩
    have hi : i = c := by omega
    subst hi
    refine ⟨less, more, ?_, hL, hM⟩
    rw [g_X9_learnt_52, h36, if_pos (Int32.le_refl _)]
    match w, hw with
    | 0, _ => rw [if_pos (show nI 0 = 0 from rfl)]; rfl
    | 1, _ => rw [if_neg (by decide), if_pos (show nI 1 = 1 from rfl)]; rfl
    | 2, _ => rw [if_neg (by decide), if_neg (show ¬ nI 2 = 1 by decide), if_pos (show nI 2 = 2 from rfl)]; rfl
    | 3, _ => rw [if_neg (by decide), if_neg (show ¬ nI 3 = 1 by decide), if_neg (show ¬ nI 3 = 2 by decide), if_pos (show nI 3 = 3 from rfl)]; rfl
    | 4, _ => rw [if_neg (by decide), if_neg (show ¬ nI 4 = 1 by decide), if_neg (show ¬ nI 4 = 2 by decide), if_neg (show ¬ nI 4 = 3 by decide)]; rfl
  | succ d ih =>
    intro i n less more h1 h2 hL hM
    obtain ⟨n, rfl⟩ : ∃ q, n = q + 1 := ⟨n - 1, by omega⟩
    have hi : i < c := by omega
    obtain ⟨k1, k2, k3, k4⟩ := hK.1 i hi
    have key := fun less' more' => ih (i + 1) n less' more' (by omega) (by omega)
    simp only [sI] at key
    rw [g_X9_learnt_52, h36, if_neg (nI_ge hi (by omega)), zck_nI (by omega) (by decide), ix_nI (by omega), k2, n_in32, pcb_some]
    have L1 : ∀ less', GB (fun k => k < a ∧ ∃ j, j < i + 1 ∧ kf j = k) less' → ∀ more', LA (fun k => b < k ∧ ∃ j, j < i + 1 ∧ kf j = k) more' → ∃ less'' more'' : Int32, g_X9_learnt_52 n m (nI a) (nI b) (nI w) (sI (fun i => cF s a b (kf i)) i + cF s a b (kf i)) (sI (fun i => vF s a b (kf i)) i + vF s a b (kf i)) less' more' (nI i + 1) D = some (ans w (sI (fun i => cF s a b (kf i)) c) (sI (fun i => vF s a b (kf i)) c) less'' more'' (nI c), D) ∧ GB (fun k => k < a ∧ ∃ j, j < c ∧ kf j = k) less'' ∧ LA (fun k => b < k ∧ ∃ j, j < c ∧ kf j = k) more'' := by
      intro less' hl more' hm
      rw [nI_1]
      exact key less' more' hl hm
    -- the greatest below
    have hLess : ∃ less', GB (fun k => k < a ∧ ∃ j, j < i + 1 ∧ kf j = k) less' ∧ ∀ (X : Int32 → Option (Int32 × DD)), (if nI a ≤ nI (kf i) then X less else if nI (kf i) ≤ less then X less else X (nI (kf i))) = X less' := by
      by_cases c1 : a ≤ kf i
      · refine ⟨less, ?_, fun X => by rw [if_pos (nI_le c1 (by omega))]⟩
        rcases hL with ⟨q1, q2⟩ | ⟨k, q1, q2, q3, q4⟩
        · refine Or.inl ⟨q1, fun k hk => ?_⟩
          obtain ⟨hka, j, hj, ej⟩ := hk
          by_cases e : j = i
          · subst e; omega
          · exact q2 k ⟨hka, j, by omega, ej⟩
        · refine Or.inr ⟨k, q1, ⟨q2.1, by obtain ⟨j, hj, ej⟩ := q2.2; exact ⟨j, by omega, ej⟩⟩, q3, fun k' hk => ?_⟩
          obtain ⟨hka, j, hj, ej⟩ := hk
          by_cases e : j = i
          · subst e; omega
          · exact q4 k' ⟨hka, j, by omega, ej⟩
      · rcases hL with ⟨q1, q2⟩ | ⟨k, q1, q2, q3, q4⟩
        · refine ⟨nI (kf i), Or.inr ⟨kf i, rfl, ⟨by omega, i, by omega, rfl⟩, k1, fun k' hk => ?_⟩, fun X => ?_⟩
          · obtain ⟨hka, j, hj, ej⟩ := hk
            by_cases e : j = i
            · subst e; omega
            · exact absurd ⟨hka, j, by omega, ej⟩ (q2 k')
          · rw [if_neg (nI_ge (by omega) (by omega)), if_neg]
            rw [q1]
            intro q
            exact absurd (Int32.le_trans (nI_pos' (by omega)) q) (by decide)
        · by_cases c2 : kf i ≤ k
          · refine ⟨less, Or.inr ⟨k, q1, ⟨q2.1, by obtain ⟨j, hj, ej⟩ := q2.2; exact ⟨j, by omega, ej⟩⟩, q3, fun k' hk => ?_⟩, fun X => ?_⟩
            · obtain ⟨hka, j, hj, ej⟩ := hk
              by_cases e : j = i
              · subst e; omega
              · exact q4 k' ⟨hka, j, by omega, ej⟩
            · rw [if_neg (nI_ge (by omega) (by omega)), q1, if_pos (nI_le c2 (by omega))]
          · refine ⟨nI (kf i), Or.inr ⟨kf i, rfl, ⟨by omega, i, by omega, rfl⟩, k1, fun k' hk => ?_⟩, fun X => ?_⟩
            · obtain ⟨hka, j, hj, ej⟩ := hk
              by_cases e : j = i
              · subst e; omega
              · have := q4 k' ⟨hka, j, by omega, ej⟩; omega
            · rw [if_neg (nI_ge (by omega) (by omega)), q1, if_neg (nI_ge (by omega) (by omega))]
    have hMore : ∃ more', LA (fun k => b < k ∧ ∃ j, j < i + 1 ∧ kf j = k) more' ∧ ∀ (X : Int32 → Option (Int32 × DD)), (if nI (kf i) ≤ nI b then X more else if more = -9 then X (nI (kf i)) else if more ≤ nI (kf i) then X more else X (nI (kf i))) = X more' := by
      by_cases c1 : kf i ≤ b
      · refine ⟨more, ?_, fun X => by rw [if_pos (nI_le c1 (by omega))]⟩
        rcases hM with ⟨q1, q2⟩ | ⟨k, q1, q2, q3, q4⟩
        · refine Or.inl ⟨q1, fun k hk => ?_⟩
          obtain ⟨hka, j, hj, ej⟩ := hk
          by_cases e : j = i
          · subst e; omega
          · exact q2 k ⟨hka, j, by omega, ej⟩
        · refine Or.inr ⟨k, q1, ⟨q2.1, by obtain ⟨j, hj, ej⟩ := q2.2; exact ⟨j, by omega, ej⟩⟩, q3, fun k' hk => ?_⟩
          obtain ⟨hka, j, hj, ej⟩ := hk
          by_cases e : j = i
          · subst e; omega
          · exact q4 k' ⟨hka, j, by omega, ej⟩
      · rcases hM with ⟨q1, q2⟩ | ⟨k, q1, q2, q3, q4⟩
        · refine ⟨nI (kf i), Or.inr ⟨kf i, rfl, ⟨by omega, i, by omega, rfl⟩, k1, fun k' hk => ?_⟩, fun X => ?_⟩
          · obtain ⟨hka, j, hj, ej⟩ := hk
            by_cases e : j = i
            · subst e; omega
            · exact absurd ⟨hka, j, by omega, ej⟩ (q2 k')
          · rw [if_neg (nI_ge (by omega) (by omega)), if_pos q1]
        · have hne : ¬ more = -9 := by rw [q1]; exact nI_ne9 (by omega)
          by_cases c2 : k ≤ kf i
          · refine ⟨more, Or.inr ⟨k, q1, ⟨q2.1, by obtain ⟨j, hj, ej⟩ := q2.2; exact ⟨j, by omega, ej⟩⟩, q3, fun k' hk => ?_⟩, fun X => ?_⟩
            · obtain ⟨hka, j, hj, ej⟩ := hk
              by_cases e : j = i
              · subst e; omega
              · exact q4 k' ⟨hka, j, by omega, ej⟩
            · rw [if_neg (nI_ge (by omega) (by omega)), if_neg hne, q1, if_pos (nI_le c2 (by omega))]
          · refine ⟨nI (kf i), Or.inr ⟨kf i, rfl, ⟨by omega, i, by omega, rfl⟩, k1, fun k' hk => ?_⟩, fun X => ?_⟩
            · obtain ⟨hka, j, hj, ej⟩ := hk
              by_cases e : j = i
              · subst e; omega
              · have := q4 k' ⟨hka, j, by omega, ej⟩; omega
            · rw [if_neg (nI_ge (by omega) (by omega)), if_neg hne, q1, if_neg (nI_ge (by omega) (by omega))]
    obtain ⟨less', l1, l2⟩ := hLess
    obtain ⟨more', m1, m2⟩ := hMore
    obtain ⟨less'', more'', r1, r2, r3⟩ := L1 less' l1 more' m1
    refine ⟨less'', more'', ?_, r2, r3⟩
    rw [← r1]
    unfold g_X9_learnt_90 g_X9_learnt_119 g_X9_learnt_140 g_X9_learnt_142 g_X9_learnt_164 g_X9_learnt_169 g_X9_learnt_171
    have step : ∀ v4 v5 : Int32, (if nI a ≤ nI (kf i) then (if nI (kf i) ≤ nI b then g_X9_learnt_52 n m (nI a) (nI b) (nI w) v4 v5 less more (nI i + 1) D else if more = -9 then g_X9_learnt_52 n m (nI a) (nI b) (nI w) v4 v5 less (nI (kf i)) (nI i + 1) D else if more ≤ nI (kf i) then g_X9_learnt_52 n m (nI a) (nI b) (nI w) v4 v5 less more (nI i + 1) D else g_X9_learnt_52 n m (nI a) (nI b) (nI w) v4 v5 less (nI (kf i)) (nI i + 1) D) else if nI (kf i) ≤ less then (if nI (kf i) ≤ nI b then g_X9_learnt_52 n m (nI a) (nI b) (nI w) v4 v5 less more (nI i + 1) D else if more = -9 then g_X9_learnt_52 n m (nI a) (nI b) (nI w) v4 v5 less (nI (kf i)) (nI i + 1) D else if more ≤ nI (kf i) then g_X9_learnt_52 n m (nI a) (nI b) (nI w) v4 v5 less more (nI i + 1) D else g_X9_learnt_52 n m (nI a) (nI b) (nI w) v4 v5 less (nI (kf i)) (nI i + 1) D) else (if nI (kf i) ≤ nI b then g_X9_learnt_52 n m (nI a) (nI b) (nI w) v4 v5 (nI (kf i)) more (nI i + 1) D else if more = -9 then g_X9_learnt_52 n m (nI a) (nI b) (nI w) v4 v5 (nI (kf i)) (nI (kf i)) (nI i + 1) D else if more ≤ nI (kf i) then g_X9_learnt_52 n m (nI a) (nI b) (nI w) v4 v5 (nI (kf i)) more (nI i + 1) D else g_X9_learnt_52 n m (nI a) (nI b) (nI w) v4 v5 (nI (kf i)) (nI (kf i)) (nI i + 1) D)) = g_X9_learnt_52 n m (nI a) (nI b) (nI w) v4 v5 less' more' (nI i + 1) D := by
      intro v4 v5
      have a1 := l2 (fun le => if nI (kf i) ≤ nI b then g_X9_learnt_52 n m (nI a) (nI b) (nI w) v4 v5 le more (nI i + 1) D else if more = -9 then g_X9_learnt_52 n m (nI a) (nI b) (nI w) v4 v5 le (nI (kf i)) (nI i + 1) D else if more ≤ nI (kf i) then g_X9_learnt_52 n m (nI a) (nI b) (nI w) v4 v5 le more (nI i + 1) D else g_X9_learnt_52 n m (nI a) (nI b) (nI w) v4 v5 le (nI (kf i)) (nI i + 1) D)
      have a2 := m2 (fun mo => g_X9_learnt_52 n m (nI a) (nI b) (nI w) v4 v5 less' mo (nI i + 1) D)
      exact a1.trans a2
    by_cases cin : nI a ≤ nI (kf i) ∧ nI (kf i) ≤ nI b
    · have e1 : cF s a b (kf i) = 1 := if_pos ⟨(nI_le_iff (by omega) (by omega)).mp cin.1, (nI_le_iff (by omega) (by omega)).mp cin.2, k4⟩
      have e2 : vF s a b (kf i) = s (kf i) := if_pos ⟨(nI_le_iff (by omega) (by omega)).mp cin.1, (nI_le_iff (by omega) (by omega)).mp cin.2, k4⟩
      simp only [n_in32, pcb_some, zck_nI (show i < 100 by omega) (show 100 ≤ 100000 by decide), ix_nI (show i < 2 ^ 31 by omega), k3, if_pos cin, if_neg one_ne0]
      rw [e1, e2]
      exact step _ _
    · have e1 : cF s a b (kf i) = 0 := if_neg (fun q => cin ⟨nI_le q.1 (by omega), nI_le q.2.1 (by omega)⟩)
      have e2 : vF s a b (kf i) = 0 := if_neg (fun q => cin ⟨nI_le q.1 (by omega), nI_le q.2.1 (by omega)⟩)
      simp only [n_in32, pcb_some, if_neg cin, if_pos]
      rw [e1, e2]
      exact step _ _
theorem sI_cn (s : Nat → Int32) : ∀ n, sI (fun k => if s k = -9 then 0 else 1) n = nI (cnF s 0 n) := by
  intro n
  induction n with
  | zero => rfl
  | succ n ih =>
    rw [sI, cnF, ih, Nat.zero_add]
    by_cases e : s n = -9
    · rw [if_pos e, if_pos e, Int32.add_zero]; rfl
    · rw [if_neg e, if_neg e, nI_1]
theorem sI_one : ∀ n, sI (fun _ => 1) n = nI n := by
  intro n
  induction n with
  | zero => rfl
  | succ n ih => rw [sI, ih, nI_1]
theorem Ks_count {D : DD} {m c : Nat} {s : Nat → Int32} {kf : Nat → Nat} (hK : Ks D m s c kf) : nI (cn s 0 100) = nI c := by
  have h1 := sI_cn s 100
  rw [sI_perm c kf _ (fun i hi => (hK.1 i hi).1) hK.2.1 (fun k hk hF => hK.2.2 k hk (fun e => hF (if_pos e))), sI_congr (G := fun _ => 1) c (fun i hi => if_neg (hK.1 i hi).2.2.2), sI_one] at h1
  exact h1.symm
theorem fine_of {a b : Nat} {xs fm : List Int32} {tr : Int32} (h : rsn a b xs tr fm = 0) : (rdR a b xs).1 = 0 := by
  unfold rsn at h
  by_cases e : (rdR a b xs).1 = 0
  · exact e
  · simp only [ne_eq, e, not_false_eq_true, if_true] at h
    
theorem op_learnt {D : DD} (h : St D) (x y w : Int32) : ∃ (r : Int32) (D1 D2 : DD), g_X8_learnt 0 x y w D = some (r, D1) ∧ g_X9_learnt 80 x y w D1 = some (r, D2) ∧ St D2 := by
  obtain ⟨f, us, sl, xs, tr, fm, hC, hM, hA⟩ := id h
  unfold g_X8_learnt g_X9_learnt
  simp only [Nat.zero_add]
  rcases range_or x y with ⟨a, b, hab, hb, rfl, rfl, e1, e2⟩ | ⟨e1, e2⟩
  · simp only [e1, e2, pcb_some, if_neg one_ne0]
    have hin : (4 : Int64) = (nI 5 - (1 : Int32)).toInt64 := by decide
    rcases place_or (L := 5) (by omega) w with ⟨j, hj, rfl⟩ | hp
    · rw [if_neg (nI_pos (by omega)), if_pos (show nI j ≤ (4 : Int32) from nI_le (b := 4) (by omega) (by decide)), hin, n_inL (by omega) hj]
      simp only [pcb_some, if_neg one_ne0]
      obtain ⟨D1, q1, q3, -, q2, q5⟩ := n_reasonBy (r := 42) (a := a) (b := b) (by omega) hb hA.2.2.2.1 hA.2.2.2.2.1 hA.2.2.2.2.2.1 hC.row hC.tru
      have hM1 : MI D1 80 f us sl xs tr fm := hM.congr (fun c c1 c2 => q2 c (by omega))
      obtain ⟨D2, p1, p2, p3⟩ := n_reasonOf (m := 80) hab hb hA.2.2.2.1 hA.2.2.2.2.1 hA.2.2.2.2.2.1 hM1.row hM1.tru
      have hS : St D2 := ⟨f, us, sl, xs, tr, fm, (hC.ft q2).congr (fun c hc => p2.1 c (by omega) (by omega)), hM1.fx p2, hA⟩
      rw [q1, dcb_some]
      by_cases hz : rsn a b xs tr fm = 0
      · rw [hz, if_pos (show nI 0 = 0 from nI_0)]
        obtain ⟨c, kf, lf, hf, n1, n2, n3, n4⟩ := p3 (fine_of hz)
        generalize (rdR a b xs).2.1 = s at *
        have hK := NF_keys n1 n4
        obtain ⟨less, more, l1, l2, l3⟩ := n_learntLoop (w := j) hK n2 n3 (by omega : a < 100) hb hj c 0 1000 (-9) (-9) (by omega) (by omega) (Or.inl ⟨rfl, fun k hk => by obtain ⟨-, i, hi, -⟩ := hk; omega⟩) (Or.inl ⟨rfl, fun k hk => by obtain ⟨-, i, hi, -⟩ := hk; omega⟩)
        refine ⟨_, D1, D2, ?_, by rw [p1, dcb_some, hz, if_pos (show nI 0 = 0 from nI_0), show (0 : Int32) = nI 0 from nI_0.symm]; exact l1, hS⟩
        have iff1 : ∀ k, (k < 100 ∧ k < a ∧ s k ≠ -9) ↔ (k < a ∧ ∃ j, j < c ∧ kf j = k) := fun k => ⟨fun ⟨a1, a2, a3⟩ => ⟨a2, hK.2.2 k a1 a3⟩, fun ⟨a2, i, hi, ei⟩ => by subst ei; exact ⟨(hK.1 i hi).1, a2, (hK.1 i hi).2.2.2⟩⟩
        have iff2 : ∀ k, (k < 100 ∧ b < k ∧ s k ≠ -9) ↔ (b < k ∧ ∃ j, j < c ∧ kf j = k) := fun k => ⟨fun ⟨a1, a2, a3⟩ => ⟨a2, hK.2.2 k a1 a3⟩, fun ⟨a2, i, hi, ei⟩ => by subst ei; exact ⟨(hK.1 i hi).1, a2, (hK.1 i hi).2.2.2⟩⟩
        have pc : sI (cF s a b) 100 = sI (fun i => cF s a b (kf i)) c := sI_perm c kf _ (fun i hi => (hK.1 i hi).1) hK.2.1 (fun k hk hF => hK.2.2 k hk (fun e => hF (if_neg (fun q => q.2.2 e))))
        have pv : sI (vF s a b) 100 = sI (fun i => vF s a b (kf i)) c := sI_perm c kf _ (fun i hi => (hK.1 i hi).1) hK.2.1 (fun k hk hF => hK.2.2 k hk (fun e => hF (if_neg (fun q => q.2.2 e))))
        rcases (show j = 0 ∨ j = 1 ∨ j = 2 ∨ j = 3 ∨ j = 4 by omega) with e | e | e | e | e
        · subst e
          rw [if_pos (show nI 0 = 0 from nI_0), n_countWithin q3 (by omega) (by omega), pcb_some, pc]; rfl
        · subst e
          rw [if_neg (by decide), if_pos (show nI 1 = 1 from rfl), n_sumWithin q3 (by omega) (by omega), pcb_some, pv]; rfl
        · subst e
          obtain ⟨r, r1, r2⟩ := n_greatest (a := a) q3 (by omega)
          rw [if_neg (by decide), if_neg (show ¬ nI 2 = 1 by decide), if_pos (show nI 2 = 2 from rfl), r1, pcb_some, GB_uniq iff1 r2 l2]; rfl
        · subst e
          obtain ⟨r, r1, r2⟩ := n_least (b := b) q3 (by omega)
          rw [if_neg (by decide), if_neg (show ¬ nI 3 = 1 by decide), if_neg (show ¬ nI 3 = 2 by decide), if_pos (show nI 3 = 3 from rfl), r1, pcb_some, LA_uniq iff2 r2 l3]; rfl
        · subst e
          rw [if_neg (by decide), if_neg (show ¬ nI 4 = 1 by decide), if_neg (show ¬ nI 4 = 2 by decide), if_neg (show ¬ nI 4 = 3 by decide)]
          show pcb (some (D1 46 1)) _ = _
          rw [pcb_some, q3.2, Ks_count hK]; rfl
      · rw [if_neg (nI_ne0 (by omega) (by omega))]
        refine ⟨_, D1, D2, rfl, ?_, hS⟩
        rw [p1, dcb_some, if_neg (nI_ne0 (by omega) (by omega))]
    · have e8 : ∀ X : Option (Int32 × DD), (if w < 0 then (some ((-2 : Int32), D)) else (if w ≤ 4 then X else (some ((-2 : Int32), D)))) = some (-2, D) := by
        intro X
        by_cases h1 : w < 0
        · rw [if_pos h1]
        · rw [if_neg h1, if_neg]
          intro q
          exact absurd (Int32.le_trans (hp.elim (fun q => absurd q h1) id) q) (by decide)
      rw [e8]
      refine ⟨_, _, _, rfl, ?_, h⟩
      rw [hin, n_inL_f (by omega) hp, pcb_some, if_pos rfl]
  · simp only [e1, e2, pcb_some, if_pos]
    exact ⟨_, _, _, rfl, rfl, h⟩
