theorem Chn_bd {f lf : Nat → Int32} {k c : Nat} {r : List Nat} (hc : c ≤ 100) (h : Chn f lf (k :: r) c) : Bd f (lb r) k := by
  obtain ⟨h1, h2, h3, h4, h5, h6, h7⟩ := h
  refine ⟨Chn_lb h7, by omega, ?_, Or.inr ⟨h2, h4⟩⟩
  cases r with
  | nil => exact Or.inl rfl
  | cons k' r' => exact Or.inr ⟨h7.2.1, fun j j1 j2 j3 => h7.2.2.1 j (by simp only [lb] at j1; omega) j2 j3⟩
set_option maxHeartbeats 1000000 in
/-- closeBefore: all open nodes that are not above c are closed -/
theorem n_closeLoop {f h : Nat → Int32} {a p : Nat} (hap : Ap a p) {c : Nat} (hc : c ≤ 100) (hfc : c < 100 → f c ≠ -9) : ∀ (st : List Nat) (D : DD) (t n : Nat), st.length + t ≤ 100 → st.length < n → Src f h a p D → D a 5 = nI st.length → Opn (D (a + 5)) st → Chn f (D (a + 1)) st c →
    (c < 100 → ∀ j, lb st ≤ j → j < c → f j ≠ -9 → rk j < rk c) → Jc f h a D c → Jb f h a D c (lb st) → (∀ b, bs f (lb st) c = some b → D (a + 3) b = dg f h (lb st) c) →
    ∃ (D' : DD) (st' : List Nat), g_X7_closeBefore_6 n a (nI c) p (oI (bs f (lb st) c)) (nI t) D = some (oI (bs f (lb st') c), D') ∧ Fr a D D' ∧ D' (a + 5) = D (a + 5) ∧ D' (a + 1) = D (a + 1) ∧ D' a 5 = nI st'.length ∧ D' a 6 = D a 6 ∧ (∀ j, f j = -9 → D' (a + 3) j = D (a + 3) j) ∧ st'.length ≤ st.length ∧ Opn (D' (a + 5)) st' ∧ Chn f (D' (a + 1)) st' c ∧ (c < 100 → ∀ j, lb st' ≤ j → j < c → f j ≠ -9 → rk j < rk c) ∧ Jc f h a D' c ∧ Jb f h a D' c (lb st') ∧ (∀ b, bs f (lb st') c = some b → D' (a + 3) b = dg f h (lb st') c) ∧ (st' = [] ∨ (c < 100 ∧ ∀ k, st'.head? = some k → rk c < rk k)) := by
  intro st
  induction st with
  | nil =>
    intro D t n ht hn hs hlen hop hch hcc hJ hJb hd
    obtain ⟨n, rfl⟩ : ∃ m, n = m + 1 := ⟨n - 1, by omega⟩
    refine ⟨D, [], ?_, Fr.rf, rfl, rfl, hlen, rfl, fun _ _ => rfl, Nat.le_refl _, trivial, trivial, hcc, hJ, hJb, hd, Or.inl rfl⟩
    unfold g_X7_closeBefore_6
    by_cases h1 : (100 : Int32) ≤ nI t
    · rw [if_pos h1]
    · rw [if_neg h1, hlen, if_pos (show nI ([] : List Nat).length ≤ 0 by decide)]
  | cons k r ih =>
    intro D t n ht hn hs hlen hop hch hcc hJ hJb hd
    obtain ⟨n, rfl⟩ : ∃ m, n = m + 1 := ⟨n - 1, by omega⟩
    have hlr : r.length + 1 + t ≤ 100 := ht
    have hch' := hch
    obtain ⟨h1, h2, h3, h4, h5, h6, h7⟩ := hch'
    have hk : k < 100 := by omega
    have hdl : ∀ b, bs f (lb r) k = some b → D (a + 3) b = dg f h (lb r) k := fun b hb => (hJ (lb r) k b (Chn_bd hc hch) h1 hb).2.2
    have hlen' : D a 5 = nI (r.length + 1) := hlen
    have go : (c < 100 → rk k < rk c) → ∃ (D' : DD) (st' : List Nat), g_X7_closeBefore_60 (g_X7_closeBefore_6 n) a (nI c) p (oI (bs f (k + 1) c)) (nI t) (nI k) D = some (oI (bs f (lb st') c), D') ∧ Fr a D D' ∧ D' (a + 5) = D (a + 5) ∧ D' (a + 1) = D (a + 1) ∧ D' a 5 = nI st'.length ∧ D' a 6 = D a 6 ∧ (∀ j, f j = -9 → D' (a + 3) j = D (a + 3) j) ∧ st'.length ≤ (k :: r).length ∧ Opn (D' (a + 5)) st' ∧ Chn f (D' (a + 1)) st' c ∧ (c < 100 → ∀ j, lb st' ≤ j → j < c → f j ≠ -9 → rk j < rk c) ∧ Jc f h a D' c ∧ Jb f h a D' c (lb st') ∧ (∀ b, bs f (lb st') c = some b → D' (a + 3) b = dg f h (lb st') c) ∧ (st' = [] ∨ (c < 100 ∧ ∀ k, st'.head? = some k → rk c < rk k)) := by
      intro hkc
      obtain ⟨D1, e1, e2, e3, e4, e5, e6, e7, e8, e9, e10, e11, e12⟩ := n_close1 hap (g_X7_closeBefore_6 n) hc hs hlen' hch hcc hkc hJ hJb hdl hd (t := t)
      have hchr : Chn f (D1 (a + 1)) r c := by
        rw [e4]
        cases r with
        | nil => trivial
        | cons k' r' =>
          obtain ⟨g1, g2, g3, g4, g5, g6, g7⟩ := h7
          refine ⟨by omega, g2, fun j j1 j2 j3 => ?_, g4, g5, g6, g7⟩
          have hkk := h6 k' rfl
          rcases Nat.lt_trichotomy j k with q | q | q
          · exact g3 j j1 q j3
          · subst q; exact hkk
          · exact Nat.lt_trans (h3 j q j2 j3) hkk
      obtain ⟨D2, st', i1, i2, i3, i4, i5, i6, i9, i7, i8⟩ := ih D1 (t + 1) n (by omega) (by simp only [List.length_cons] at hn; omega) (hs.fr hap e2) e5 (by rw [e3]; exact hop.2) hchr e10 e8 e9 (fun b hb => by rw [e11] at hb; cases hb; exact e12)
      exact ⟨D2, st', by rw [e1]; exact i1, e2.tr i2, i3.trans e3, i4.trans e4, i5, i6.trans e6, fun j hj => (i9 j hj).trans (e7 j (fun e => h2 (by rw [← e]; exact hj))).2, Nat.le_succ_of_le i7, i8⟩
    have htop : D (a + 5) (ix ((D a 5) - (1 : Int32))) = nI k := by
      rw [hlen', show nI (r.length + 1) - (1 : Int32) = nI r.length from nI_pred _, ix_nI (by omega)]; exact hop.1
    have hin : inb (D a 5 - 1) 100 = true := by rw [hlen', show nI (r.length + 1) - (1 : Int32) = nI r.length from nI_pred _]; exact inb_nI (by omega) (by decide)
    unfold g_X7_closeBefore_6
    rw [if_neg (nI_100 (by omega)), if_neg (by rw [hlen']; exact nI_nle (by omega) (by omega)), zck_t hin, htop, n_isNumber hk, pcb_some, if_neg one_ne0]
    by_cases hc1 : c < 100
    · rw [n_isNumber hc1, pcb_some, if_neg one_ne0, n_above8 hk hc1, pcb_some]
      by_cases hab : rk c < rk k
      · rw [if_pos hab, if_neg one_ne0]
        exact ⟨D, k :: r, rfl, Fr.rf, rfl, rfl, hlen, rfl, fun _ _ => rfl, Nat.le_refl _, hop, hch, hcc, hJ, hJb, hd, Or.inr ⟨hc1, fun k2 e => by cases e; exact hab⟩⟩
      · rw [if_neg hab, if_pos rfl]
        refine go (fun _ => ?_)
        rcases Nat.lt_or_ge (rk k) (rk c) with q | q
        · exact q
        · have := rk_inj k hk c hc1 (by omega)
          omega
    · rw [show c = 100 by omega, show g_X8_isNumber (nI 100) = some 0 from n_isNumber_f (by unfold isNum; decide), pcb_some, if_pos rfl]
      have hc2 : c = 100 := by omega
      subst hc2
      exact go (fun q => absurd q (by omega))
