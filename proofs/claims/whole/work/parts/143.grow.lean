/-! ===== grow: the tree of some keys, by a row of nodes that are still open ===== -/
def lb : List Nat → Nat
  | [] => 0
  | k :: _ => k + 1
def Opn (ar : Nat → Int32) : List Nat → Prop
  | [] => True
  | k :: r => ar r.length = nI k ∧ Opn ar r
def Chn (f lf : Nat → Int32) : List Nat → Nat → Prop
  | [], _ => True
  | k :: r, c => k < c ∧ f k ≠ -9 ∧ (∀ j, k < j → j < c → f j ≠ -9 → rk j < rk k) ∧ (∀ j, lb r ≤ j → j < k → f j ≠ -9 → rk j < rk k) ∧ lf k = oI (bs f (lb r) k) ∧ (∀ k', r.head? = some k' → rk k < rk k') ∧ Chn f lf r k
theorem Chn_lb {f lf : Nat → Int32} : ∀ {st : List Nat} {c : Nat}, Chn f lf st c → lb st ≤ c
  | [], _, _ => Nat.zero_le _
  | _ :: _, _, h => h.1
theorem Chn_congr {f lf lf' : Nat → Int32} : ∀ {st : List Nat} {c : Nat}, (∀ j, j < c → lf' j = lf j) → Chn f lf st c → Chn f lf' st c
  | [], _, _, _ => trivial
  | k :: r, c, h, ⟨h1, h2, h3, h4, h5, h6, h7⟩ => ⟨h1, h2, h3, h4, by rw [h k h1]; exact h5, h6, Chn_congr (fun j hj => h j (by omega)) h7⟩
theorem Opn_congr {ar ar' : Nat → Int32} : ∀ {st : List Nat}, (∀ j, j < st.length → ar' j = ar j) → Opn ar st → Opn ar' st
  | [], _, _ => trivial
  | k :: r, h, ⟨h1, h2⟩ => ⟨by rw [h _ (Nat.lt_succ_self _)]; exact h1, Opn_congr (fun j hj => h j (Nat.lt_succ_of_lt hj)) h2⟩
/-- what is right of a closed key -/
def Cl (f h : Nat → Int32) (a : Nat) (D : DD) (lo hi k : Nat) : Prop := D (a + 1) k = oI (bs f lo k) ∧ D (a + 2) k = oI (bs f (k + 1) hi) ∧ D (a + 3) k = dg f h lo hi
def Jc (f h : Nat → Int32) (a : Nat) (D : DD) (c : Nat) : Prop := ∀ lo hi k, Bd f lo hi → hi < c → bs f lo hi = some k → Cl f h a D lo hi k
def Jb (f h : Nat → Int32) (a : Nat) (D : DD) (c m : Nat) : Prop := ∀ lo k, Bd f lo c → bs f lo c = some k → m ≤ k → Cl f h a D lo c k
/-- the map and the gaps as they stand in memory -/
def Src (f h : Nat → Int32) (a p : Nat) (D : DD) : Prop := (∀ k, k < 100 → D (p + 1) k = f k) ∧ ∀ k, k ≤ 100 → D (a + 4) k = h k
/-- the same but for the tree's own arrays -/
def Fr (a : Nat) (D D' : DD) : Prop := (∀ b, b ≠ a → b ≠ a + 1 → b ≠ a + 2 → b ≠ a + 3 → b ≠ a + 5 → D' b = D b) ∧ ∀ j, j ≠ 5 → j ≠ 6 → D' a j = D a j
theorem Fr.rf {a : Nat} {D : DD} : Fr a D D := ⟨fun _ _ _ _ _ _ => rfl, fun _ _ _ => rfl⟩
theorem Fr.tr {a : Nat} {D D' D'' : DD} (h1 : Fr a D D') (h2 : Fr a D' D'') : Fr a D D'' := ⟨fun b c1 c2 c3 c4 c5 => (h2.1 b c1 c2 c3 c4 c5).trans (h1.1 b c1 c2 c3 c4 c5), fun j c1 c2 => (h2.2 j c1 c2).trans (h1.2 j c1 c2)⟩
def Ap (a p : Nat) : Prop := p + 1 < a ∨ a + 5 < p
theorem Src.fr {f h : Nat → Int32} {a p : Nat} {D D' : DD} (hap : Ap a p) (hf : Fr a D D') (hs : Src f h a p D) : Src f h a p D' := by
  refine ⟨fun k hk => ?_, fun k hk => ?_⟩
  · rw [hf.1 (p + 1) (by rcases hap with q | q <;> omega) (by rcases hap with q | q <;> omega) (by rcases hap with q | q <;> omega) (by rcases hap with q | q <;> omega) (by rcases hap with q | q <;> omega)]; exact hs.1 k hk
  · rw [hf.1 (a + 4) (by omega) (by omega) (by omega) (by omega) (by omega)]; exact hs.2 k hk
theorem n_digestOr {f h : Nat → Int32} {a p lo hi : Nat} {D : DD} (hs : Src f h a p D) (hh : hi ≤ 100) (hd : ∀ k, bs f lo hi = some k → D (a + 3) k = dg f h lo hi) : g_X7_digestOr a (oI (bs f lo hi)) (nI hi) D = some (dg f h lo hi) := by
  cases e : bs f lo hi with
  | none => rw [dg_none e]; show g_X7_digestOr a (-9) _ D = _; rw [n_digestOr_n hh, hs.2 hi hh]
  | some k =>
    obtain ⟨a1, a2, -, -⟩ := bs_some e
    show g_X7_digestOr a (nI k) _ D = _
    rw [n_digestOr_s (by omega), hd k e]
set_option maxHeartbeats 1000000 in
/-- one node is closed by c -/
theorem n_close1 {f h : Nat → Int32} {a p : Nat} (hap : Ap a p) (kk : Nat → Int32 → Nat → Int32 → Int32 → DD → Option (Int32 × DD)) {k c : Nat} {r : List Nat} {D : DD} {t : Nat} (hc : c ≤ 100) (hs : Src f h a p D)
    (hlen : D a 5 = nI (r.length + 1)) (hch : Chn f (D (a + 1)) (k :: r) c) (hcc : c < 100 → ∀ j, lb (k :: r) ≤ j → j < c → f j ≠ -9 → rk j < rk c) (hkc : c < 100 → rk k < rk c) (hJ : Jc f h a D c) (hJb : Jb f h a D c (k + 1)) (hdl : ∀ b, bs f (lb r) k = some b → D (a + 3) b = dg f h (lb r) k) (hdr : ∀ b, bs f (k + 1) c = some b → D (a + 3) b = dg f h (k + 1) c) :
    ∃ D', g_X7_closeBefore_60 kk a (nI c) p (oI (bs f (k + 1) c)) (nI t) (nI k) D = kk a (nI c) p (oI (bs f (lb r) c)) (nI (t + 1)) D' ∧ Fr a D D' ∧ D' (a + 5) = D (a + 5) ∧ D' (a + 1) = D (a + 1) ∧ D' a 5 = nI r.length ∧ D' a 6 = D a 6 ∧ (∀ j, j ≠ k → D' (a + 2) j = D (a + 2) j ∧ D' (a + 3) j = D (a + 3) j) ∧ Jc f h a D' c ∧ Jb f h a D' c (lb r) ∧ (c < 100 → ∀ j, lb r ≤ j → j < c → f j ≠ -9 → rk j < rk c) ∧ bs f (lb r) c = some k ∧ D' (a + 3) k = dg f h (lb r) c := by
  obtain ⟨h1, h2, h3, h4, h5, h6, h7⟩ := hch
  have hk : k < 100 := by omega
  have hlbk : lb r ≤ k := Chn_lb h7
  have hb : bs f (lb r) c = some k := bs_of hc hlbk h1 h2 (fun j j1 j2 j3 j4 => by
    rcases Nat.lt_or_ge j k with q | q
    · exact h4 j j1 q j3
    · exact h3 j (by omega) j2 j3)
  have hdg := dg_some (h := h) hb
  have q1 : u2 (u2 D a 5 (nI r.length)) (a + 2) k (oI (bs f (k + 1) c)) = (fun b => if b = a + 2 then upd (D (a + 2)) k (oI (bs f (k + 1) c)) else if b = a then upd (D a) 5 (nI r.length) else D b) := by
    funext b
    by_cases e1 : b = a + 2
    · subst e1; rw [u2_same, u2_ne D _ (by omega), if_pos rfl]
    · rw [u2_ne _ _ e1, if_neg e1]
      by_cases e2 : b = a
      · subst e2; rw [u2_same, if_pos rfl]
      · rw [u2_ne _ _ e2, if_neg e2]
  unfold g_X7_closeBefore_60
  rw [hlen, show nI (r.length + 1) - (1 : Int32) = nI r.length from nI_pred _, dlt_eq, zck_nI hk (by decide), dlt_eq, ix_nI (by omega), q1]
  generalize hD2 : (fun b => if b = a + 2 then upd (D (a + 2)) k (oI (bs f (k + 1) c)) else if b = a then upd (D a) 5 (nI r.length) else D b) = D2
  have d1 : D2 (a + 1) = D (a + 1) := by rw [← hD2]; simp
  have d2 : D2 (a + 2) = upd (D (a + 2)) k (oI (bs f (k + 1) c)) := by rw [← hD2]; simp
  have d3 : D2 (a + 3) = D (a + 3) := by rw [← hD2]; simp
  have d5 : D2 (a + 5) = D (a + 5) := by rw [← hD2]; simp
  have d0 : D2 a = upd (D a) 5 (nI r.length) := by rw [← hD2]; simp
  have hF2 : Fr a D D2 := ⟨fun b c1 c2 c3 c4 c5 => by rw [← hD2]; simp [c1, c3], fun j c1 c2 => by rw [d0, upd_ne _ _ c1]⟩
  have hs2 := hs.fr hap hF2
  rw [n_valueOf hk, pcb_some, hs2.1 k hk, zck_nI hk (by decide), d1, h5, n_digestOr hs2 (by omega) (fun b hb2 => by rw [d3]; exact hdl b hb2), pcb_some, n_digestOr hs2 hc (fun b hb2 => by rw [d3]; exact hdr b hb2), pcb_some, n_digest8, pcb_some, zck_nI hk (by decide), dlt_eq, nI_1, ← hdg, hb]
  refine ⟨_, rfl, ?_, ?_, ?_, ?_, ?_, ?_, ?_, ?_, ?_, rfl, ?_⟩
  · exact hF2.tr ⟨fun b c1 c2 c3 c4 c5 => u2_ne _ _ c4, fun j c1 c2 => by rw [u2_ne _ _ (by omega)]⟩
  · rw [u2_ne _ _ (by omega), d5]
  · rw [u2_ne _ _ (by omega), d1]
  · rw [u2_ne _ _ (by omega), d0, upd_same]
  · rw [u2_ne _ _ (by omega), d0, upd_ne _ _ (by omega)]
  · intro j hj
    exact ⟨by rw [u2_ne _ _ (by omega), d2, upd_ne _ _ hj], by rw [u2_same, upd_ne _ _ hj, d3]⟩
  · intro lo hi k2 b1 b2 b3
    obtain ⟨a1, a2, a3, a4⟩ := bs_some b3
    have hne : k2 ≠ k := by
      intro e
      subst e
      obtain ⟨-, b4, -, b5⟩ := b1
      rcases b5 with b5 | ⟨b5, b6⟩
      · omega
      · have := h3 hi a2 b2 b5
        have := b6 k2 a1 a2 a3
        omega
    obtain ⟨c1, c2, c3⟩ := hJ lo hi k2 b1 b2 b3
    exact ⟨by rw [u2_ne _ _ (by omega), d1]; exact c1, by rw [u2_ne _ _ (by omega), d2, upd_ne _ _ hne]; exact c2, by rw [u2_same, upd_ne _ _ hne, d3]; exact c3⟩
  · intro lo k2 b1 b2 b3
    obtain ⟨a1, a2, a3, a4⟩ := bs_some b2
    by_cases e : k2 = k
    · subst e
      have hlo : lo = lb r := by
        rcases Nat.lt_trichotomy lo (lb r) with q | q | q
        · cases r with
          | nil => simp [lb] at q
          | cons k' r' =>
            have q' : lo ≤ k' := by simp only [lb] at q; omega
            have h8 := h6 k' rfl
            have h9 : k' < k2 := h7.1
            have := a4 k' q' (by omega) h7.2.1
            omega
        · exact q
        · obtain ⟨-, -, b5, -⟩ := b1
          rcases b5 with b5 | ⟨b5, b6⟩
          · omega
          · have := h4 (lo - 1) (by omega) (by omega) b5
            have := b6 k2 a1 a2 a3
            omega
      subst hlo
      exact ⟨by rw [u2_ne _ _ (by omega), d1]; exact h5, by rw [u2_ne _ _ (by omega), d2, upd_same], by rw [u2_same, upd_same]⟩
    · have hgt : k + 1 ≤ k2 := by
        rcases Nat.lt_or_ge k2 k with q | q
        · have q2 := h4 k2 b3 q a3
          have := a4 k (by omega) h1 h2
          omega
        · omega
      obtain ⟨c1, c2, c3⟩ := hJb lo k2 b1 b2 hgt
      exact ⟨by rw [u2_ne _ _ (by omega), d1]; exact c1, by rw [u2_ne _ _ (by omega), d2, upd_ne _ _ e]; exact c2, by rw [u2_same, upd_ne _ _ e, d3]; exact c3⟩
  · intro hc1 j j1 j2 j3
    have hq := hkc hc1
    rcases Nat.lt_trichotomy j k with q | q | q
    · have := h4 j j1 q j3; omega
    · subst q; exact hq
    · exact hcc hc1 j q j2 j3
  · rw [u2_same, upd_same]
