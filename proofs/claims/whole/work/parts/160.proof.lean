/-! ===== proofs: the items of a range ===== -/
def itm (k : Nat) (v : Int32) : Int32 := (-100 : Int32) - (((100 : Int32) * nI k) + v)
def pfF (f : Nat → Int32) (a b : Nat) : Nat → Nat → Nat → List Int32
  | 0, _, _ => [0]
  | n + 1, lo, hi => match bs f lo hi with
    | none => [0]
    | some k => if lo ≤ b ∧ a < hi then itm k (f k) :: (pfF f a b n lo k ++ pfF f a b n (k + 1) hi) else [dg f zg lo hi]
theorem pfF_fuel (f : Nat → Int32) (a b : Nat) : ∀ (n m lo hi : Nat), hi - lo ≤ n → hi - lo ≤ m → pfF f a b n lo hi = pfF f a b m lo hi := by
  intro n
  induction n with
  | zero =>
    intro m lo hi h1 h2
    have e : bs f lo hi = none := bs_none_of (fun j a b => by omega)
    cases m with
    | zero => rfl
    | succ m => simp only [pfF, e]
  | succ n ih =>
    intro m lo hi h1 h2
    cases m with
    | zero =>
      have e : bs f lo hi = none := bs_none_of (fun j a b => by omega)
      simp only [pfF, e]
    | succ m =>
      cases e : bs f lo hi with
      | none => simp only [pfF, e]
      | some k =>
        obtain ⟨a1, a2, -, -⟩ := bs_some e
        simp only [pfF, e]
        rw [ih m lo k (by omega) (by omega), ih m (k + 1) hi (by omega) (by omega)]
def pf (f : Nat → Int32) (a b lo hi : Nat) : List Int32 := pfF f a b (hi - lo) lo hi
theorem pf_none {f : Nat → Int32} {a b lo hi : Nat} (e : bs f lo hi = none) : pf f a b lo hi = [0] := by
  unfold pf
  cases hi - lo with
  | zero => rfl
  | succ n => simp only [pfF, e]
theorem pf_some {f : Nat → Int32} {a b lo hi k : Nat} (e : bs f lo hi = some k) : pf f a b lo hi = if lo ≤ b ∧ a < hi then itm k (f k) :: (pf f a b lo k ++ pf f a b (k + 1) hi) else [dg f zg lo hi] := by
  obtain ⟨a1, a2, -, -⟩ := bs_some e
  unfold pf
  rw [show hi - lo = (hi - lo - 1) + 1 by omega]
  simp only [pfF, e]
  rw [pfF_fuel f a b (hi - lo - 1) (k - lo) lo k (by omega) (by omega), pfF_fuel f a b (hi - lo - 1) (hi - (k + 1)) (k + 1) hi (by omega) (by omega)]
theorem pf_len (f : Nat → Int32) (a b : Nat) : ∀ (n lo hi : Nat), hi - lo ≤ n → (pf f a b lo hi).length ≤ 2 * cn f lo hi + 1 := by
  intro n
  induction n with
  | zero =>
    intro lo hi h
    have e : bs f lo hi = none := bs_none_of (fun j a b => by omega)
    rw [pf_none e]
    simp
  | succ n ih =>
    intro lo hi h
    cases e : bs f lo hi with
    | none => rw [pf_none e]; simp
    | some k =>
      obtain ⟨a1, a2, -, -⟩ := bs_some e
      rw [pf_some e]
      split
      · have h1 := ih lo k (by omega)
        have h2 := ih (k + 1) hi (by omega)
        have h3 := cn_some e
        simp only [List.length_cons, List.length_append]
        omega
      · simp
/-- items of several intervals -/
def pfs (f : Nat → Int32) (a b : Nat) : List (Nat × Nat) → List Int32
  | [] => []
  | i :: r => pf f a b i.1 i.2 ++ pfs f a b r
/-! the class's rows of items, its piles of pending nodes -/
def Itm (D : DD) (w : Nat) (xs : List Int32) : Prop := D w 1 = nI xs.length ∧ ∀ (j : Nat) (x : Int32), xs[j]? = some x → D (w + 1) j = x
theorem Itm.congr {D D' : DD} {w : Nat} {xs : List Int32} (h0 : D' w = D w) (h1 : D' (w + 1) = D (w + 1)) (h : Itm D w xs) : Itm D' w xs := ⟨by rw [h0]; exact h.1, fun j x hx => by rw [h1]; exact h.2 j x hx⟩
theorem n_add {D : DD} {w : Nat} {xs : List Int32} (h : Itm D w xs) (hl : xs.length < 100) (x : Int32) : ∃ D' : DD, g_X1_add w x D = some D' ∧ Itm D' w (xs ++ [x]) ∧ ∀ b, b ≠ w → b ≠ w + 1 → D' b = D b := by
  unfold g_X1_add g_X1_isFull
  rw [h.1, if_pos (show nI xs.length < (100 : Int32) from nI_lt (b := 100) hl (by decide)), pcb_some, if_pos rfl, zck_nI hl (by decide), ix_nI (by omega), dlt_eq, dlt_eq, u2_ne _ _ (by omega), h.1, nI_1]
  refine ⟨_, rfl, ⟨by rw [u2_same, upd_same]; simp, fun j y hy => ?_⟩, fun b h1 h2 => by rw [u2_ne _ _ h1, u2_ne _ _ h2]⟩
  rw [u2_ne _ _ (by omega), u2_same]
  by_cases hj : j = xs.length
  · subst hj
    rw [upd_same]
    simpa using hy
  · rw [upd_ne _ _ hj]
    rw [List.getElem?_append] at hy
    split at hy
    · exact h.2 j y hy
    · exfalso
      have := (List.getElem?_eq_some_iff.mp hy).1
      simp at this
      omega
theorem n_shorten0 {D : DD} {w L : Nat} (h : D w 1 = nI L) (hL : L ≤ 100) : ∃ D' : DD, g_X1_shorten w 0 D = some D' ∧ Itm D' w [] ∧ ∀ b, b ≠ w → D' b = D b := by
  unfold g_X1_shorten
  rw [if_neg (by decide), h]
  by_cases h0 : L = 0
  · subst h0
    rw [if_pos (by decide)]
    exact ⟨D, rfl, ⟨h, fun j x hx => by simp at hx⟩, fun _ _ => rfl⟩
  · rw [if_neg (nI_nle (by omega) (by omega)), dlt_eq]
    exact ⟨_, rfl, ⟨by rw [u2_same, upd_same]; exact nI_0.symm, fun j x hx => by simp at hx⟩, fun b hb => by rw [u2_ne _ _ hb]⟩
def Pnd (D : DD) (q : Nat) : List (Nat × Nat) → Prop
  | [] => True
  | i :: r => D (q + 1) r.length = nI i.1 ∧ D (q + 2) r.length = nI i.2 - 1 ∧ Pnd D q r
theorem Pnd_congr {D D' : DD} {q : Nat} : ∀ {ps : List (Nat × Nat)}, (∀ j, j < ps.length → D' (q + 1) j = D (q + 1) j ∧ D' (q + 2) j = D (q + 2) j) → Pnd D q ps → Pnd D' q ps
  | [], _, _ => trivial
  | i :: r, h, ⟨h1, h2, h3⟩ => ⟨(h _ (Nat.lt_succ_self _)).1.trans h1, (h _ (Nat.lt_succ_self _)).2.trans h2, Pnd_congr (fun j hj => h j (Nat.lt_succ_of_lt hj)) h3⟩
theorem n_push {D : DD} {q k H : Nat} {ps : List (Nat × Nat)} {hi : Int32} (h0 : D q 2 = nI ps.length) (hp : Pnd D q ps) (hl : ps.length < 100) (hh : hi = nI H - 1) : ∃ D' : DD, g_X3_push q (nI k) hi D = some D' ∧ D' q 2 = nI (ps.length + 1) ∧ Pnd D' q ((k, H) :: ps) ∧ ∀ b, b ≠ q → b ≠ q + 1 → b ≠ q + 2 → D' b = D b := by
  unfold g_X3_push
  rw [h0, if_neg (nI_100 hl), zck_nI hl (by decide), ix_nI (by omega), dlt_eq, u2_ne _ _ (by omega), h0, zck_nI hl (by decide), ix_nI (by omega), dlt_eq, u2_ne _ _ (by omega), u2_ne _ _ (by omega), h0, nI_1, dlt_eq]
  refine ⟨_, rfl, by rw [u2_same, upd_same], ⟨?_, ?_, ?_⟩, fun b b1 b2 b3 => by rw [u2_ne _ _ b1, u2_ne _ _ b3, u2_ne _ _ b2]⟩
  · rw [u2_ne _ _ (by omega), u2_ne _ _ (by omega), u2_same, upd_same]
  · rw [u2_ne _ _ (by omega), u2_same, upd_same]; exact hh
  · refine Pnd_congr (fun j hj => ?_) hp
    rw [u2_ne _ _ (by omega), u2_ne _ _ (by omega), u2_same, upd_ne _ _ (by omega), u2_ne _ _ (by omega), u2_same, upd_ne _ _ (by omega), u2_ne _ _ (by omega)]
    exact ⟨rfl, rfl⟩
theorem n_pop0 {D : DD} {q : Nat} (h0 : D q 2 = nI 0) : g_X3_pop q D = some (0, D) := by
  unfold g_X3_pop
  rw [h0, if_neg (by decide)]
theorem n_pop {D : DD} {q k H : Nat} {ps : List (Nat × Nat)} (h0 : D q 2 = nI (ps.length + 1)) (hp : Pnd D q ((k, H) :: ps)) (hl : ps.length < 100) : ∃ D' : DD, g_X3_pop q D = some (1, D') ∧ D' q 2 = nI ps.length ∧ Pnd D' q ps ∧ D' q 3 = nI k ∧ D' q 4 = nI H - 1 ∧ ∀ b, b ≠ q → D' b = D b := by
  obtain ⟨h1, h2, h3⟩ := hp
  unfold g_X3_pop
  rw [h0, if_pos (show (0 : Int32) < nI (ps.length + 1) from by rw [← nI_0]; exact nI_lt (by omega) (by omega)), show nI (ps.length + 1) - (1 : Int32) = nI ps.length from nI_pred _, dlt_eq, u2_same, upd_same, zck_nI hl (by decide), ix_nI (by omega), u2_ne _ _ (by omega), h1, dlt_eq]
  have e2 : u2 (u2 D q 2 (nI ps.length)) q 3 (nI k) q 2 = nI ps.length := by rw [u2_same, upd_ne _ _ (by omega), u2_same, upd_same]
  rw [e2, zck_nI hl (by decide), ix_nI (by omega), u2_ne _ _ (by omega), u2_ne _ _ (by omega), h2, dlt_eq]
  refine ⟨_, rfl, ?_, ?_, ?_, ?_, fun b hb => by rw [u2_ne _ _ hb, u2_ne _ _ hb, u2_ne _ _ hb]⟩
  · rw [u2_same, upd_ne _ _ (by omega)]; exact e2
  · refine Pnd_congr (fun j hj => ?_) h3
    rw [u2_ne _ _ (by omega), u2_ne _ _ (by omega), u2_ne _ _ (by omega), u2_ne _ _ (by omega), u2_ne _ _ (by omega), u2_ne _ _ (by omega)]
    exact ⟨rfl, rfl⟩
  · rw [u2_same, upd_ne _ _ (by omega), u2_same, upd_same]
  · rw [u2_same, upd_same]
theorem n_pkey {D : DD} {q : Nat} : g_X3_key q D = some (D q 3) := rfl
theorem n_phi {D : DD} {q : Nat} : g_X3_hi q D = some (D q 4) := rfl
/-- the intervals that pending nodes leave -/
def pIv : List (Nat × Nat) → List (Nat × Nat)
  | [] => []
  | i :: r => (i.1 + 1, i.2) :: pIv r
