/-! ===== the tree of some keys, by intervals lo .. hi (hi itself is out) ===== -/
def bst (f : Nat → Int32) (lo : Nat) : Nat → Option Nat
  | 0 => none
  | d + 1 => if f (lo + d) = -9 then bst f lo d else match bst f lo d with
    | none => some (lo + d)
    | some b => if rk b < rk (lo + d) then some (lo + d) else some b
def bs (f : Nat → Int32) (lo hi : Nat) : Option Nat := bst f lo (hi - lo)
theorem bst_spec (f : Nat → Int32) (lo : Nat) : ∀ d, (bst f lo d = none ∧ ∀ j, lo ≤ j → j < lo + d → f j = -9) ∨ (∃ k, bst f lo d = some k ∧ lo ≤ k ∧ k < lo + d ∧ f k ≠ -9 ∧ ∀ j, lo ≤ j → j < lo + d → f j ≠ -9 → rk j ≤ rk k) := by
  intro d
  induction d with
  | zero => exact Or.inl ⟨rfl, fun j h1 h2 => by omega⟩
  | succ d ih =>
    by_cases h : f (lo + d) = -9
    · rcases ih with ⟨h1, h2⟩ | ⟨k, h1, h2, h3, h4, h5⟩
      · refine Or.inl ⟨by rw [bst, if_pos h, h1], fun j a b => ?_⟩
        by_cases e : j = lo + d
        · rw [e]; exact h
        · exact h2 j a (by omega)
      · refine Or.inr ⟨k, by rw [bst, if_pos h, h1], h2, by omega, h4, fun j a b c => ?_⟩
        by_cases e : j = lo + d
        · rw [e] at c; exact absurd h c
        · exact h5 j a (by omega) c
    · rcases ih with ⟨h1, h2⟩ | ⟨k, h1, h2, h3, h4, h5⟩
      · refine Or.inr ⟨lo + d, by rw [bst, if_neg h, h1], by omega, by omega, h, fun j a b c => ?_⟩
        by_cases e : j = lo + d
        · rw [e]; exact Nat.le_refl _
        · exact absurd (h2 j a (by omega)) c
      · by_cases hr : rk k < rk (lo + d)
        · refine Or.inr ⟨lo + d, by rw [bst, if_neg h, h1]; simp only [if_pos hr], by omega, by omega, h, fun j a b c => ?_⟩
          by_cases e : j = lo + d
          · rw [e]; exact Nat.le_refl _
          · exact Nat.le_of_lt (Nat.lt_of_le_of_lt (h5 j a (by omega) c) hr)
        · refine Or.inr ⟨k, by rw [bst, if_neg h, h1]; simp only [if_neg hr], h2, by omega, h4, fun j a b c => ?_⟩
          by_cases e : j = lo + d
          · rw [e]; exact Nat.not_lt.mp hr
          · exact h5 j a (by omega) c
theorem bs_none {f : Nat → Int32} {lo hi : Nat} (h : bs f lo hi = none) : ∀ j, lo ≤ j → j < hi → f j = -9 := by
  intro j a b
  rcases bst_spec f lo (hi - lo) with ⟨h1, h2⟩ | ⟨k, h1, _⟩
  · exact h2 j a (by omega)
  · unfold bs at h; rw [h1] at h; cases h
theorem bs_some {f : Nat → Int32} {lo hi k : Nat} (h : bs f lo hi = some k) : lo ≤ k ∧ k < hi ∧ f k ≠ -9 ∧ ∀ j, lo ≤ j → j < hi → f j ≠ -9 → rk j ≤ rk k := by
  rcases bst_spec f lo (hi - lo) with ⟨h1, h2⟩ | ⟨k', h1, h2, h3, h4, h5⟩
  · unfold bs at h; rw [h1] at h; cases h
  · unfold bs at h; rw [h1] at h; cases h
    exact ⟨h2, by omega, h4, fun j a b c => h5 j a (by omega) c⟩
theorem bs_max {f : Nat → Int32} {lo hi k : Nat} (hh : hi ≤ 100) (h : bs f lo hi = some k) {j : Nat} (h1 : lo ≤ j) (h2 : j < hi) (h3 : f j ≠ -9) (h4 : j ≠ k) : rk j < rk k := by
  obtain ⟨a, b, c, d⟩ := bs_some h
  rcases Nat.lt_or_ge (rk j) (rk k) with q | q
  · exact q
  · exact absurd (rk_inj j (by omega) k (by omega) (Nat.le_antisymm (d j h1 h2 h3) q)) h4
theorem bs_none_of {f : Nat → Int32} {lo hi : Nat} (h : ∀ j, lo ≤ j → j < hi → f j = -9) : bs f lo hi = none := by
  cases e : bs f lo hi with
  | none => rfl
  | some k =>
    obtain ⟨a, b, c, d⟩ := bs_some e
    exact absurd (h k a b) c
theorem bs_of {f : Nat → Int32} {lo hi k : Nat} (hh : hi ≤ 100) (h1 : lo ≤ k) (h2 : k < hi) (h3 : f k ≠ -9) (h4 : ∀ j, lo ≤ j → j < hi → f j ≠ -9 → j ≠ k → rk j < rk k) : bs f lo hi = some k := by
  cases e : bs f lo hi with
  | none => exact absurd (bs_none e k h1 h2) h3
  | some b =>
    obtain ⟨a1, a2, a3, a4⟩ := bs_some e
    by_cases hb : b = k
    · rw [hb]
    · exact absurd (a4 k h1 h2 h3) (Nat.not_le.mpr (h4 b a1 a2 a3 hb))
/-- the digest of a node -/
def mixL (x : Int64) (w : Int32) : Int64 := (1000003 * x + w.toInt64) - (1000003 * x + w.toInt64) / 2147483647 * 2147483647
def dN (k v l r : Int32) : Int32 := (mixL (mixL (mixL (mixL 17 k) v) l) r).toInt32 + 1
theorem n_digest9 (k v l r : Int32) : g_X9_digestOf k v l r = some (dN k v l r) := rfl
theorem n_digest8 (k v l r : Int32) : g_X8_digestOfNode k v l r = some (dN k v l r) := by
  have e : ∀ x : Int64, (1 + x).toInt32 = x.toInt32 + 1 := fun x => by
    rw [Int64.add_comm, Int64.toInt32_add]; rfl
  show some ((1 + mixL (mixL (mixL (mixL 17 k) v) l) r).toInt32) = _
  rw [e]; rfl
/-- the digest of the tree of the keys lo .. hi; what is not shown hangs in the gaps: h at the gap that ends before a key -/
def dgF (f h : Nat → Int32) : Nat → Nat → Nat → Int32
  | 0, _, hi => h hi
  | n + 1, lo, hi => match bs f lo hi with
    | none => h hi
    | some k => dN (nI k) (f k) (dgF f h n lo k) (dgF f h n (k + 1) hi)
theorem dgF_fuel (f h : Nat → Int32) : ∀ (n m lo hi : Nat), hi - lo ≤ n → hi - lo ≤ m → dgF f h n lo hi = dgF f h m lo hi := by
  intro n
  induction n with
  | zero =>
    intro m lo hi h1 h2
    cases m with
    | zero => rfl
    | succ m =>
      have : bs f lo hi = none := bs_none_of (fun j a b => by omega)
      simp only [dgF, this]
  | succ n ih =>
    intro m lo hi h1 h2
    cases m with
    | zero =>
      have : bs f lo hi = none := bs_none_of (fun j a b => by omega)
      simp only [dgF, this]
    | succ m =>
      cases e : bs f lo hi with
      | none => simp only [dgF, e]
      | some k =>
        obtain ⟨a1, a2, -, -⟩ := bs_some e
        simp only [dgF, e]
        rw [ih m lo k (by omega) (by omega), ih m (k + 1) hi (by omega) (by omega)]
def dg (f h : Nat → Int32) (lo hi : Nat) : Int32 := dgF f h (hi - lo) lo hi
theorem dg_none {f h : Nat → Int32} {lo hi : Nat} (e : bs f lo hi = none) : dg f h lo hi = h hi := by
  unfold dg
  cases hi - lo with
  | zero => rfl
  | succ n => simp only [dgF, e]
theorem dg_some {f h : Nat → Int32} {lo hi k : Nat} (e : bs f lo hi = some k) : dg f h lo hi = dN (nI k) (f k) (dg f h lo k) (dg f h (k + 1) hi) := by
  obtain ⟨a1, a2, -, -⟩ := bs_some e
  unfold dg
  rw [show hi - lo = (hi - lo - 1) + 1 by omega]
  simp only [dgF, e]
  rw [dgF_fuel f h (hi - lo - 1) (k - lo) lo k (by omega) (by omega), dgF_fuel f h (hi - lo - 1) (hi - (k + 1)) (k + 1) hi (by omega) (by omega)]
/-- intervals that are the borders of a tree within the tree -/
def Bd (f : Nat → Int32) (lo hi : Nat) : Prop := lo ≤ hi ∧ hi ≤ 100 ∧ (lo = 0 ∨ (f (lo - 1) ≠ -9 ∧ ∀ j, lo ≤ j → j < hi → f j ≠ -9 → rk j < rk (lo - 1))) ∧ (hi = 100 ∨ (f hi ≠ -9 ∧ ∀ j, lo ≤ j → j < hi → f j ≠ -9 → rk j < rk hi))
theorem Bd_top (f : Nat → Int32) : Bd f 0 100 := ⟨by omega, by omega, Or.inl rfl, Or.inl rfl⟩
theorem Bd_left {f : Nat → Int32} {lo hi k : Nat} (h : Bd f lo hi) (e : bs f lo hi = some k) : Bd f lo k := by
  obtain ⟨h1, h2, h3, h4⟩ := h
  obtain ⟨a1, a2, a3, a4⟩ := bs_some e
  refine ⟨a1, by omega, ?_, Or.inr ⟨a3, fun j b1 b2 b3 => bs_max h2 e b1 (by omega) b3 (by omega)⟩⟩
  rcases h3 with h3 | ⟨h3, h5⟩
  · exact Or.inl h3
  · exact Or.inr ⟨h3, fun j b1 b2 b3 => h5 j b1 (by omega) b3⟩
theorem Bd_right {f : Nat → Int32} {lo hi k : Nat} (h : Bd f lo hi) (e : bs f lo hi = some k) : Bd f (k + 1) hi := by
  obtain ⟨h1, h2, h3, h4⟩ := h
  obtain ⟨a1, a2, a3, a4⟩ := bs_some e
  refine ⟨by omega, h2, Or.inr ⟨a3, fun j b1 b2 b3 => bs_max h2 e (by omega) b2 b3 (by omega)⟩, ?_⟩
  rcases h4 with h4 | ⟨h4, h5⟩
  · exact Or.inl h4
  · exact Or.inr ⟨h4, fun j b1 b2 b3 => h5 j (by omega) b2 b3⟩
/-- what stands in the arrays of a tree: left, right, digest of each key -/
def TrOk (f h : Nat → Int32) (lf rt ds : Nat → Int32) : Prop := ∀ lo hi k, Bd f lo hi → bs f lo hi = some k → lf k = oI (bs f lo k) ∧ rt k = oI (bs f (k + 1) hi) ∧ ds k = dg f h lo hi
