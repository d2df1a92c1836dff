/-! ===== differ ===== -/
def naF (q : Nat → Bool) (f : Nat → Int32) (x : Nat) : Nat → Nat → Nat → Bool
  | 0, _, _ => true
  | n + 1, lo, hi => match bs f lo hi with
    | none => true
    | some b => if x = b then true else (!q b && if x < b then naF q f x n lo b else naF q f x n (b + 1) hi)
theorem naF_fuel (q : Nat → Bool) (f : Nat → Int32) (x : Nat) : ∀ (n m lo hi : Nat), hi - lo ≤ n → hi - lo ≤ m → naF q f x n lo hi = naF q f x m lo hi := by
  intro n
  induction n with
  | zero =>
    intro m lo hi h1 h2
    have e : bs f lo hi = none := bs_none_of (fun j a b => by omega)
    cases m with
    | zero => rfl
    | succ m => simp only [naF, e]
  | succ n ih =>
    intro m lo hi h1 h2
    cases m with
    | zero =>
      have e : bs f lo hi = none := bs_none_of (fun j a b => by omega)
      simp only [naF, e]
    | succ m =>
      cases e : bs f lo hi with
      | none => simp only [naF, e]
      | some b =>
        obtain ⟨a1, a2, -, -⟩ := bs_some e
        simp only [naF, e]
        rw [ih m lo b (by omega) (by omega), ih m (b + 1) hi (by omega) (by omega)]
def na (q : Nat → Bool) (f : Nat → Int32) (x lo hi : Nat) : Bool := naF q f x (hi - lo) lo hi
theorem na_some {q : Nat → Bool} {f : Nat → Int32} {x lo hi b : Nat} (e : bs f lo hi = some b) : na q f x lo hi = if x = b then true else (!q b && if x < b then na q f x lo b else na q f x (b + 1) hi) := by
  obtain ⟨a1, a2, -, -⟩ := bs_some e
  unfold na
  rw [show hi - lo = (hi - lo - 1) + 1 by omega]
  simp only [naF, e]
  rw [naF_fuel q f x (hi - lo - 1) (b - lo) lo b (by omega) (by omega), naF_fuel q f x (hi - lo - 1) (hi - (b + 1)) (b + 1) hi (by omega) (by omega)]
theorem na_par {q : Nat → Bool} {f : Nat → Int32} {x : Nat} (hx : f x ≠ -9) : ∀ (n lo hi d : Nat) (pp : Option Nat), hi - lo ≤ n → lo ≤ x → x < hi → (bs f lo hi = some x ∧ (wk f x lo hi d pp).2.2.2 = pp ∧ (wk f x lo hi d pp).2.2.1 = d ∧ na q f x lo hi = true) ∨ ∃ p, (wk f x lo hi d pp).2.2.2 = some p ∧ lo ≤ p ∧ p < hi ∧ f p ≠ -9 ∧ na q f x lo hi = (na q f p lo hi && !q p) ∧ (wk f x lo hi d pp).2.2.1 = (wk f p lo hi d pp).2.2.1 + 1 := by
  intro n
  induction n with
  | zero => intro lo hi d pp h h1 h2; omega
  | succ n ih =>
    intro lo hi d pp h h1 h2
    cases e : bs f lo hi with
    | none => exact absurd (bs_none e x h1 h2) hx
    | some b =>
      obtain ⟨a1, a2, a3, -⟩ := bs_some e
      by_cases c1 : x = b
      · subst c1
        exact Or.inl ⟨rfl, by rw [wk_some e, if_pos rfl], by rw [wk_some e, if_pos rfl], by rw [na_some e, if_pos rfl]⟩
      · refine Or.inr ?_
        by_cases c2 : x < b
        · have ew : wk f x lo hi d pp = wk f x lo b (d + 1) (some b) := by rw [wk_some e, if_neg c1, if_pos c2]
          have en : na q f x lo hi = (!q b && na q f x lo b) := by rw [na_some e, if_neg c1, if_pos c2]
          rcases ih lo b (d + 1) (some b) (by omega) h1 c2 with ⟨i1, i2, i3, i4⟩ | ⟨p, i1, i2, i3, i4, i5, i6⟩
          · exact ⟨b, by rw [ew, i2], a1, a2, a3, by rw [en, i4, na_some e, if_pos rfl, Bool.and_true, Bool.true_and], by rw [ew, i3, wk_some (x := b) e, if_pos rfl]⟩
          · exact ⟨p, by rw [ew, i1], i2, by omega, i4, by rw [en, i5, na_some (x := p) e, if_neg (by omega), if_pos i3, Bool.and_assoc], by rw [ew, i6, wk_some (x := p) e, if_neg (by omega), if_pos i3]⟩
        · have ew : wk f x lo hi d pp = wk f x (b + 1) hi (d + 1) (some b) := by rw [wk_some e, if_neg c1, if_neg c2]
          have en : na q f x lo hi = (!q b && na q f x (b + 1) hi) := by rw [na_some e, if_neg c1, if_neg c2]
          rcases ih (b + 1) hi (d + 1) (some b) (by omega) (by omega) h2 with ⟨i1, i2, i3, i4⟩ | ⟨p, i1, i2, i3, i4, i5, i6⟩
          · exact ⟨b, by rw [ew, i2], a1, a2, a3, by rw [en, i4, na_some e, if_pos rfl, Bool.and_true, Bool.true_and], by rw [ew, i3, wk_some (x := b) e, if_pos rfl]⟩
          · exact ⟨p, by rw [ew, i1], by omega, i3, i4, by rw [en, i5, na_some (x := p) e, if_neg (by omega), if_neg (by omega), Bool.and_assoc], by rw [ew, i6, wk_some (x := p) e, if_neg (by omega), if_neg (by omega)]⟩
def dk (f : Nat → Int32) (k : Nat) : Int32 := dg f zg (pl f k).1 (pl f k).2.1
def sm (f g : Nat → Int32) (k : Nat) : Bool := decide (f k ≠ -9 ∧ g k ≠ -9 ∧ dk f k = dk g k)
def fl (f g : Nat → Int32) (x : Nat) : Bool := na (sm f g) f x 0 100 && sm f g x
theorem dk_pos {f : Mp} (hf : OkM f) {k : Nat} (hk : k < 100) (h : f k ≠ -9) : 0 < dk f k := by
  obtain ⟨p1, p2, -⟩ := pl_spec h hk
  exact (dg_pos hf.1 100 _ _ (by have := p1.2.1; omega) p1.2.1).2 (by rw [p2]; simp)
theorem TI_dk {D : DD} {t : Nat} {f : Mp} (h : TI D t f) {k : Nat} (hk : k < 100) : D (t + 3) k = if f k = -9 then 0 else dk f k := by
  by_cases e : f k = -9
  · rw [if_pos e]; exact h.2.2.1 k hk e
  · rw [if_neg e]
    obtain ⟨p1, p2, -⟩ := pl_spec e hk
    exact (h.1 _ _ k p1 p2).2.2
theorem n_isLike {D : DD} {f g : Mp} (hf : OkM f) (hg : OkM g) (h3 : TI D 3 f) (h63 : TI D 63 g) {k : Nat} (hk : k < 100) : g_X7_isLike 3 (nI k) 63 D = some (if sm f g k = true then 1 else 0) := by
  unfold g_X7_isLike
  rw [n_digestOf hk, pcb_some, n_digestOf hk, TI_dk h3 hk, TI_dk h63 hk]
  unfold sm
  by_cases e : f k = -9
  · rw [if_pos e, if_pos rfl, if_neg (by simp [e])]
  · have h0 := dk_pos hf hk e
    have h1 : dk f k ≠ 0 := fun q => by rw [q] at h0; exact absurd h0 (by decide)
    rw [if_neg e, if_neg h1, pcb_some, pcb_some]
    by_cases e2 : g k = -9
    · rw [if_pos e2, if_neg h1, if_neg (by simp [e2])]
    · rw [if_neg e2]
      by_cases e3 : dk f k = dk g k
      · rw [if_pos e3, if_pos (by simp [e, e2, e3])]
      · rw [if_neg e3, if_neg (by simp [e3])]
theorem n_firstLike {D : DD} {f g : Mp} (hf : OkM f) (hg : OkM g) (h3 : TI D 3 f) (h63 : TI D 63 g) {x : Nat} (hx : x < 100) : g_X7_isFirstLike 3 (nI x) 63 D = some (if fl f g x = true then 1 else 0) := by
  have h51 : g_X7_isFirstLike_51 3 (nI x) 63 (nI x) D = some (if sm f g x = true then 1 else 0) := by
    unfold g_X7_isFirstLike_51
    rw [if_pos rfl, n_isLike hf hg h3 h63 hx, pcb_some]
    split
    · rw [if_neg one_ne0]
    · rw [if_pos rfl]
  have loop : ∀ (d lo hi tm n : Nat), hi - lo ≤ d → tm + d ≤ 100 → d < n → Bd f lo hi → lo ≤ x → x < hi → g_X7_isFirstLike_8 n 3 (nI x) 63 (oI (bs f lo hi)) (nI tm) D = some (if (na (sm f g) f x lo hi && sm f g x) = true then 1 else 0) := by
    intro d
    induction d with
    | zero => intro lo hi tm n h1 h2 h3 hB h4 h5; omega
    | succ d ih =>
      intro lo hi tm n h1 h2 h4 hB h5 h6
      obtain ⟨n, rfl⟩ : ∃ q, n = q + 1 := ⟨n - 1, by omega⟩
      rw [g_X7_isFirstLike_8, if_neg (nI_100 (by omega))]
      cases e : bs f lo hi with
      | none =>
        rw [show oI none = -9 from rfl, n_isNumber9, pcb_some, if_pos rfl]
        unfold g_X7_isFirstLike_51
        have hxx : f x = -9 := bs_none e x h5 h6
        rw [if_neg (fun q => nI_ne9 (by omega) q.symm), if_neg (by simp [sm, hxx])]
      | some b =>
        obtain ⟨a1, a2, -, -⟩ := bs_some e
        have hb : b < 100 := by have := hB.2.1; omega
        rw [show oI (some b) = nI b from rfl, n_isNumber hb, pcb_some, if_neg one_ne0, na_some e]
        by_cases c1 : x = b
        · subst c1
          rw [if_pos rfl, if_pos rfl, Bool.true_and]; exact h51
        · rw [if_neg (fun q => c1 ((nI_eq (by omega) (by omega)).mp q).symm), if_neg c1, n_isLike hf hg h3 h63 hb, pcb_some]
          by_cases c2 : sm f g b = true
          · rw [if_pos c2, if_neg one_ne0, c2]; rfl
          · have c2' : sm f g b = false := by simpa using c2
            rw [if_neg c2, if_pos rfl, n_child h3.1 hB e hx, pcb_some, if_neg c1, nI_1, c2', Bool.not_false, Bool.true_and]
            by_cases c3 : x < b
            · rw [if_pos c3, if_pos c3]
              exact ih lo b (tm + 1) n (by omega) (by omega) (by omega) (Bd_left hB e) h5 c3
            · rw [if_neg c3, if_neg c3]
              exact ih (b + 1) hi (tm + 1) n (by omega) (by omega) (by omega) (Bd_right hB e) (by omega) h6
  have := loop 100 0 100 0 1000 (by omega) (by omega) (by omega) (Bd_top f) (by omega) hx
  unfold g_X7_isFirstLike
  rw [h3.2.1]
  exact this
/-- what stands in the reference when two maps are held beside each other -/
def MP (D : DD) (f g : Mp) : Prop := (∀ k, k < 100 → D 81 k = f k ∧ D 82 k = g k) ∧ (∀ k, k < 100 → f k ≠ -9 → D 93 k = dk f k ∧ D 86 k = oI (pl f k).2.2.2 ∧ D 92 k = nI (cn f (pl f k).1 (pl f k).2.1)) ∧ ∀ k, k < 100 → g k ≠ -9 → D 93 (100 + k) = dk g k
theorem n_isSame {D : DD} {f g : Mp} (h : MP D f g) {k : Nat} (hk : k < 100) : g_X9_isSame 80 (nI k) D = some (if sm f g k = true then 1 else 0) := by
  unfold g_X9_isSame
  rw [show (100 : Int32) = nI 100 from rfl, nI_add, zck_nI hk (by decide), zck_nI hk (by decide), zck_nI (show k < 200 by omega) (by decide), zck_nI (show 100 + k < 200 by omega) (by decide), ix_nI (by omega), ix_nI (by omega), show 80 + 1 = 81 from rfl, show 80 + 2 = 82 from rfl, show 80 + 13 = 93 from rfl, (h.1 k hk).1, (h.1 k hk).2]
  unfold sm
  by_cases e : f k = -9
  · rw [if_pos e, if_neg (by simp [e])]
  · rw [if_neg e]
    by_cases e2 : g k = -9
    · rw [if_pos e2, if_neg (by simp [e2])]
    · rw [if_neg e2, (h.2.1 k hk e).1, h.2.2 k hk e2]
      by_cases e3 : dk f k = dk g k
      · rw [if_pos e3, if_pos (by simp [e, e2, e3])]
      · rw [if_neg e3, if_neg (by simp [e3])]
theorem n_isPassed {D : DD} {f g : Mp} (h : MP D f g) {x : Nat} (hx : x < 100) : g_X9_isPassed 80 (nI x) D = some (if fl f g x = true then 1 else 0) := by
  have loop : ∀ (dd y n : Nat) (v : Int32), (pl f y).2.2.1 ≤ dd → dd < n → y < 100 → f y ≠ -9 → (v = 0 ∨ v = 1) → g_X9_isPassed_29 n 80 v (oI (pl f y).2.2.2) D = some (if v = 1 ∧ na (sm f g) f y 0 100 = true then 1 else 0) := by
    intro dd
    induction dd with
    | zero =>
      intro y n v h1 h2 h3 h4 hv
      obtain ⟨n, rfl⟩ : ∃ q, n = q + 1 := ⟨n - 1, by omega⟩
      rcases na_par (q := sm f g) h4 100 0 100 0 none (by omega) (by omega) h3 with ⟨-, i2, -, i4⟩ | ⟨p, -, -, -, -, -, i6⟩
      · have i2' : (pl f y).2.2.2 = none := i2
        rw [g_X9_isPassed_29, i2', if_pos (show oI none = -9 from rfl), i4]
        rcases hv with q | q
        · subst q; rw [zck_t (by decide), if_neg (fun z => absurd z.1 (by decide))]
        · subst q; rw [zck_t (by decide), if_pos ⟨rfl, rfl⟩]
      · have : (pl f y).2.2.1 = (pl f p).2.2.1 + 1 := i6
        omega
    | succ dd ih =>
      intro y n v h1 h2 h3 h4 hv
      obtain ⟨n, rfl⟩ : ∃ q, n = q + 1 := ⟨n - 1, by omega⟩
      rcases na_par (q := sm f g) h4 100 0 100 0 none (by omega) (by omega) h3 with ⟨-, i2, -, i4⟩ | ⟨p, i1, i2, i3, i4, i5, i6⟩
      · have i2' : (pl f y).2.2.2 = none := i2
        rw [g_X9_isPassed_29, i2', if_pos (show oI none = -9 from rfl), i4]
        rcases hv with q | q
        · subst q; rw [zck_t (by decide), if_neg (fun z => absurd z.1 (by decide))]
        · subst q; rw [zck_t (by decide), if_pos ⟨rfl, rfl⟩]
      · have i6' : (pl f y).2.2.1 = (pl f p).2.2.1 + 1 := i6
        have i1' : (pl f y).2.2.2 = some p := i1
        have e52 : ∀ w0 : Int32, (w0 = 0 ∨ w0 = 1) → g_X9_isPassed_52 (g_X9_isPassed_29 n) 80 (nI p) w0 D = some (if w0 = 1 ∧ na (sm f g) f p 0 100 = true then 1 else 0) := by
          intro w0 hw0
          unfold g_X9_isPassed_52
          rw [zck_nI (by omega) (by decide), ix_nI (by omega), show 80 + 6 = 86 from rfl, (h.2.1 p i3 i4).2.1]
          exact ih p n w0 (by omega) (by omega) i3 i4 hw0
        rw [g_X9_isPassed_29, i1', show oI (some p) = nI p from rfl, if_neg (nI_ne9 (by omega)), i5, n_isSame h i3, pcb_some]
        unfold g_X9_isPassed_51
        rcases hv with q | q
        · subst q
          rw [if_pos rfl, e52 0 (Or.inl rfl), if_neg (fun z => absurd z.1 (by decide)), if_neg (fun z => absurd z.1 (by decide))]
        · subst q
          rw [if_neg one_ne0]
          by_cases c : sm f g p = true
          · rw [if_pos c, if_neg one_ne0, e52 0 (Or.inl rfl), if_neg (fun z => absurd z.1 (by decide)), c, if_neg (by simp)]
          · have c' : sm f g p = false := by simpa using c
            rw [if_neg c, if_pos rfl, e52 1 (Or.inr rfl), c']
            simp
  unfold g_X9_isPassed g_X9_isPassed_28
  rw [n_isSame h hx, pcb_some, zck_nI hx (by decide), zck_nI (show x < 200 by omega) (by decide), ix_nI (by omega), show 80 + 1 = 81 from rfl, show 80 + 6 = 86 from rfl, (h.1 x hx).1]
  unfold fl
  by_cases e : f x = -9
  · have hs : sm f g x = false := by simp [sm, e]
    rw [if_pos e, hs, g_X9_isPassed_29, if_pos rfl]
    rw [Bool.and_false, if_neg (show ¬ false = true by decide), zck_t (by decide)]
  · rw [if_neg e, (h.2.1 x hx e).2.1, loop 100 x 1000 _ (by have := (pl_spec e hx).2.2.1; omega) (by omega) hx e (by split <;> simp)]
    by_cases c : sm f g x = true
    · rw [if_pos c, c]; simp
    · have c' : sm f g x = false := by simpa using c
      rw [c']; simp
def Fo (f g : Mp) (k : Nat) : Int32 := if f k = g k then 0 else 1
def Fp (f g : Mp) (k : Nat) : Int32 := if fl f g k = true then 1 else 0
def Fn (f g : Mp) (k : Nat) : Int32 := if fl f g k = true then nI (cn f (pl f k).1 (pl f k).2.1) else 0
theorem fl_key {f g : Mp} {k : Nat} (h : fl f g k = true) : f k ≠ -9 := by
  unfold fl sm at h
  simp at h
  exact h.2.1
def an4 (w : Nat) (v0 v1 v2 v3 : Int32) : Int32 := if w = 0 then v0 else if w = 1 then v1 else if w = 2 then v2 else v3
theorem n_differLoop {D : DD} {f g : Mp} (h : MP D f g) {w : Nat} (hw : w < 4) : ∀ (p n : Nat) (v3 v4 v5 v6 : Int32), p ≤ 100 → p < n → LA (fun k => p ≤ k ∧ k < 100 ∧ f k ≠ g k) v4 → ∃ v4' : Int32, g_X9_differ_104 n 80 (nI w) v3 v4 v5 v6 (nI p - 1) D = some (an4 w (v3 + sI (Fo f g) p) v4' (v5 + sI (Fp f g) p) (v6 + sI (Fn f g) p), D) ∧ LA (fun k => k < 100 ∧ f k ≠ g k) v4' := by
  intro p
  induction p with
  | zero =>
    intro n v3 v4 v5 v6 h1 h2 hL
    obtain ⟨n, rfl⟩ : ∃ q, n = q + 1 := ⟨n - 1, by omega⟩
    refine ⟨v4, ?_, ?_⟩
    · rw [g_X9_differ_104, if_pos (show nI 0 - 1 < 0 by decide), sI, sI, sI, Int32.add_zero, Int32.add_zero, Int32.add_zero]
      rcases (show w = 0 ∨ w = 1 ∨ w = 2 ∨ w = 3 by omega) with e | e | e | e
      · subst e; rw [if_pos (show nI 0 = 0 from nI_0)]; rfl
      · subst e; rw [if_neg (by decide), if_pos (show nI 1 = 1 from rfl)]; rfl
      · subst e; rw [if_neg (by decide), if_neg (show ¬ nI 2 = 1 by decide), if_pos (show nI 2 = 2 from rfl)]; rfl
      · subst e; rw [if_neg (by decide), if_neg (show ¬ nI 3 = 1 by decide), if_neg (show ¬ nI 3 = 2 by decide)]; rfl
    · rcases hL with ⟨a, b⟩ | ⟨k, a, b, c, d⟩
      · exact Or.inl ⟨a, fun k hk => b k ⟨by omega, hk⟩⟩
      · exact Or.inr ⟨k, a, b.2, c, fun j hj => d j ⟨by omega, hj⟩⟩
  | succ p ih =>
    intro n v3 v4 v5 v6 h1 h2 hL
    obtain ⟨n, rfl⟩ : ∃ q, n = q + 1 := ⟨n - 1, by omega⟩
    have hp : p < 100 := by omega
    have e201 : ∀ a3 a4 a5 a6 w1 : Int32, g_X9_differ_201 (g_X9_differ_104 n) 80 (nI w) a3 a4 a5 (nI p) a6 w1 D = g_X9_differ_104 n 80 (nI w) a3 a4 a5 (a6 + w1) (nI p - 1) D := by
      intro a3 a4 a5 a6 w1
      unfold g_X9_differ_201
      rw [show nI p + (-1 : Int32) = nI p - 1 from (Int32.sub_eq_add_neg _ _).symm]
    have e176 : ∀ a3 a4 a5 a6 w1 : Int32, g_X9_differ_176 (g_X9_differ_104 n) 80 (nI w) a3 a4 a6 (nI p) a5 w1 D = g_X9_differ_104 n 80 (nI w) a3 a4 (a5 + w1) (a6 + Fn f g p) (nI p - 1) D := by
      intro a3 a4 a5 a6 w1
      unfold g_X9_differ_176 Fn
      rw [n_isPassed h hp, pcb_some, zck_nI (show p < 200 by omega) (by decide), ix_nI (by omega), e201, e201]
      by_cases c : fl f g p = true
      · rw [if_pos c, if_pos c, if_neg one_ne0, show 80 + 12 = 92 from rfl, (h.2.1 p hp (fl_key c)).2.2]
      · rw [if_neg c, if_neg c, if_pos rfl]
    have e158 : ∀ a3 a4 a5 a6 : Int32, g_X9_differ_158 (g_X9_differ_104 n) 80 (nI w) a3 a5 a6 (nI p) a4 D = g_X9_differ_104 n 80 (nI w) a3 a4 (a5 + Fp f g p) (a6 + Fn f g p) (nI p - 1) D := by
      intro a3 a4 a5 a6
      unfold g_X9_differ_158 Fp
      rw [n_isPassed h hp, pcb_some, e176, e176]
      by_cases c : fl f g p = true
      · rw [if_pos c, if_neg one_ne0]
      · rw [if_neg c, if_pos rfl]
    have st : g_X9_differ_104 (n + 1) 80 (nI w) v3 v4 v5 v6 (nI (p + 1) - 1) D = g_X9_differ_104 n 80 (nI w) (v3 + Fo f g p) (if f p = g p then v4 else nI p) (v5 + Fp f g p) (v6 + Fn f g p) (nI p - 1) D := by
      rw [nI_pred, g_X9_differ_104, if_neg (nI_pos (by omega)), zck_nI hp (by decide), zck_nI hp (by decide), ix_nI (by omega)]
      unfold g_X9_differ_132 Fo
      rw [show 80 + 1 = 81 from rfl, show 80 + 2 = 82 from rfl, (h.1 p hp).1, (h.1 p hp).2]
      by_cases c : f p = g p
      · simp only [if_pos c]
        rw [zck_nI hp (by decide), zck_nI hp (by decide), ix_nI (by omega), (h.1 p hp).1, (h.1 p hp).2, if_pos c, e158]
      · simp only [if_neg c]
        rw [zck_nI hp (by decide), zck_nI hp (by decide), ix_nI (by omega), (h.1 p hp).1, (h.1 p hp).2, if_neg c, e158]
    have hL' : LA (fun k => p ≤ k ∧ k < 100 ∧ f k ≠ g k) (if f p = g p then v4 else nI p) := by
      by_cases c : f p = g p
      · rw [if_pos c]
        rcases hL with ⟨a, b⟩ | ⟨k, a, b, c', d⟩
        · refine Or.inl ⟨a, fun k hk => ?_⟩
          by_cases e : k = p
          · subst e; exact hk.2.2 c
          · exact b k ⟨by omega, hk.2⟩
        · refine Or.inr ⟨k, a, ⟨by omega, b.2⟩, c', fun j hj => ?_⟩
          by_cases e : j = p
          · subst e; exact absurd c hj.2.2
          · exact d j ⟨by omega, hj.2⟩
      · rw [if_neg c]
        exact Or.inr ⟨p, rfl, ⟨by omega, hp, c⟩, hp, fun j hj => hj.1⟩
    obtain ⟨v4', r1, r2⟩ := ih n (v3 + Fo f g p) _ (v5 + Fp f g p) (v6 + Fn f g p) (by omega) (by omega) hL'
    refine ⟨v4', ?_, r2⟩
    rw [st, r1, sI_s, sI_s, sI_s]
    have comm : ∀ a b c : Int32, a + b + c = a + (c + b) := fun a b c => by rw [Int32.add_assoc, Int32.add_comm b]
    rw [comm, comm, comm]
