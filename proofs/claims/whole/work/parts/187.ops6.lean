def arF (f : Nat → Int32) (x : Nat) : Nat → Nat → Nat → Nat
  | 0, _, _ => 0
  | n + 1, lo, hi => match bs f lo hi with
    | none => 0
    | some b => 1 + if x = b then 0 else if x < b then arF f x n lo b else arF f x n (b + 1) hi
theorem arF_fuel (f : Nat → Int32) (x : Nat) : ∀ (n m lo hi : Nat), hi - lo ≤ n → hi - lo ≤ m → arF f x n lo hi = arF f x m lo hi := by
  intro n
  induction n with
  | zero =>
    intro m lo hi h1 h2
    have e : bs f lo hi = none := bs_none_of (fun j a b => by omega)
    cases m with
    | zero => rfl
    | succ m => simp only [arF, e]
  | succ n ih =>
    intro m lo hi h1 h2
    cases m with
    | zero =>
      have e : bs f lo hi = none := bs_none_of (fun j a b => by omega)
      simp only [arF, e]
    | succ m =>
      cases e : bs f lo hi with
      | none => simp only [arF, e]
      | some b =>
        obtain ⟨a1, a2, -, -⟩ := bs_some e
        simp only [arF, e]
        rw [ih m lo b (by omega) (by omega), ih m (b + 1) hi (by omega) (by omega)]
def ar (f : Nat → Int32) (x lo hi : Nat) : Nat := arF f x (hi - lo) lo hi
theorem ar_none {f : Nat → Int32} {x lo hi : Nat} (e : bs f lo hi = none) : ar f x lo hi = 0 := by
  unfold ar
  cases hi - lo with
  | zero => rfl
  | succ n => simp only [arF, e]
theorem ar_some {f : Nat → Int32} {x lo hi b : Nat} (e : bs f lo hi = some b) : ar f x lo hi = 1 + if x = b then 0 else if x < b then ar f x lo b else ar f x (b + 1) hi := by
  obtain ⟨a1, a2, -, -⟩ := bs_some e
  unfold ar
  rw [show hi - lo = (hi - lo - 1) + 1 by omega]
  simp only [arF, e]
  rw [arF_fuel f x (hi - lo - 1) (b - lo) lo b (by omega) (by omega), arF_fuel f x (hi - lo - 1) (hi - (b + 1)) (b + 1) hi (by omega) (by omega)]
theorem ar_le {f : Nat → Int32} {x : Nat} : ∀ (n lo hi : Nat), hi - lo ≤ n → ar f x lo hi ≤ hi - lo := by
  intro n
  induction n with
  | zero =>
    intro lo hi h
    rw [ar_none (bs_none_of (fun j a b => by omega))]; omega
  | succ n ih =>
    intro lo hi h
    cases e : bs f lo hi with
    | none => rw [ar_none e]; omega
    | some b =>
      obtain ⟨a1, a2, -, -⟩ := bs_some e
      have i1 := ih lo b (by omega)
      have i2 := ih (b + 1) hi (by omega)
      rw [ar_some e]
      split
      · omega
      · split <;> omega
theorem n_child {f h : Nat → Int32} {a x lo hi b : Nat} {D : DD} (hT : TrOk f h (D (a + 1)) (D (a + 2)) (D (a + 3))) (hB : Bd f lo hi) (e : bs f lo hi = some b) (hx : x < 100) : g_X7_childTowards a (nI b) (nI x) D = some (if x = b then -9 else if x < b then oI (bs f lo b) else oI (bs f (b + 1) hi)) := by
  obtain ⟨a1, a2, -, -⟩ := bs_some e
  have hb : b < 100 := by have := hB.2.1; omega
  obtain ⟨t1, t2, -⟩ := hT lo hi b hB e
  unfold g_X7_childTowards
  by_cases h1 : x = b
  · subst h1; rw [if_pos rfl, if_pos rfl]
  · rw [if_neg (fun q => h1 ((nI_eq (by omega) (by omega)).mp q)), if_neg h1]
    by_cases h2 : x < b
    · rw [if_neg (nI_ge h2 (by omega)), if_pos h2, n_leftOf hb, pcb_some, t1]
    · rw [if_pos (nI_le (by omega) (by omega)), if_neg h2, n_rightOf hb, pcb_some, t2]
theorem n_around {f h : Nat → Int32} {a x : Nat} {D : DD} (hT : TrOk f h (D (a + 1)) (D (a + 2)) (D (a + 3))) (hr : D a 6 = oI (bs f 0 100)) (hx : x < 100) : g_X7_countNodesAround a (nI x) D = some (nI (ar f x 0 100)) := by
  have loop : ∀ (d lo hi c t n : Nat), hi - lo ≤ d → t + d ≤ 100 → d < n → Bd f lo hi → g_X7_countNodesAround_10 n a (nI x) (nI c) (oI (bs f lo hi)) (nI t) D = some (nI (c + ar f x lo hi)) := by
    intro d
    induction d with
    | zero =>
      intro lo hi c t n h1 h2 h3 hB
      obtain ⟨n, rfl⟩ : ∃ q, n = q + 1 := ⟨n - 1, by omega⟩
      have e : bs f lo hi = none := bs_none_of (fun j a b => by omega)
      rw [g_X7_countNodesAround_10, e, ar_none e, show oI none = -9 from rfl, n_isNumber9, pcb_some, if_pos rfl]
      split <;> rfl
    | succ d ih =>
      intro lo hi c t n h1 h2 h3 hB
      obtain ⟨n, rfl⟩ : ∃ q, n = q + 1 := ⟨n - 1, by omega⟩
      rw [g_X7_countNodesAround_10, if_neg (nI_100 (by omega))]
      cases e : bs f lo hi with
      | none => rw [ar_none e, show oI none = -9 from rfl, n_isNumber9, pcb_some, if_pos rfl]; rfl
      | some b =>
        obtain ⟨a1, a2, -, -⟩ := bs_some e
        have hb : b < 100 := by have := hB.2.1; omega
        rw [show oI (some b) = nI b from rfl, n_isNumber hb, pcb_some, if_neg one_ne0, n_child hT hB e hx, pcb_some, nI_1, nI_1, ar_some e]
        by_cases h1 : x = b
        · rw [if_pos h1, if_pos h1]
          obtain ⟨n, rfl⟩ : ∃ q, n = q + 1 := ⟨n - 1, by omega⟩
          rw [g_X7_countNodesAround_10, n_isNumber9, pcb_some, if_pos rfl]
          split <;> rfl
        · rw [if_neg h1, if_neg h1]
          by_cases h2 : x < b
          · rw [if_pos h2, if_pos h2, ih lo b (c + 1) (t + 1) n (by omega) (by omega) (by omega) (Bd_left hB e), Nat.add_assoc]
          · rw [if_neg h2, if_neg h2, ih (b + 1) hi (c + 1) (t + 1) n (by omega) (by omega) (by omega) (Bd_right hB e), Nat.add_assoc]
  have := loop 100 0 100 0 0 1000 (by omega) (by omega) (by omega) (Bd_top f)
  unfold g_X7_countNodesAround
  rw [hr]
  rw [nI_0, Nat.zero_add] at this
  exact this
theorem pf_one {f : Nat → Int32} {x : Nat} : ∀ (n lo hi : Nat), hi - lo ≤ n → (pf f x x lo hi).length = if lo ≤ x ∧ x < hi then 2 * ar f x lo hi + 1 else 1 := by
  intro n
  induction n with
  | zero =>
    intro lo hi h
    have e : bs f lo hi = none := bs_none_of (fun j a b => by omega)
    rw [pf_none e, ar_none e]
    split <;> rfl
  | succ n ih =>
    intro lo hi h
    cases e : bs f lo hi with
    | none =>
      rw [pf_none e, ar_none e]
      split <;> rfl
    | some b =>
      obtain ⟨a1, a2, -, -⟩ := bs_some e
      rw [pf_some e, ar_some e]
      by_cases c : lo ≤ x ∧ x < hi
      · rw [if_pos c, if_pos c, List.length_cons, List.length_append, ih lo b (by omega), ih (b + 1) hi (by omega)]
        by_cases h1 : x = b
        · rw [if_pos h1, if_neg (by omega), if_neg (by omega)]
        · rw [if_neg h1]
          by_cases h2 : x < b
          · rw [if_pos (by omega), if_neg (by omega), if_pos h2]; omega
          · rw [if_neg (by omega), if_pos (by omega), if_neg h2]; omega
      · rw [if_neg c, if_neg c]; rfl
theorem pf_x {f : Nat → Int32} {x : Nat} (hx : x < 100) : (pf f x x 0 100).length = 2 * ar f x 0 100 + 1 := by
  rw [pf_one 100 0 100 (by omega), if_pos ⟨by omega, hx⟩]
theorem n_proofLen {f h : Nat → Int32} {a x : Nat} {D : DD} (hT : TrOk f h (D (a + 1)) (D (a + 2)) (D (a + 3))) (hr : D a 6 = oI (bs f 0 100)) (hx : x < 100) : g_X7_proofLengthOf a (nI x) D = some (nI (2 * ar f x 0 100 + 1)) := by
  unfold g_X7_proofLengthOf
  rw [n_around hT hr hx, pcb_some, show (2 : Int32) = nI 2 from rfl, nI_mul, nI_1]
theorem op_lengths {D : DD} (h : St D) (x w : Int32) : ∃ (r : Int32) (D2 : DD), g_X8_lengths 0 x w D = some r ∧ g_X9_lengths 80 x w D = some (r, D2) ∧ St D2 := by
  obtain ⟨f, us, sl, xs, tr, fm, hC, hM, hA⟩ := id h
  have loop : ∀ (p n : Nat) (v3 v4 : Int32) (E : DD), p ≤ 100 → p < n → MI E 80 f us sl xs tr fm → ∃ (r : Int32) (E' : DD), g_X8_lengths_22 n 0 x w v3 v4 (nI p - 1) D = some r ∧ g_X9_lengths_23 n 80 x w v3 v4 (nI p - 1) E = some (r, E') ∧ MI E' 80 f us sl xs tr fm ∧ ∀ c, c < 80 → E' c = E c := by
    intro p
    induction p with
    | zero =>
      intro n v3 v4 E h1 h2 hE
      obtain ⟨n, rfl⟩ : ∃ q, n = q + 1 := ⟨n - 1, by omega⟩
      rw [g_X8_lengths_22, g_X9_lengths_23, if_pos (show nI 0 - 1 < 0 by decide), if_pos (show nI 0 - 1 < 0 by decide)]
      by_cases hw : w = 0
      · rw [if_pos hw, if_pos hw]; exact ⟨_, _, rfl, rfl, hE, fun _ _ => rfl⟩
      · rw [if_neg hw, if_neg hw]; exact ⟨_, _, rfl, rfl, hE, fun _ _ => rfl⟩
    | succ p ih =>
      intro n v3 v4 E h1 h2 hE
      obtain ⟨n, rfl⟩ : ∃ q, n = q + 1 := ⟨n - 1, by omega⟩
      obtain ⟨E2, q1, q2, q3⟩ := n_prove (m := 80) (v := 81) (a := p) (b := p) (Or.inl rfl) (Nat.le_refl _) (by omega) hE.1 (by have := hA.1.2; omega)
      have e23 : E2 80 23 = nI (2 * ar f p 0 100 + 1) := by rw [q2.1, pf_x (by omega)]
      rw [nI_pred, g_X8_lengths_22, g_X9_lengths_23, if_neg (nI_pos (by omega)), if_neg (nI_pos (by omega)), Nat.zero_add, n_proofLen hC.2.1.1 hC.2.1.2.1 (by omega), pcb_some, q1, vcb_some, e23]
      unfold g_X8_lengths_47 g_X9_lengths_54 g_X9_lengths_71
      rw [e23, show nI p + (-1 : Int32) = nI p - 1 from (Int32.sub_eq_add_neg _ _).symm, Int32.add_zero]
      by_cases c : nI (2 * ar f p 0 100 + 1) = x
      · simp only [if_pos c]
        obtain ⟨r, E', k1, k2, k3, k4⟩ := ih n (v3 + 1) (nI p) E2 (by omega) (by omega) (hE.fp q3)
        exact ⟨r, E', k1, k2, k3, fun c hc => by rw [k4 c hc, q3.1 c (by omega) (by omega)]⟩
      · simp only [if_neg c]
        obtain ⟨r, E', k1, k2, k3, k4⟩ := ih n v3 v4 E2 (by omega) (by omega) (hE.fp q3)
        exact ⟨r, E', k1, k2, k3, fun c hc => by rw [k4 c hc, q3.1 c (by omega) (by omega)]⟩
  obtain ⟨r, E', k1, k2, k3, k4⟩ := loop 100 1000 0 (-9) D (by omega) (by omega) hM
  have hS : St E' := ⟨f, us, sl, xs, tr, fm, hC.congr k4, k3, hA⟩
  unfold g_X8_lengths g_X9_lengths g_X8_lengths_12
  rw [show (99 : Int32) = nI 100 - 1 by decide]
  rcases slot_or w with ⟨j, hj, rfl⟩ | hw
  · rw [n_in01 hj, pcb_some, if_neg one_ne0]
    refine ⟨r, E', ?_, k2, hS⟩
    by_cases hj0 : nI j = 0
    · rw [if_pos hj0]; exact k1
    · have hj1 : nI j = 1 := by
        have : j = 1 := by
          rcases Nat.lt_or_ge j 1 with q | q
          · exact absurd (show nI j = 0 by rw [show j = 0 by omega]; exact nI_0) hj0
          · omega
        rw [this]; rfl
      rw [if_neg hj0, if_pos hj1]; exact k1
  · rw [n_in01_f hw, pcb_some, if_pos rfl]
    refine ⟨-2, D, ?_, rfl, h⟩
    rw [if_neg (fun q => by subst q; exact absurd hw (by decide)), if_neg (fun q => by subst q; exact absurd hw (by decide))]
/-! ===== about ===== -/
def mx (g : Nat → Nat) : Nat → Nat
  | 0 => 0
  | n + 1 => max (mx g n) (g n)
theorem mx_ge {g : Nat → Nat} : ∀ (n j : Nat), j < n → g j ≤ mx g n := by
  intro n
  induction n with
  | zero => intro j hj; omega
  | succ n ih =>
    intro j hj
    rw [mx]
    by_cases e : j = n
    · subst e; omega
    · have := ih j (by omega); omega
theorem mx_le {g : Nat → Nat} {M : Nat} : ∀ n, (∀ j, j < n → g j ≤ M) → mx g n ≤ M := by
  intro n
  induction n with
  | zero => intro _; rw [mx]; omega
  | succ n ih =>
    intro h
    rw [mx]
    have := ih (fun j hj => h j (by omega))
    have := h n (by omega)
    omega
theorem ar_key {f : Nat → Int32} {k : Nat} (hk : f k ≠ -9) : ∀ (n lo hi d : Nat) (p : Option Nat), hi - lo ≤ n → lo ≤ k → k < hi → (wk f k lo hi d p).2.2.1 + 1 = d + ar f k lo hi := by
  intro n
  induction n with
  | zero => intro lo hi d p h h1 h2; omega
  | succ n ih =>
    intro lo hi d p h h1 h2
    cases e : bs f lo hi with
    | none => exact absurd (bs_none e k h1 h2) hk
    | some b =>
      obtain ⟨a1, a2, -, -⟩ := bs_some e
      rw [wk_some e, ar_some e]
      by_cases c1 : k = b
      · rw [if_pos c1, if_pos c1]
      · rw [if_neg c1, if_neg c1]
        by_cases c2 : k < b
        · rw [if_pos c2, if_pos c2, ih lo b (d + 1) (some b) (by omega) h1 c2]; omega
        · rw [if_neg c2, if_neg c2, ih (b + 1) hi (d + 1) (some b) (by omega) (by omega) h2]; omega
theorem ar_near {f : Nat → Int32} {x : Nat} : ∀ (n lo hi : Nat), hi - lo ≤ n → ar f x lo hi = 0 ∨ ∃ k, lo ≤ k ∧ k < hi ∧ f k ≠ -9 ∧ ar f k lo hi = ar f x lo hi := by
  intro n
  induction n with
  | zero => intro lo hi h; exact Or.inl (ar_none (bs_none_of (fun j a b => by omega)))
  | succ n ih =>
    intro lo hi h
    cases e : bs f lo hi with
    | none => exact Or.inl (ar_none e)
    | some b =>
      obtain ⟨a1, a2, a3, -⟩ := bs_some e
      refine Or.inr ?_
      have hbb : ar f b lo hi = 1 := by rw [ar_some e, if_pos rfl]
      by_cases c1 : x = b
      · exact ⟨b, a1, a2, a3, by rw [c1]⟩
      · by_cases c2 : x < b
        · have ex : ar f x lo hi = 1 + ar f x lo b := by rw [ar_some e, if_neg c1, if_pos c2]
          rcases ih lo b (by omega) with q | ⟨k, k1, k2, k3, k4⟩
          · exact ⟨b, a1, a2, a3, by rw [hbb, ex, q]⟩
          · exact ⟨k, k1, by omega, k3, by rw [ex, ← k4, ar_some e, if_neg (by omega), if_pos k2]⟩
        · have ex : ar f x lo hi = 1 + ar f x (b + 1) hi := by rw [ar_some e, if_neg c1, if_neg c2]
          rcases ih (b + 1) hi (by omega) with q | ⟨k, k1, k2, k3, k4⟩
          · exact ⟨b, a1, a2, a3, by rw [hbb, ex, q]⟩
          · exact ⟨k, by omega, k2, k3, by rw [ex, ← k4, ar_some e, if_neg (by omega), if_neg (by omega)]⟩
def dpk (f : Nat → Int32) (k : Nat) : Nat := if f k = -9 then 0 else (pl f k).2.2.1 + 1
theorem height_eq (f : Nat → Int32) : mx (fun x => ar f x 0 100) 100 = mx (dpk f) 100 := by
  apply Nat.le_antisymm
  · refine mx_le 100 (fun x hx => ?_)
    rcases ar_near (f := f) (x := x) 100 0 100 (by omega) with q | ⟨k, k1, k2, k3, k4⟩
    · show ar f x 0 100 ≤ _; omega
    · have := mx_ge (g := dpk f) 100 k k2
      have e : dpk f k = ar f k 0 100 := by
        unfold dpk
        rw [if_neg k3]
        have := ar_key k3 100 0 100 0 none (by omega) k1 k2
        unfold pl
        omega
      show ar f x 0 100 ≤ _
      omega
  · refine mx_le 100 (fun k hk => ?_)
    have := mx_ge (g := fun x => ar f x 0 100) 100 k hk
    unfold dpk
    split
    · omega
    · rename_i k3
      have h2 := ar_key k3 100 0 100 0 none (by omega) (by omega) hk
      have h3 : ar f k 0 100 ≤ mx (fun x => ar f x 0 100) 100 := this
      unfold pl
      omega
theorem n_height {f h : Nat → Int32} {a : Nat} {D : DD} (hT : TrOk f h (D (a + 1)) (D (a + 2)) (D (a + 3))) (hr : D a 6 = oI (bs f 0 100)) : g_X7_height a D = some (nI (mx (fun x => ar f x 0 100) 100)) := by
  have loop : ∀ (d j n : Nat), j + d = 100 → d < n → g_X7_height_4 n a (nI (mx (fun x => ar f x 0 100) j)) (nI j) D = some (nI (mx (fun x => ar f x 0 100) 100)) := by
    intro d
    induction d with
    | zero =>
      intro j n h1 h2
      obtain ⟨n, rfl⟩ : ∃ q, n = q + 1 := ⟨n - 1, by omega⟩
      have hj : j = 100 := by omega
      subst hj
      rw [g_X7_height_4, if_pos nI_100']
    | succ d ih =>
      intro j n h1 h2
      obtain ⟨n, rfl⟩ : ∃ q, n = q + 1 := ⟨n - 1, by omega⟩
      have key := ih (j + 1) n (by omega) (by omega)
      have b1 : mx (fun x => ar f x 0 100) j ≤ 100 := mx_le _ (fun i _ => ar_le 100 0 100 (by omega))
      have b2 : ar f j 0 100 ≤ 100 := ar_le 100 0 100 (by omega)
      rw [g_X7_height_4, if_neg (nI_100 (by omega)), n_around hT hr (by omega), pcb_some]
      unfold g_J9_max_7cf53
      rw [nI_1]
      rw [mx] at key
      by_cases c : mx (fun x => ar f x 0 100) j < ar f j 0 100
      · rw [if_pos (nI_lt c (by omega)), pcb_some]
        rw [Nat.max_eq_right (by omega)] at key
        exact key
      · rw [if_neg (nI_nlt (by omega) (by omega)), pcb_some]
        rw [Nat.max_eq_left (by omega)] at key
        exact key
  have := loop 100 0 1000 (by omega) (by omega)
  exact this
theorem n_height9 {f : Nat → Int32} {D : DD} (hf : ∀ k, k < 100 → D 81 k = f k) : ∃ D' : DD, g_X9_height 80 D = some (nI (mx (dpk f) 100), D') ∧ FrM 80 D D' := by
  obtain ⟨D', q1, q2, q3⟩ := n_make (m := 80) (v := 81) (lev := 0) (Or.inl rfl) (by omega) hf
  have loop : ∀ (d j n : Nat), j + d = 100 → d < n → g_X9_height_13 n 80 (nI (mx (dpk f) j)) (nI j) D' = some (nI (mx (dpk f) 100), D') := by
    intro d
    induction d with
    | zero =>
      intro j n h1 h2
      obtain ⟨n, rfl⟩ : ∃ q, n = q + 1 := ⟨n - 1, by omega⟩
      have hj : j = 100 := by omega
      subst hj
      rw [g_X9_height_13, if_pos nI_100']
    | succ d ih =>
      intro j n h1 h2
      obtain ⟨n, rfl⟩ : ∃ q, n = q + 1 := ⟨n - 1, by omega⟩
      have key := ih (j + 1) n (by omega) (by omega)
      have bb : ∀ i, i < 100 → dpk f i ≤ 100 := by
        intro i hi
        unfold dpk
        split
        · omega
        · rename_i hk
          have := (pl_spec hk hi).2.2.1
          omega
      have b1 : mx (dpk f) j ≤ 100 := mx_le _ (fun i hi => bb i (by omega))
      rw [mx] at key
      rw [g_X9_height_13, if_neg (nI_100 (by omega)), zck_nI (by omega) (by decide), ix_nI (by omega), q3.1 (80 + 1) (by omega) (by omega), hf j (by omega)]
      unfold g_X9_height_53 g_X9_height_54
      rw [nI_1]
      by_cases c : f j = -9
      · rw [if_pos c]
        have : dpk f j = 0 := if_pos c
        rw [this, Nat.max_eq_left (by omega)] at key
        exact key
      · rw [if_neg c, zck_nI (by omega) (by decide), zck_nI (by omega) (by decide)]
        have hd := (q2.2 j (by omega) c).1.2.2.1
        rw [Nat.mul_zero, Nat.zero_add] at hd
        have e : dpk f j = (pl f j).2.2.1 + 1 := if_neg c
        rw [hd, nI_1, ← e]
        have b2 := bb j (by omega)
        by_cases c2 : dpk f j ≤ mx (dpk f) j
        · rw [if_pos (nI_le c2 (by omega))]
          rw [Nat.max_eq_left c2] at key
          exact key
        · rw [if_neg (nI_ge (by omega) (by omega))]
          rw [Nat.max_eq_right (by omega)] at key
          exact key
  refine ⟨D', ?_, q3⟩
  have := loop 100 0 1000 (by omega) (by omega)
  unfold g_X9_height
  rw [show (0 : Int32) = nI 0 from nI_0.symm, q1, vcb_some]
  exact this
theorem n_values {f : Mp} {D E : DD} (h1 : ∀ k, k < 100 → D 2 k = f k) (h2 : ∀ k, k < 100 → E 81 k = f k) : ∃ r : Int32, g_X2_sumWithin 1 0 99 D = some r ∧ g_X9_values 80 E = some r := by
  have loop : ∀ (d j n : Nat) (acc : Int32), j + d = 100 → d < n → ∃ r : Int32, g_X2_sumWithin_5 n 1 0 99 acc (nI j) D = some r ∧ g_X9_values_4 n 80 acc (nI j) E = some r := by
    intro d
    induction d with
    | zero =>
      intro j n acc a b
      obtain ⟨n, rfl⟩ : ∃ q, n = q + 1 := ⟨n - 1, by omega⟩
      have hj : j = 100 := by omega
      subst hj
      rw [g_X2_sumWithin_5, g_X9_values_4, if_pos nI_100', if_pos nI_100']
      exact ⟨_, rfl, rfl⟩
    | succ d ih =>
      intro j n acc a b
      obtain ⟨n, rfl⟩ : ∃ q, n = q + 1 := ⟨n - 1, by omega⟩
      have hj : j < 100 := by omega
      rw [g_X2_sumWithin_5, g_X9_values_4, if_neg (nI_100 hj), if_neg (nI_100 hj), if_neg (nI_pos (by omega)), if_neg (show ¬ (99 : Int32) < nI j from nI_nlt (a := 99) (by omega) (by decide)), n_has hj, pcb_some, zck_nI hj (by decide), zck_nI hj (by decide), zck_nI hj (by decide), ix_nI (by omega), show 1 + 1 = 2 from rfl, show 80 + 1 = 81 from rfl, h1 j hj, h2 j hj]
      unfold g_X2_sumWithin_43 g_X9_values_32
      rw [nI_1, Int32.add_zero]
      by_cases c : f j = -9
      · simp only [if_pos c]
        exact ih (j + 1) n acc (by omega) (by omega)
      · simp only [if_neg c, if_neg one_ne0]
        exact ih (j + 1) n (acc + f j) (by omega) (by omega)
  exact loop 100 0 1000 0 (by omega) (by omega)
theorem op_about {D : DD} (h : St D) (w : Int32) : ∃ (r : Int32) (D2 : DD), g_X8_about 0 w D = some r ∧ g_X9_about 80 w D = some (r, D2) ∧ St D2 := by
  obtain ⟨f, us, sl, xs, tr, fm, hC, hM, hA⟩ := id h
  unfold g_X8_about g_X9_about
  simp only [Nat.zero_add]
  by_cases w0 : w = 0
  · simp only [if_pos w0]
    show ∃ (r : Int32) (D2 : DD), pcb (some (D 1 1)) _ = _ ∧ _
    rw [pcb_some, hC.1.2, n_many hM.1, pcb_some]
    exact ⟨_, _, rfl, rfl, h⟩
  simp only [if_neg w0]
  by_cases w1 : w = 1
  · simp only [if_pos w1]
    obtain ⟨D2, b1, -, b3⟩ := n_rootOf hM.1
    rw [n_rootDigest hC.2.1.2.2.2 hC.2.1.1 hC.2.1.2.1, pcb_some, show 80 + 1 = 81 from rfl, b1, dcb_some]
    exact ⟨_, _, rfl, rfl, f, us, sl, xs, tr, fm, hC.congr (fun c hc => b3.1 c (by omega) (by omega)), hM.fp b3.P, hA⟩
  simp only [if_neg w1]
  by_cases w2 : w = 2
  · simp only [if_pos w2]
    obtain ⟨D2, b1, b3⟩ := n_height9 hM.1
    rw [n_height hC.2.1.1 hC.2.1.2.1, pcb_some, b1, dcb_some, height_eq]
    exact ⟨_, _, rfl, rfl, f, us, sl, xs, tr, fm, hC.congr (fun c hc => b3.1 c (by omega) (by omega)), hM.fp b3.P, hA⟩
  simp only [if_neg w2]
  by_cases w3 : w = 3
  · simp only [if_pos w3]
    obtain ⟨r, b1, b2⟩ := n_values hC.1.1 hM.1
    rw [b1, pcb_some, b2, pcb_some]
    exact ⟨_, _, rfl, rfl, h⟩
  simp only [if_neg w3]
  by_cases w4 : w = 4
  · simp only [if_pos w4]
    obtain ⟨fi, hU⟩ := hC.2.2.1
    obtain ⟨nx, hMU⟩ := hM.2.1
    show ∃ (r : Int32) (D2 : DD), pcb (some (D 12 2)) _ = _ ∧ _
    rw [pcb_some, hU.2.2.1, hMU.2.2.1]
    exact ⟨_, _, rfl, rfl, h⟩
  simp only [if_neg w4]
  by_cases w5 : w = 5
  · simp only [if_pos w5]
    show ∃ (r : Int32) (D2 : DD), pcb (some (D 43 1)) _ = _ ∧ _
    rw [pcb_some, hC.row.1, hM.row.1]
    exact ⟨_, _, rfl, rfl, h⟩
  simp only [if_neg w5]
  by_cases w6 : w = 6
  · simp only [if_pos w6]
    show ∃ (r : Int32) (D2 : DD), pcb (some (D 42 1)) _ = _ ∧ _
    rw [pcb_some, hC.tru.1, hM.tru.1]
    exact ⟨_, _, rfl, rfl, h⟩
  simp only [if_neg w6]
  by_cases w7 : w = 7
  · simp only [if_pos w7]
    show ∃ (r : Int32) (D2 : DD), pcb (some (D 42 3)) _ = _ ∧ _
    rw [pcb_some, hC.tru.2.1, hM.tru.2.1]
    exact ⟨_, _, rfl, rfl, h⟩
  simp only [if_neg w7]
  exact ⟨_, _, rfl, rfl, h⟩
