theorem mixL_ok {x : Int64} {w : Int32} (h0 : 0 ≤ x.toInt) (h1 : x.toInt < 2147483647) (hw : 0 ≤ w.toInt) : 0 ≤ (mixL x w).toInt ∧ (mixL x w).toInt < 2147483647 := by
  have hw2 := Int32.toInt_lt w
  have c1 : (1000003 : Int64).toInt = 1000003 := by decide
  have c2 : (2147483647 : Int64).toInt = 2147483647 := by decide
  have e1 : (1000003 * x + w.toInt64).toInt = 1000003 * x.toInt + w.toInt := by
    rw [Int64.toInt_add, Int64.toInt_mul, c1, Int32.toInt_toInt64]
    rw [Int.bmod_eq_of_le (n := 1000003 * x.toInt) (by omega) (by omega), Int.bmod_eq_of_le (by omega) (by omega)]
  unfold mixL
  generalize hy : 1000003 * x + w.toInt64 = y at *
  have e2 : (y / 2147483647).toInt = y.toInt / 2147483647 := by
    rw [Int64.toInt_div, c2, Int.tdiv_eq_ediv_of_nonneg (by omega)]
    exact Int.bmod_eq_of_le (by omega) (by omega)
  have e3 : (y - y / 2147483647 * 2147483647).toInt = y.toInt - y.toInt / 2147483647 * 2147483647 := by
    rw [Int64.toInt_sub, Int64.toInt_mul, e2, c2, Int.bmod_eq_of_le (n := y.toInt / 2147483647 * 2147483647) (by omega) (by omega)]
    exact Int.bmod_eq_of_le (by omega) (by omega)
  rw [e3]
  omega
theorem dN_pos {k v l r : Int32} (hk : 0 ≤ k) (hv : 0 ≤ v) (hl : 0 ≤ l) (hr : 0 ≤ r) : 0 < dN k v l r := by
  have z : (0 : Int32).toInt = 0 := by decide
  rw [Int32.le_iff_toInt_le, z] at hk hv hl hr
  have h17 : (17 : Int64).toInt = 17 := by decide
  obtain ⟨a1, a2⟩ := mixL_ok (x := 17) (by omega) (by omega) hk
  obtain ⟨b1, b2⟩ := mixL_ok a1 a2 hv
  obtain ⟨c1, c2⟩ := mixL_ok b1 b2 hl
  obtain ⟨d1, d2⟩ := mixL_ok c1 c2 hr
  unfold dN
  generalize mixL (mixL (mixL (mixL 17 k) v) l) r = y at *
  rw [Int32.lt_iff_toInt_lt, z, Int32.toInt_add, Int64.toInt_toInt32, show (1 : Int32).toInt = 1 by decide, Int.bmod_eq_of_le (n := y.toInt) (by omega) (by omega), Int.bmod_eq_of_le (by omega) (by omega)]
  omega
theorem nI_nn {k : Nat} (h : k < 2 ^ 31) : (0 : Int32) ≤ nI k := nI_pos' h
theorem dg_pos {f : Mp} (hf : ∀ k, k < 100 → f k = -9 ∨ isNum (f k)) : ∀ (n lo hi : Nat), hi - lo ≤ n → hi ≤ 100 → 0 ≤ dg f zg lo hi ∧ (bs f lo hi ≠ none → 0 < dg f zg lo hi) := by
  intro n
  induction n with
  | zero =>
    intro lo hi h1 h2
    have e : bs f lo hi = none := bs_none_of (fun j a b => by omega)
    rw [dg_none e]
    exact ⟨show (0 : Int32) ≤ 0 by decide, fun q => absurd e q⟩
  | succ n ih =>
    intro lo hi h1 h2
    cases e : bs f lo hi with
    | none => rw [dg_none e]; exact ⟨show (0 : Int32) ≤ 0 by decide, fun q => absurd rfl q⟩
    | some k =>
      obtain ⟨a, b, c, -⟩ := bs_some e
      rw [dg_some e]
      have hv : 0 ≤ f k := by
        rcases hf k (by omega) with q | q
        · exact absurd q c
        · exact q.1
      have := dN_pos (nI_nn (k := k) (by omega)) hv (ih lo k (by omega) (by omega)).1 (ih (k + 1) hi (by omega) h2).1
      exact ⟨Int32.le_of_lt this, fun _ => this⟩
theorem isIt_itm {k j : Nat} (hk : k < 100) (hj : j < 100) : isIt (itm k (nI j)) := by
  unfold itm
  rw [c100]
  refine Or.inr ?_
  have c1 : (-100 : Int32).toInt = -100 := by decide
  have c2 : (-10099 : Int32).toInt = -10099 := by decide
  have e : ((-100 : Int32) - nI (100 * k + j)).toInt = -100 - (100 * k + j : Nat) := by
    rw [Int32.toInt_sub, c1, nI_toInt (by omega)]
    exact Int.bmod_eq_of_le (by omega) (by omega)
  rw [Int32.le_iff_toInt_le, Int32.le_iff_toInt_le, e, c1, c2]
  omega
theorem pf_it {f : Mp} (hf : ∀ k, k < 100 → f k = -9 ∨ isNum (f k)) (a b : Nat) : ∀ (n lo hi : Nat), hi - lo ≤ n → hi ≤ 100 → ∀ x ∈ pf f a b lo hi, isIt x := by
  intro n
  induction n with
  | zero =>
    intro lo hi h1 h2 x hx
    have e : bs f lo hi = none := bs_none_of (fun j a b => by omega)
    rw [pf_none e] at hx
    rw [List.mem_singleton.mp hx]
    exact Or.inl (by decide)
  | succ n ih =>
    intro lo hi h1 h2 x hx
    cases e : bs f lo hi with
    | none =>
      rw [pf_none e] at hx
      rw [List.mem_singleton.mp hx]
      exact Or.inl (by decide)
    | some k =>
      obtain ⟨c1, c2, c3, -⟩ := bs_some e
      rw [pf_some e] at hx
      split at hx
      · rcases List.mem_cons.mp hx with q | q
        · rcases hf k (by omega) with p | p
          · exact absurd p c3
          · obtain ⟨j, hj, ej⟩ := isNum_of p
            rw [q, ej]; exact isIt_itm (by omega) hj
        · rcases List.mem_append.mp q with p | p
          · exact ih lo k (by omega) (by omega) x p
          · exact ih (k + 1) hi (by omega) h2 x p
      · rw [List.mem_singleton.mp hx]
        exact Or.inl (dg_pos hf _ lo hi (Nat.le_refl _) h2).1
theorem drop_cons {xs : List Int32} {j : Nat} (hj : j < xs.length) : xs.drop j = xs[j] :: xs.drop (j + 1) := List.drop_eq_getElem_cons hj
theorem n_countDigests {D : DD} {w : Nat} {xs : List Int32} (h : Itm D w xs) (hl : xs.length ≤ 100) : g_X1_countDigests w D = some (nI (xs.countP (fun x => decide (0 < x)))) := by
  have loop : ∀ (d j c n : Nat), j + d = xs.length → d < n → g_X1_countDigests_4 n w (nI c) (nI j) D = some (nI (c + (xs.drop j).countP (fun x => decide (0 < x)))) := by
    intro d
    induction d with
    | zero =>
      intro j c n h1 h2
      obtain ⟨n, rfl⟩ : ∃ q, n = q + 1 := ⟨n - 1, by omega⟩
      rw [g_X1_countDigests_4, h.1, if_pos (nI_le (by omega) (by omega)), List.drop_eq_nil_of_le (by omega)]
      rfl
    | succ d ih =>
      intro j c n h1 h2
      obtain ⟨n, rfl⟩ : ∃ q, n = q + 1 := ⟨n - 1, by omega⟩
      have hj : j < xs.length := by omega
      rw [g_X1_countDigests_4, h.1, if_neg (nI_ge hj (by omega)), n_itemAt h hl (List.getElem?_eq_getElem hj), pcb_some, drop_cons hj, List.countP_cons]
      unfold g_X1_countDigests_23
      by_cases e : xs[j] ≤ 0
      · rw [if_pos e, nI_1, ih (j + 1) c n (by omega) (by omega), if_neg (by simpa using Int32.not_lt.mpr e)]
        simp
      · rw [if_neg e, nI_1, nI_1, ih (j + 1) (c + 1) n (by omega) (by omega), if_pos (by simpa using Int32.not_le.mp e)]
        congr 2
        omega
  have := loop xs.length 0 0 1000 (by omega) (by omega)
  rw [nI_0, List.drop_zero, Nat.zero_add] at this
  exact this
theorem n_countNodes {D : DD} {w : Nat} {xs : List Int32} (h : Itm D w xs) (hl : xs.length ≤ 100) : g_X1_countNodes w D = some (nI (xs.countP (fun x => decide (x < 0)))) := by
  have loop : ∀ (d j c n : Nat), j + d = xs.length → d < n → g_X1_countNodes_4 n w (nI c) (nI j) D = some (nI (c + (xs.drop j).countP (fun x => decide (x < 0)))) := by
    intro d
    induction d with
    | zero =>
      intro j c n h1 h2
      obtain ⟨n, rfl⟩ : ∃ q, n = q + 1 := ⟨n - 1, by omega⟩
      rw [g_X1_countNodes_4, h.1, if_pos (nI_le (by omega) (by omega)), List.drop_eq_nil_of_le (by omega)]
      rfl
    | succ d ih =>
      intro j c n h1 h2
      obtain ⟨n, rfl⟩ : ∃ q, n = q + 1 := ⟨n - 1, by omega⟩
      have hj : j < xs.length := by omega
      rw [g_X1_countNodes_4, h.1, if_neg (nI_ge hj (by omega)), n_itemAt h hl (List.getElem?_eq_getElem hj), pcb_some, drop_cons hj, List.countP_cons]
      unfold g_X1_countNodes_23
      by_cases e : 0 ≤ xs[j]
      · rw [if_pos e, nI_1, ih (j + 1) c n (by omega) (by omega), if_neg (by simpa using Int32.not_lt.mpr e)]
        simp
      · rw [if_neg e, nI_1, nI_1, ih (j + 1) (c + 1) n (by omega) (by omega), if_pos (by simpa using Int32.not_le.mp e)]
        congr 2
        omega
  have := loop xs.length 0 0 1000 (by omega) (by omega)
  rw [nI_0, List.drop_zero, Nat.zero_add] at this
  exact this
def pW (w : Nat) (x : Int32) : Bool := if w = 0 then true else if w = 1 then decide (0 < x) else decide (x < 0)
theorem n_proofLoop {D : DD} {m w : Nat} {xs : List Int32} (hw : w < 3) (h : Prf D m xs) (hl : xs.length ≤ 100) : ∀ (d j c n : Nat), j + d = xs.length → d < n → g_X9_proof_39 n m (nI w) (nI c) (nI j) D = some (nI (c + (xs.drop j).countP (pW w)), D) := by
  intro d
  induction d with
  | zero =>
    intro j c n h1 h2
    obtain ⟨n, rfl⟩ : ∃ q, n = q + 1 := ⟨n - 1, by omega⟩
    rw [g_X9_proof_39, h.1, if_pos (nI_le (by omega) (by omega)), List.drop_eq_nil_of_le (by omega)]
    rfl
  | succ d ih =>
    intro j c n h1 h2
    obtain ⟨n, rfl⟩ : ∃ q, n = q + 1 := ⟨n - 1, by omega⟩
    have hj : j < xs.length := by omega
    have i1 := ih (j + 1) (c + 1) n (by omega) (by omega)
    have i0 := ih (j + 1) (c + 0) n (by omega) (by omega)
    rw [g_X9_proof_39, h.1, if_neg (nI_ge hj (by omega)), drop_cons hj, List.countP_cons]
    unfold g_X9_proof_84 g_X9_proof_69 g_X9_proof_84 g_X9_proof_88 g_X9_proof_89
    rw [nI_1, nI_1, show (0 : Int32) = nI 0 from nI_0.symm, nI_add, zck_nI (by omega) (by decide), zck_nI (by omega) (by decide), ix_nI (by omega), h.2 j xs[j] (List.getElem?_eq_getElem hj)]
    have e1 : (nI (c + 1 + (xs.drop (j + 1)).countP (pW w)), D) = (nI (c + ((xs.drop (j + 1)).countP (pW w) + 1)), D) := by congr 2; omega
    match w, hw with
    | 0, _ => rw [if_pos rfl, i1, if_pos (show pW 0 xs[j] = true from rfl), e1]
    | 1, _ =>
      rw [if_neg (by decide), if_pos (show nI 1 = 1 from rfl)]
      by_cases e : 0 < xs[j]
      · rw [if_pos (show nI 0 < xs[j] from e), i1, if_pos (show pW 1 xs[j] = true by simpa [pW] using e), e1]
      · rw [if_neg (show ¬ nI 0 < xs[j] from e), if_neg (show ¬ nI 1 = 2 by decide), i0, if_neg (show ¬ pW 1 xs[j] = true by simpa [pW] using e)]; rfl
    | 2, _ =>
      rw [if_neg (by decide), if_neg (show ¬ nI 2 = 1 by decide), if_pos (show nI 2 = 2 from rfl)]
      by_cases e : 0 ≤ xs[j]
      · rw [if_pos (show nI 0 ≤ xs[j] from e), i0, if_neg (show ¬ pW 2 xs[j] = true by simpa [pW] using Int32.not_lt.mpr e)]; rfl
      · rw [if_neg (show ¬ nI 0 ≤ xs[j] from e), i1, if_pos (show pW 2 xs[j] = true by simpa [pW] using Int32.not_le.mp e), e1]
theorem pf100 {f : Mp} (hf : OkM f) (a b : Nat) : (pf f a b 0 100).length ≤ 100 := by
  have := pf_len f a b 100 0 100 (by omega)
  have := hf.2
  omega
/-- a proof written by the class into its own row -/
theorem written {D : DD} {f : Mp} {us : List Mp} {sl : Nat → Option Mp} {xs : List Int32} {tr : Int32} {fm : List Int32} {a b : Nat} (hC : CI D f us sl xs tr fm) (hA : AOk f us sl xs fm) (ha : a < 100) (hb : b < 100) : ∃ D1 : DD, g_X7_writeProof 3 1 (nI a) (nI b) 72 D = some D1 ∧ CI D1 f us sl xs tr fm ∧ Itm D1 72 (pf f a b 0 100) ∧ ∀ c, 80 ≤ c → D1 c = D c := by
  obtain ⟨L, hL1, hL2⟩ := hC.wr
  obtain ⟨D1, q1, q2, q3⟩ := n_writeProof (t := 3) (p := 1) (w := 72) ha hb (Or.inl (by omega)) (Or.inr (by omega)) (Or.inr (by omega)) ⟨hC.2.1.1, hC.1.1⟩ hC.2.1.2.1 (by have := hA.1.2; omega) hL2 hL1
  refine ⟨D1, q1, hC.keep2 (fun c hc => q3 c (by omega) (by omega) (by omega) (by omega) (by omega)) (hC.row.congr (q3 _ (by omega) (by omega) (by omega) (by omega) (by omega)) (q3 _ (by omega) (by omega) (by omega) (by omega) (by omega))) (hC.tru.congr (q3 _ (by omega) (by omega) (by omega) (by omega) (by omega)) (q3 _ (by omega) (by omega) (by omega) (by omega) (by omega))) ⟨_, pf100 hA.1 a b, q2.1⟩, q2, fun c hc => q3 c (by omega) (by omega) (by omega) (by omega) (by omega)⟩
theorem op_item {D : DD} (h : St D) (x y p : Int32) : ∃ (r : Int32) (D1 D2 : DD), g_X8_item 0 x y p D = some (r, D1) ∧ g_X9_item 80 x y p D1 = some (r, D2) ∧ St D2 := by
  obtain ⟨f, us, sl, xs, tr, fm, hC, hM, hA⟩ := id h
  unfold g_X8_item g_X9_item
  simp only [Nat.zero_add]
  rcases range_or x y with ⟨a, b, hab, hb, rfl, rfl, e1, e2⟩ | ⟨e1, e2⟩
  · simp only [e1, e2, pcb_some, if_neg one_ne0]
    obtain ⟨D1, q1, q2, q3, q4⟩ := written hC hA (a := a) (b := b) (by omega) hb
    have hM1 : MI D1 80 f us sl xs tr fm := hM.congr (fun c c1 c2 => q4 c (by omega))
    obtain ⟨D2, p1, p2, p3⟩ := n_prove (m := 80) (v := 81) (Or.inl rfl) hab hb hM1.1 (by have := hA.1.2; omega)
    have hS : St D2 := ⟨f, us, sl, xs, tr, fm, q2.congr (fun c hc => p3.1 c (by omega) (by omega)), hM1.fp p3, hA⟩
    have hl := pf100 hA.1 a b
    rw [q1, vcb_some]
    rcases place_or (L := (pf f a b 0 100).length) (by omega) p with ⟨j, hj, rfl⟩ | hp
    · rw [n_hasPlace q3 hl hj, pcb_some, if_neg one_ne0, n_itemAt q3 hl (List.getElem?_eq_getElem hj), pcb_some]
      refine ⟨_, D1, D2, rfl, ?_, hS⟩
      rw [p1, vcb_some, p2.1, n_inL (by omega) hj, pcb_some, if_neg one_ne0, zck_nI (by omega) (by decide), ix_nI (by omega), p2.2 j _ (List.getElem?_eq_getElem hj)]
    · rw [n_hasPlace_f q3 hp, pcb_some, if_pos rfl]
      refine ⟨_, D1, D2, rfl, ?_, hS⟩
      rw [p1, vcb_some, p2.1, n_inL_f (by omega) hp, pcb_some, if_pos rfl]
  · simp only [e1, e2, pcb_some, if_pos]
    exact ⟨_, _, _, rfl, rfl, h⟩
theorem op_proof {D : DD} (h : St D) (x y w : Int32) : ∃ (r : Int32) (D1 D2 : DD), g_X8_proof 0 x y w D = some (r, D1) ∧ g_X9_proof 80 x y w D1 = some (r, D2) ∧ St D2 := by
  obtain ⟨f, us, sl, xs, tr, fm, hC, hM, hA⟩ := id h
  unfold g_X8_proof g_X9_proof
  simp only [Nat.zero_add]
  rcases range_or x y with ⟨a, b, hab, hb, rfl, rfl, e1, e2⟩ | ⟨e1, e2⟩
  · simp only [e1, e2, pcb_some, if_neg one_ne0]
    have hin : (2 : Int64) = (nI 3 - (1 : Int32)).toInt64 := by decide
    rcases place_or (L := 3) (by omega) w with ⟨j, hj, rfl⟩ | hp
    · obtain ⟨D1, q1, q2, q3, q4⟩ := written hC hA (a := a) (b := b) (by omega) hb
      have hM1 : MI D1 80 f us sl xs tr fm := hM.congr (fun c c1 c2 => q4 c (by omega))
      obtain ⟨D2, p1, p2, p3⟩ := n_prove (m := 80) (v := 81) (Or.inl rfl) hab hb hM1.1 (by have := hA.1.2; omega)
      have hS : St D2 := ⟨f, us, sl, xs, tr, fm, q2.congr (fun c hc => p3.1 c (by omega) (by omega)), hM1.fp p3, hA⟩
      have hl := pf100 hA.1 a b
      rw [if_neg (nI_pos (by omega)), if_pos (show nI j ≤ (2 : Int32) from nI_le (b := 2) (by omega) (by decide)), q1, vcb_some, hin, n_inL (by omega) hj]
      simp only [pcb_some, if_neg one_ne0]
      have pl := n_proofLoop hj p2 hl (pf f a b 0 100).length 0 0 1000 (by omega) (by omega)
      rw [nI_0, List.drop_zero, Nat.zero_add] at pl
      refine ⟨nI ((pf f a b 0 100).countP (pW j)), D1, D2, ?_, by rw [p1, vcb_some, pl], hS⟩
      match j, hj with
      | 0, _ =>
        rw [if_pos (show nI 0 = 0 from nI_0)]
        show pcb (some (D1 72 1)) _ = _
        rw [pcb_some, q3.1, show (pf f a b 0 100).countP (pW 0) = (pf f a b 0 100).length from List.countP_eq_length.mpr (fun _ _ => rfl)]
      | 1, _ =>
        rw [if_neg (by decide), if_pos (show nI 1 = 1 from rfl), n_countDigests q3 hl, pcb_some]
        rfl
      | 2, _ =>
        rw [if_neg (by decide), if_neg (show ¬ nI 2 = 1 by decide), n_countNodes q3 hl, pcb_some]
        rfl
    · have e8 : ∀ X : Option (Int32 × DD), (if w < 0 then (some ((-2 : Int32), D)) else (if w ≤ 2 then X else (some ((-2 : Int32), D)))) = some (-2, D) := by
        intro X
        by_cases h1 : w < 0
        · rw [if_pos h1]
        · rw [if_neg h1, if_neg]
          intro q
          exact absurd (Int32.le_trans (hp.elim (fun q => absurd q h1) id) q) (by decide)
      rw [e8]
      refine ⟨_, _, _, rfl, ?_, h⟩
      rw [hin, n_inL_f (by omega) hp, pcb_some, if_pos rfl]
  · simp only [e1, e2, pcb_some, if_pos]
    exact ⟨_, _, _, rfl, rfl, h⟩
theorem op_send {D : DD} (h : St D) (x y : Int32) : ∃ (r : Int32) (D1 D2 : DD), g_X8_send 0 x y D = some (r, D1) ∧ g_X9_send 80 x y D1 = some (r, D2) ∧ St D2 := by
  obtain ⟨f, us, sl, xs, tr, fm, hC, hM, hA⟩ := id h
  unfold g_X8_send g_X9_send
  simp only [Nat.zero_add]
  rcases range_or x y with ⟨a, b, hab, hb, rfl, rfl, e1, e2⟩ | ⟨e1, e2⟩
  · simp only [e1, e2, pcb_some, if_neg one_ne0]
    have hl := pf100 hA.1 a b
    obtain ⟨D1, q1, q2, q3⟩ := n_writeProof (t := 3) (p := 1) (w := 43) (a := a) (b := b) (by omega) hb (Or.inl (by omega)) (Or.inr (by omega)) (Or.inr (by omega)) ⟨hC.2.1.1, hC.1.1⟩ hC.2.1.2.1 (by have := hA.1.2; omega) hC.row.1 hA.2.2.2.2.1
    have r3 : ∀ c, 80 ≤ c → D1 c = D c := fun c hc => q3 c (by omega) (by omega) (by omega) (by omega) (by omega)
    have hM1 : MI D1 80 f us sl xs tr fm := hM.congr (fun c c1 c2 => r3 c (by omega))
    obtain ⟨D2, p1, p2, p3⟩ := n_prove (m := 80) (v := 81) (Or.inl rfl) hab hb hM1.1 (by have := hA.1.2; omega)
    have hM2 := hM1.fp p3
    obtain ⟨L, hL1, hL2⟩ := hC.wr
    have hC1 : CI D1 f us sl (pf f a b 0 100) tr fm := hC.keep2 (fun c hc => q3 c (by omega) (by omega) (by omega) (by omega) (by omega)) q2 (hC.tru.congr (q3 _ (by omega) (by omega) (by omega) (by omega) (by omega)) (q3 _ (by omega) (by omega) (by omega) (by omega) (by omega))) ⟨L, hL1, by rw [q3 _ (by omega) (by omega) (by omega) (by omega) (by omega)]; exact hL2⟩
    have loop : ∀ (d j n : Nat) (D : DD), j + d = (pf f a b 0 100).length → d < n → D 80 25 = nI (pf f a b 0 100).length → (∀ (j : Nat) (x : Int32), (pf f a b 0 100)[j]? = some x → D 100 j = x) → (∀ (i : Nat) (x : Int32), i < j → (pf f a b 0 100)[i]? = some x → D 101 i = x) → ∃ F : Nat → Int32, g_X9_send_31 n 80 (nI j) D = some (nI (pf f a b 0 100).length, uA D 101 F) ∧ ∀ (i : Nat) (x : Int32), (pf f a b 0 100)[i]? = some x → F i = x := by
      intro d
      induction d with
      | zero =>
        intro j n D h1 h2 h3 h4 h5
        obtain ⟨n, rfl⟩ : ∃ q, n = q + 1 := ⟨n - 1, by omega⟩
        refine ⟨D 101, ?_, fun i x hx => h5 i x (by have := (List.getElem?_eq_some_iff.mp hx).1; omega) hx⟩
        rw [g_X9_send_31, h3, if_pos (nI_le (by omega) (by omega)), uA_self]
      | succ d ih =>
        intro j n D h1 h2 h3 h4 h5
        obtain ⟨n, rfl⟩ : ∃ q, n = q + 1 := ⟨n - 1, by omega⟩
        have hj : j < (pf f a b 0 100).length := by omega
        obtain ⟨F, k1, k2⟩ := ih (j + 1) n (u2 D 101 j (D 100 j)) (by omega) (by omega) (by rw [u2_ne _ _ (by omega)]; exact h3) (fun i x hx => by rw [u2_ne _ _ (by omega)]; exact h4 i x hx) (fun i x hi hx => by
          rw [u2_same]
          by_cases e : i = j
          · subst e; rw [upd_same]; exact h4 _ x hx
          · rw [upd_ne _ _ e]; exact h5 i x (by omega) hx)
        refine ⟨F, ?_, k2⟩
        rw [g_X9_send_31, h3, if_neg (nI_ge hj (by omega)), zck_nI (by omega) (by decide), zck_nI (by omega) (by decide), ix_nI (by omega), dlt_eq, nI_1, k1, uA_u2]
    obtain ⟨F, k1, k2⟩ := loop (pf f a b 0 100).length 0 1000 (u2 D2 80 25 (nI (pf f a b 0 100).length)) (by omega) (by omega) (by rw [u2_same, upd_same]) (fun j x hx => by rw [u2_ne _ _ (by omega)]; exact p2.2 j x hx) (fun i x hi => by omega)
    rw [q1, vcb_some]
    show ∃ (r : Int32) (D1' D2 : DD), pcb (some (D1 43 1)) _ = _ ∧ _
    rw [pcb_some, q2.1]
    refine ⟨nI (pf f a b 0 100).length, D1, uA (u2 D2 80 25 (nI (pf f a b 0 100).length)) 101 F, rfl, ?_, f, us, sl, pf f a b 0 100, tr, fm, hC1.congr (fun c hc => ?_), ?_, hA.row (pf_it hA.1.1 a b 100 0 100 (by omega) (by omega)) hl⟩
    · rw [p1, vcb_some, dlt_eq, p2.1, show (0 : Int32) = nI 0 from nI_0.symm, k1]
    · rw [uA_ne _ _ (by omega), u2_ne _ _ (by omega), p3.1 c (by omega) (by omega)]
    · exact hM2.keep2 (fun c hc => by rw [uA_ne _ _ (by omega), u2_ne _ _ (by omega)]) (fun j hj => by rw [uA_ne _ _ (by omega), u2_same, upd_ne _ _ (by omega)]) ⟨by rw [uA_ne _ _ (by omega), u2_same, upd_same], fun j x hx => by rw [uA_same]; exact k2 j x hx⟩ (hM2.tru.congr (by rw [uA_ne _ _ (by omega), u2_same, upd_ne _ _ (by omega)]) (by rw [uA_ne _ _ (by omega), u2_same, upd_ne _ _ (by omega)]) (by rw [uA_ne _ _ (by omega), u2_ne _ _ (by omega)]))
  · simp only [e1, e2, pcb_some, if_pos]
    exact ⟨_, _, _, rfl, rfl, h⟩
