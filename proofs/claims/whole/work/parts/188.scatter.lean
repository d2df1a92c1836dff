theorem up_nI (z : Int64) : ∃ j, j < 2 ^ 31 ∧ ((z.toUInt64 >>> ((33 : Int32).toInt64.toUInt64 &&& Int64.toUInt64 63)).toInt64).toInt32 = nI j := by
  generalize hu : z.toUInt64 >>> ((33 : Int32).toInt64.toUInt64 &&& Int64.toUInt64 63) = u
  have hlt : u.toNat < 2 ^ 31 := by
    rw [← hu, UInt64.toNat_shiftRight, show ((33 : Int32).toInt64.toUInt64 &&& Int64.toUInt64 63).toNat % 64 = 33 by decide, Nat.shiftRight_eq_div_pow]
    have := z.toUInt64.toNat_lt
    omega
  refine ⟨u.toNat, hlt, ?_⟩
  apply Int32.toInt_inj.mp
  rw [Int64.toInt_toInt32, nI_toInt hlt]
  have e : u.toInt64.toInt = u.toNat := by
    show u.toBitVec.toInt = _
    rw [BitVec.toInt_eq_toNat_of_lt (by have : u.toBitVec.toNat = u.toNat := rfl; omega)]
    rfl
  rw [e]
  exact Int.bmod_eq_of_le (by omega) (by omega)
theorem n_scatters {N : Nat} (hN : N ≤ 20) : ∀ (d : Nat) (z : Int64) (f : Mp), OkM f → ∃ f' : Mp, OkM f' ∧
    (∀ (t n : Nat) (D : DD), t + d = N → d < n → Prs D 1 f → ∃ D1 : DD, g_X8_scatter_31 n 0 (nI N) z (nI t) D = vcb (g_X7_grow 3 1 D1) (fun D2 => pcb (g_X2_count 1 D2) (fun r3 => some (r3, D2))) ∧ Prs D1 1 f' ∧ ∀ c, c ≠ 1 → c ≠ 2 → D1 c = D c) ∧
    (∀ (t n : Nat) (D : DD), t + d = N → d < n → (∀ k, k < 100 → D 81 k = f k) → ∃ D1 : DD, g_X9_scatter_25 n 80 (nI N) z (nI t) D = some (nI (cn f' 0 100), D1) ∧ (∀ k, k < 100 → D1 81 k = f' k) ∧ ∀ c, c ≠ 81 → D1 c = D c) := by
  intro d
  induction d with
  | zero =>
    intro z f hf
    refine ⟨f, hf, fun t n D h1 h2 hP => ?_, fun t n D h1 h2 hP => ?_⟩
    · obtain ⟨n, rfl⟩ : ∃ q, n = q + 1 := ⟨n - 1, by omega⟩
      rw [g_X8_scatter_31, if_pos (nI_le (by omega) (by omega))]
      exact ⟨D, rfl, hP, fun _ _ _ => rfl⟩
    · obtain ⟨n, rfl⟩ : ∃ q, n = q + 1 := ⟨n - 1, by omega⟩
      rw [g_X9_scatter_25, if_pos (nI_le (by omega) (by omega)), n_many (f := f) hP, pcb_some]
      exact ⟨D, rfl, hP, fun _ _ => rfl⟩
  | succ d ih =>
    intro z f hf
    obtain ⟨y, hy⟩ : ∃ y : Int64, z * (6364136223846793005 : Int64) + (1442695040888963407 : Int64) = y := ⟨_, rfl⟩
    obtain ⟨j, hj, ej⟩ := up_nI y
    have ek : nI j - nI j / (100 : Int32) * (100 : Int32) = nI (j % 100) := nI_rem hj (by decide) (by decide)
    have ev : (nI j / (128 : Int32)) - (nI j / (128 : Int32)) / (100 : Int32) * (100 : Int32) = nI (j / 128 % 100) := by
      rw [show (128 : Int32) = nI 128 from rfl, nI_divI hj (by decide) (by decide)]
      exact nI_rem (by omega) (by decide) (by decide)
    have k1 : j % 100 < 100 := Nat.mod_lt _ (by decide)
    have k2 : j / 128 % 100 < 100 := Nat.mod_lt _ (by decide)
    generalize j % 100 = k at *
    generalize j / 128 % 100 = v at *
    by_cases c : f k = -9 ∧ 40 ≤ cn f 0 100
    · obtain ⟨f', o, a, b⟩ := ih y f hf
      refine ⟨f', o, fun t n D h1 h2 hP => ?_, fun t n D h1 h2 hP => ?_⟩
      · obtain ⟨n, rfl⟩ : ∃ q, n = q + 1 := ⟨n - 1, by omega⟩
        rw [g_X8_scatter_31, if_neg (nI_ge (by omega) (by omega))]
        unfold g_X8_scatter_94
        rw [hy, ej, ek, ev, nI_1, Nat.zero_add, n_room hP k1, pcb_some, if_pos c, if_pos rfl]
        exact a (t + 1) n D (by omega) (by omega) hP
      · obtain ⟨n, rfl⟩ : ∃ q, n = q + 1 := ⟨n - 1, by omega⟩
        rw [g_X9_scatter_25, if_neg (nI_ge (by omega) (by omega))]
        unfold g_X9_scatter_85
        rw [hy, ej, ek, ev, nI_1, n_mayPut (v := 80 + 1) hP k1, pcb_some, if_pos c, if_pos rfl]
        exact b (t + 1) n D (by omega) (by omega) hP
    · obtain ⟨f', o, a, b⟩ := ih y (upd f k (nI v)) (hf.put k1 (isNum_nI k2) c)
      refine ⟨f', o, fun t n D h1 h2 hP => ?_, fun t n D h1 h2 hP => ?_⟩
      · obtain ⟨n, rfl⟩ : ∃ q, n = q + 1 := ⟨n - 1, by omega⟩
        obtain ⟨D1, q1, q2, q3⟩ := n_give hP k1 (v := nI v) (nI_ne9 (by omega))
        rw [g_X8_scatter_31, if_neg (nI_ge (by omega) (by omega))]
        unfold g_X8_scatter_94
        rw [hy, ej, ek, ev, nI_1, Nat.zero_add, n_room hP k1, pcb_some, if_neg c, if_neg one_ne0, q1, vcb_some]
        obtain ⟨D2, l1, l2, l3⟩ := a (t + 1) n D1 (by omega) (by omega) q2
        exact ⟨D2, l1, l2, fun c c1 c2 => by rw [l3 c c1 c2, q3 c c1 c2]⟩
      · obtain ⟨n, rfl⟩ : ∃ q, n = q + 1 := ⟨n - 1, by omega⟩
        rw [g_X9_scatter_25, if_neg (nI_ge (by omega) (by omega))]
        unfold g_X9_scatter_85
        rw [hy, ej, ek, ev, nI_1, n_mayPut (v := 80 + 1) hP k1, pcb_some, if_neg c, if_neg one_ne0, zck_nI k1 (by decide), dlt_eq, ix_nI (by omega)]
        obtain ⟨D2, l1, l2, l3⟩ := b (t + 1) n (u2 D 81 k (nI v)) (by omega) (by omega) (fun i hi => by
          rw [u2_same]
          by_cases e : i = k
          · rw [e, upd_same, upd_same]
          · rw [upd_ne _ _ e, upd_ne _ _ e]; exact hP i hi)
        exact ⟨D2, l1, l2, fun c c1 => by rw [l3 c c1, u2_ne _ _ c1]⟩
theorem op_scatter {D : DD} (h : St D) (x : Int32) (z : Int64) : ∃ (r : Int32) (D1 D2 : DD), g_X8_scatter 0 x z D = some (r, D1) ∧ g_X9_scatter 80 x z D1 = some (r, D2) ∧ St D2 := by
  obtain ⟨f, us, sl, xs, tr, fm, hC, hM, hA⟩ := id h
  unfold g_X8_scatter g_X9_scatter
  simp only [Nat.zero_add]
  have i1 : (1 : Int64) = (1 : Int32).toInt64 := rfl
  have i20 : (20 : Int64) = (20 : Int32).toInt64 := rfl
  rw [i1, i20]
  simp only [n_in32, pcb_some]
  rcases place_or (L := 21) (by omega) x with ⟨N, hN, rfl⟩ | hp
  · by_cases h0 : N = 0
    · subst h0
      rw [if_pos (show nI 0 < 1 by decide)]
      have hn : ¬ ((1 : Int32) ≤ nI 0 ∧ nI 0 ≤ 20) := fun q => absurd q.1 (by decide)
      simp only [if_neg hn, if_pos]
      exact ⟨_, _, _, rfl, rfl, h⟩
    · rw [if_neg (show ¬ nI N < (1 : Int32) from nI_nlt (b := 1) (by omega) (by omega)), if_pos (show nI N ≤ (20 : Int32) from nI_le (b := 20) (by omega) (by decide)), if_pos (show (1 : Int32) ≤ nI N ∧ nI N ≤ 20 from ⟨show (1 : Int32) ≤ nI N from nI_le (a := 1) (by omega) (by omega), show nI N ≤ (20 : Int32) from nI_le (b := 20) (by omega) (by decide)⟩)]
      simp only [if_neg one_ne0]
      obtain ⟨fi, hU⟩ := hC.2.2.1
      obtain ⟨D1, e1, ⟨fi', e2⟩, e3⟩ := n_note hU hC.1
      obtain ⟨f', o, a8, a9⟩ := n_scatters (N := N) (by omega) N z f hA.1
      obtain ⟨D2, q1, q2, q3⟩ := a8 0 1000 D1 (by omega) (by omega) (hC.1.congr (e3 _ (by omega)) (e3 _ (by omega)))
      obtain ⟨D3, g1, g2, g3⟩ := hC.grown (D1 := D2) (f' := f') (us' := pushU us f) q2 ⟨fi', e2.congr (fun c a b => q3 c (by omega) (by omega))⟩ (fun c c1 c2 c3 => by rw [q3 c c1 c2, e3 c c3])
      rw [e1, vcb_some, show (0 : Int32) = nI 0 from nI_0.symm, q1, g1, vcb_some]
      show ∃ (r : Int32) (D1 D2 : DD), pcb (some (D3 1 1)) _ = _ ∧ _
      rw [pcb_some, g2.1.2]
      have hM3 : MI D3 80 f us sl xs tr fm := hM.congr (fun c a b => by rw [g3 c (by omega) (by omega) (by omega) (by omega) (by omega), q3 c (by omega) (by omega), e3 c (by omega)])
      obtain ⟨nx, hMU⟩ := hM3.2.1
      obtain ⟨D4, k1, k2, k3, k4⟩ := n_note9 hM3.1 hMU
      obtain ⟨D5, l1, l2, l3⟩ := a9 0 1000 D4 (by omega) (by omega) (fun k hk => by rw [k3 81 (by omega) (by omega)]; exact hM3.1 k hk)
      refine ⟨nI (cn f' 0 100), D3, D5, rfl, by rw [k1, vcb_some, l1], f', pushU us f, sl, xs, tr, fm, g2.congr (fun c hc => by rw [l3 c (by omega), k3 c (by omega) (by omega)]), ?_, hA.push o⟩
      obtain ⟨nx', a1, a2, a3, a4, a5⟩ := k2
      exact hM3.changed l2 ⟨nx', by rw [l3 _ (by omega)]; exact a1, a2, by rw [l3 _ (by omega)]; exact a3, a4, fun i g hi q hq => by rw [l3 _ (by omega)]; exact a5 i g hi q hq⟩ (fun c c1 c2 c3 => by rw [l3 c c2, k3 c c1 c3]) (fun i i1 i2 => by rw [l3 _ (by omega)]; exact k4 i i1 i2)
  · have e8 : ∀ X : Option (Int32 × DD), (if x < 1 then (some ((-2 : Int32), D)) else (if x ≤ 20 then X else (some ((-2 : Int32), D)))) = some (-2, D) := by
      intro X
      by_cases h1 : x < 1
      · rw [if_pos h1]
      · rw [if_neg h1, if_neg]
        intro q
        refine absurd (Int32.le_trans (hp.elim (fun q => absurd ?_ h1) id) q) (by decide)
        exact Int32.lt_trans q (by decide)
    have hn : ¬ ((1 : Int32) ≤ x ∧ x ≤ 20) := by
      rintro ⟨a, b⟩
      rcases hp with q | q
      · exact absurd (Int32.lt_of_lt_of_le q (show (0 : Int32) ≤ 1 by decide)) (Int32.not_lt.mpr a)
      · exact absurd (Int32.le_trans q b) (by decide)
    rw [e8]
    simp only [if_neg hn, if_pos]
    exact ⟨_, _, _, rfl, rfl, h⟩
