/-! ===== how many keys ===== -/
def cnF (f : Nat → Int32) (lo : Nat) : Nat → Nat
  | 0 => 0
  | d + 1 => cnF f lo d + (if f (lo + d) = -9 then 0 else 1)
def cn (f : Nat → Int32) (lo hi : Nat) : Nat := cnF f lo (hi - lo)
theorem cnF_add (f : Nat → Int32) (lo d e : Nat) : cnF f lo (d + e) = cnF f lo d + cnF f (lo + d) e := by
  induction e with
  | zero => rfl
  | succ e ih => rw [← Nat.add_assoc, cnF, cnF, ih, Nat.add_assoc, Nat.add_assoc]
theorem cn_add {f : Nat → Int32} {lo k hi : Nat} (h1 : lo ≤ k) (h2 : k ≤ hi) : cn f lo hi = cn f lo k + cn f k hi := by
  unfold cn
  rw [show hi - lo = (k - lo) + (hi - k) by omega, cnF_add, show lo + (k - lo) = k by omega]
theorem cn_one (f : Nat → Int32) (k : Nat) : cn f k (k + 1) = if f k = -9 then 0 else 1 := by
  unfold cn
  rw [show k + 1 - k = 1 by omega]
  simp [cnF]
theorem cnF_le (f : Nat → Int32) (lo : Nat) : ∀ d, cnF f lo d ≤ d
  | 0 => Nat.le_refl _
  | d + 1 => by
    have := cnF_le f lo d
    rw [cnF]
    split <;> omega
theorem cn_le (f : Nat → Int32) (lo hi : Nat) : cn f lo hi ≤ hi - lo := cnF_le f lo _
theorem cn_some {f : Nat → Int32} {lo hi k : Nat} (e : bs f lo hi = some k) : cn f lo hi = 1 + cn f lo k + cn f (k + 1) hi := by
  obtain ⟨a1, a2, a3, -⟩ := bs_some e
  rw [cn_add a1 (Nat.le_of_lt a2), cn_add (f := f) (Nat.le_succ k) (show k + 1 ≤ hi from a2), show k.succ = k + 1 from rfl, cn_one, if_neg a3]
  omega
/-! ===== the reference: uppermost, want ===== -/
theorem hi_lt {H k : Nat} (hH : H ≤ 1000) (hk : k ≤ 1000) : (nI H - (1 : Int32) < nI k) ↔ H ≤ k := by
  rw [Int32.lt_iff_toInt_lt, nI_toInt (by omega)]
  cases H with
  | zero =>
    have : (nI 0 - (1 : Int32)).toInt = -1 := by decide
    rw [this]; omega
  | succ H => rw [show nI (H + 1) - (1 : Int32) = nI H from nI_pred _, nI_toInt (by omega)]; omega
theorem n_upper_loop {f : Nat → Int32} {D : DD} {v lo H : Nat} (hf : ∀ k, k < 100 → D v k = f k) (hH : H ≤ 100) : ∀ (d k n : Nat), k + d = H → lo ≤ k → d < n → g_X9_uppermost_6 n v (nI H - 1) (oI (bst f lo (k - lo))) (nI k) D = some (oI (bst f lo (H - lo))) := by
  intro d
  induction d with
  | zero =>
    intro k n h1 h2 h3
    obtain ⟨n, rfl⟩ : ∃ m, n = m + 1 := ⟨n - 1, by omega⟩
    have hk : k = H := by omega
    subst hk
    unfold g_X9_uppermost_6
    rw [if_pos ((hi_lt (by omega) (by omega)).mpr (Nat.le_refl _))]
  | succ d ih =>
    intro k n h1 h2 h3
    obtain ⟨n, rfl⟩ : ∃ m, n = m + 1 := ⟨n - 1, by omega⟩
    have hk : k < 100 := by omega
    have e1 : k + 1 - lo = (k - lo) + 1 := by omega
    have e2 : lo + (k - lo) = k := by omega
    have key := ih (k + 1) n (by omega) (by omega) (by omega)
    rw [e1, bst, e2] at key
    unfold g_X9_uppermost_6
    rw [if_neg (fun q => by have := (hi_lt (H := H) (k := k) (by omega) (by omega)).mp q; omega), zck_nI hk (by decide), ix_nI (by omega), hf k hk]
    by_cases h4 : f k = -9
    · rw [if_pos h4] at key ⊢
      unfold g_X9_uppermost_41 g_X9_uppermost_42
      rw [nI_1]
      exact key
    · rw [if_neg h4] at key ⊢
      rcases bst_spec f lo (k - lo) with ⟨h5, -⟩ | ⟨b, h5, h6, h7, -⟩
      · rw [h5] at key ⊢
        rw [show oI none = -9 from rfl, if_pos rfl]
        unfold g_X9_uppermost_36 g_X9_uppermost_42
        rw [nI_1]
        exact key
      · rw [h5] at key ⊢
        rw [show oI (some b) = nI b from rfl, if_neg (nI_ne9 (by omega)), n_above9 hk (by omega), pcb_some]
        simp only at key
        by_cases h8 : rk b < rk k
        · rw [if_pos h8] at key
          rw [if_pos h8, if_neg one_ne0]
          unfold g_X9_uppermost_36 g_X9_uppermost_42
          rw [nI_1]
          exact key
        · rw [if_neg h8] at key
          rw [if_neg h8, if_pos rfl]
          unfold g_X9_uppermost_41 g_X9_uppermost_42
          rw [nI_1]
          exact key
theorem n_upper {f : Nat → Int32} {D : DD} {v lo H : Nat} (hf : ∀ k, k < 100 → D v k = f k) (hH : H ≤ 100) (hl : lo ≤ H) : g_X9_uppermost v (nI lo) (nI H - 1) D = some (oI (bs f lo H)) := by
  have := n_upper_loop (lo := lo) hf hH (H - lo) lo 1000 (by omega) (Nat.le_refl _) (by omega)
  rw [show lo - lo = 0 by omega] at this
  exact this
def wt (m : Nat) (D : DD) (L : Nat) (lo hi on side : Int32) : DD := u2 (u2 (u2 (u2 (u2 D (m + 16) L lo) (m + 17) L hi) (m + 18) L on) (m + 19) L side) m 21 (nI (L + 1))
theorem n_want {m L : Nat} {D : DD} (hL : L < 110) (h : D m 21 = nI L) (lo hi on side : Int32) : g_X9_want m lo hi on side D = some (wt m D L lo hi on side) := by
  unfold g_X9_want
  rw [h, zck_nI hL (by decide), ix_nI (by omega), dlt_eq]
  rw [u2_ne (a := m + 16) _ _ (show m ≠ m + 16 by omega), h, zck_nI hL (by decide), ix_nI (by omega), dlt_eq]
  rw [u2_ne (a := m + 17) _ _ (show m ≠ m + 17 by omega), u2_ne (a := m + 16) _ _ (show m ≠ m + 16 by omega), h, zck_nI hL (by decide), ix_nI (by omega), dlt_eq]
  rw [u2_ne (a := m + 18) _ _ (show m ≠ m + 18 by omega), u2_ne (a := m + 17) _ _ (show m ≠ m + 17 by omega), u2_ne (a := m + 16) _ _ (show m ≠ m + 16 by omega), h, zck_nI hL (by decide), ix_nI (by omega), dlt_eq]
  rw [u2_ne (a := m + 19) _ _ (show m ≠ m + 19 by omega), u2_ne (a := m + 18) _ _ (show m ≠ m + 18 by omega), u2_ne (a := m + 17) _ _ (show m ≠ m + 17 by omega), u2_ne (a := m + 16) _ _ (show m ≠ m + 16 by omega), h, nI_1, dlt_eq]
  rfl
theorem wt_f (m : Nat) (D : DD) (L : Nat) (lo hi on side : Int32) : wt m D L lo hi on side m = upd (D m) 21 (nI (L + 1)) := by simp [wt, u2, uA]
theorem wt_16 (m : Nat) (D : DD) (L : Nat) (lo hi on side : Int32) : wt m D L lo hi on side (m + 16) = upd (D (m + 16)) L lo := by simp [wt, u2, uA]
theorem wt_17 (m : Nat) (D : DD) (L : Nat) (lo hi on side : Int32) : wt m D L lo hi on side (m + 17) = upd (D (m + 17)) L hi := by simp [wt, u2, uA]
theorem wt_18 (m : Nat) (D : DD) (L : Nat) (lo hi on side : Int32) : wt m D L lo hi on side (m + 18) = upd (D (m + 18)) L on := by simp [wt, u2, uA]
theorem wt_19 (m : Nat) (D : DD) (L : Nat) (lo hi on side : Int32) : wt m D L lo hi on side (m + 19) = upd (D (m + 19)) L side := by simp [wt, u2, uA]
theorem wt_o {m b : Nat} (D : DD) (L : Nat) (lo hi on side : Int32) (h0 : b ≠ m) (h1 : b ≠ m + 16) (h2 : b ≠ m + 17) (h3 : b ≠ m + 18) (h4 : b ≠ m + 19) : wt m D L lo hi on side b = D b := by simp [wt, u2, uA, h0, h1, h2, h3, h4]
