/-! ===== the reference's pile of wants ===== -/
abbrev WW : Type := Nat × Nat × Option Nat × Nat
def Wn (m : Nat) (D : DD) : List WW → Prop
  | [] => True
  | w :: r => D (m + 16) r.length = nI w.1 ∧ D (m + 17) r.length = nI w.2.1 - 1 ∧ D (m + 18) r.length = oI w.2.2.1 ∧ D (m + 19) r.length = nI w.2.2.2 ∧ Wn m D r
theorem Wn_congr {m : Nat} {D D' : DD} : ∀ {ws : List WW}, (∀ j, j < ws.length → D' (m + 16) j = D (m + 16) j ∧ D' (m + 17) j = D (m + 17) j ∧ D' (m + 18) j = D (m + 18) j ∧ D' (m + 19) j = D (m + 19) j) → Wn m D ws → Wn m D' ws
  | [], _, _ => trivial
  | w :: r, h, ⟨h1, h2, h3, h4, h5⟩ => by
    obtain ⟨a, b, c, d⟩ := h r.length (Nat.lt_succ_self _)
    exact ⟨a.trans h1, b.trans h2, c.trans h3, d.trans h4, Wn_congr (fun j hj => h j (Nat.lt_succ_of_lt hj)) h5⟩
theorem Wn_wt {m : Nat} {D : DD} {ws : List WW} {w : WW} {hi : Int32} (hh : hi = nI w.2.1 - 1) (h : Wn m D ws) : Wn m (wt m D ws.length (nI w.1) hi (oI w.2.2.1) (nI w.2.2.2)) (w :: ws) := by
  refine ⟨by rw [wt_16, upd_same], by rw [wt_17, upd_same]; exact hh, by rw [wt_18, upd_same], by rw [wt_19, upd_same], Wn_congr (fun j hj => ?_) h⟩
  have : j ≠ ws.length := by omega
  exact ⟨by rw [wt_16, upd_ne _ _ this], by rw [wt_17, upd_ne _ _ this], by rw [wt_18, upd_ne _ _ this], by rw [wt_19, upd_ne _ _ this]⟩
/-- where a tree is told: at the top, left of a key, right of it -/
def lk (m lev b : Nat) (D : DD) (on : Option Nat) (sd : Nat) (v : Int32) : DD := match on with
  | none => u2 D (m + 14) lev v
  | some o => if sd = 0 then u2 D (m + 7) (b + o) v else u2 D (m + 8) (b + o) v
theorem lk_o {m lev b c : Nat} (D : DD) (on : Option Nat) (sd : Nat) (v : Int32) (h1 : c ≠ m + 14) (h2 : c ≠ m + 7) (h3 : c ≠ m + 8) : lk m lev b D on sd v c = D c := by
  cases on with
  | none => exact u2_ne _ _ h1
  | some o =>
    show (if sd = 0 then _ else _ : DD) c = _
    split
    · exact u2_ne _ _ h2
    · exact u2_ne _ _ h3
/-- a node is noted -/
def rc (m b cnt : Nat) (D : DD) (k lo : Nat) (hi : Int32) (dep : Int32) (on : Option Nat) : DD := u2 (u2 (u2 (u2 (u2 D (m + 15) cnt (nI k)) (m + 6) (b + k) (oI on)) (m + 9) (b + k) dep) (m + 10) (b + k) (nI lo)) (m + 11) (b + k) hi
theorem rc_o {m b cnt c : Nat} (D : DD) (k lo : Nat) (hi dep : Int32) (on : Option Nat) (h1 : c ≠ m + 15) (h2 : c ≠ m + 6) (h3 : c ≠ m + 9) (h4 : c ≠ m + 10) (h5 : c ≠ m + 11) : rc m b cnt D k lo hi dep on c = D c := by
  unfold rc
  rw [u2_ne _ _ h5, u2_ne _ _ h4, u2_ne _ _ h3, u2_ne _ _ h2, u2_ne _ _ h1]
theorem rc_15 {m b cnt : Nat} (D : DD) (k lo : Nat) (hi dep : Int32) (on : Option Nat) : rc m b cnt D k lo hi dep on (m + 15) = upd (D (m + 15)) cnt (nI k) := by simp [rc, u2, uA]
theorem rc_6 {m b cnt : Nat} (D : DD) (k lo : Nat) (hi dep : Int32) (on : Option Nat) : rc m b cnt D k lo hi dep on (m + 6) = upd (D (m + 6)) (b + k) (oI on) := by simp [rc, u2, uA]
theorem rc_9 {m b cnt : Nat} (D : DD) (k lo : Nat) (hi dep : Int32) (on : Option Nat) : rc m b cnt D k lo hi dep on (m + 9) = upd (D (m + 9)) (b + k) dep := by simp [rc, u2, uA]
theorem rc_10 {m b cnt : Nat} (D : DD) (k lo : Nat) (hi dep : Int32) (on : Option Nat) : rc m b cnt D k lo hi dep on (m + 10) = upd (D (m + 10)) (b + k) (nI lo) := by simp [rc, u2, uA]
theorem rc_11 {m b cnt : Nat} (D : DD) (k lo : Nat) (hi dep : Int32) (on : Option Nat) : rc m b cnt D k lo hi dep on (m + 11) = upd (D (m + 11)) (b + k) hi := by simp [rc, u2, uA]
def dpo (D : DD) (m b : Nat) : Option Nat → Int32
  | none => 0
  | some o => D (m + 9) (b + o) + 1
theorem n_link {m lev b sd : Nat} {on : Option Nat} {E : DD} (hlev : lev < 2) (hb : b ≤ 100) (hsd : sd < 2) (hon : ∀ o, on = some o → o < 100) (x : Int32) (F : DD → Option DD) : (if oI on = -9 then zck (inb (nI lev) 2) (dlt (u2 E (m + 14) (ix (nI lev)) x) F) else if nI sd = 0 then zck (inb (nI b + oI on) 200) (dlt (u2 E (m + 7) (ix (nI b + oI on)) x) F) else zck (inb (nI b + oI on) 200) (dlt (u2 E (m + 8) (ix (nI b + oI on)) x) F)) = F (lk m lev b E on sd x) := by
  cases on with
  | none => rw [if_pos (show oI none = -9 from rfl), zck_nI hlev (by decide), ix_nI (by omega), dlt_eq]; rfl
  | some o =>
    have ho := hon o rfl
    rw [show oI (some o) = nI o from rfl, if_neg (nI_ne9 (by omega)), nI_add]
    simp only [zck_nI (show b + o < 200 by omega) (by decide), dlt_eq, ix_nI (show b + o < 2 ^ 31 by omega)]
    by_cases hs : sd = 0
    · subst hs
      rw [if_pos (show nI 0 = 0 from nI_0)]
      simp [lk]
    · rw [if_neg (nI_ne0 (by omega) (by omega))]
      simp [lk, hs]
set_option maxHeartbeats 2000000 in
/-- one turn -/
theorem n_make_step {f : Nat → Int32} {m v b lev : Nat} (hv : v = m + 1 ∨ v = m + 2) (hlev : lev < 2) (hb : b = 100 * lev) {n cnt : Nat} {D : DD} {lo hi sd : Nat} {on : Option Nat} {r : List WW} (hf : ∀ k, k < 100 → D v k = f k) (hw : Wn m D ((lo, hi, on, sd) :: r)) (h21 : D m 21 = nI (r.length + 1)) (hr : r.length < 105) (hlh : lo ≤ hi) (hh : hi ≤ 100) (hsd : sd < 2) (hon : ∀ o, on = some o → o < 100) :
    g_X9_make_31 (n + 1) m v (nI lev) (nI b) (nI cnt) D = g_X9_make_150 (g_X9_make_31 n) m v (nI lev) (nI b) (nI cnt) (nI lo) (nI hi - 1) (oI on) (oI (bs f lo hi)) (lk m lev b (u2 D m 21 (nI r.length)) on sd (oI (bs f lo hi))) := by
  obtain ⟨w1, w2, w3, w4, w5⟩ := id hw
  simp only at w1 w2 w3 w4
  have hb2 : b ≤ 100 := by omega
  rw [g_X9_make_31, h21, if_neg (nI_nle (by omega) (by omega)), show nI (r.length + 1) - (1 : Int32) = nI r.length from nI_pred _, dlt_eq]
  generalize hE : u2 D m 21 (nI r.length) = E
  have e21 : E m 21 = nI r.length := by rw [← hE, u2_same, upd_same]
  have eo : ∀ c, c ≠ m → E c = D c := fun c hc => by rw [← hE, u2_ne _ _ hc]
  have hfE : ∀ k, k < 100 → E v k = f k := fun k hk => by rw [eo v (by omega)]; exact hf k hk
  rw [e21, ix_nI (by omega)]
  simp only [zck_nI (show r.length < 110 by omega) (by decide)]
  rw [eo (m + 16) (by omega), eo (m + 17) (by omega), eo (m + 18) (by omega), eo (m + 19) (by omega), w1, w2, w3, w4, n_upper hfE hh hlh, pcb_some]
  exact n_link hlev hb2 hsd hon _ (fun D1 => g_X9_make_150 (g_X9_make_31 n) m v (nI lev) (nI b) (nI cnt) (nI lo) (nI hi - 1) (oI on) (oI (bs f lo hi)) D1)
theorem n_make_none {m v b lev cnt lo : Nat} {hi : Int32} {on : Option Nat} {D : DD} (kk : Nat → Nat → Int32 → Int32 → Int32 → DD → Option DD) : g_X9_make_150 kk m v (nI lev) (nI b) (nI cnt) (nI lo) hi (oI on) (-9) D = kk m v (nI lev) (nI b) (nI cnt) D := by
  unfold g_X9_make_150
  rw [if_pos rfl]
  rfl
theorem n_make_some {m v b lev cnt lo k L : Nat} {hi : Int32} {on : Option Nat} {D : DD} (kk : Nat → Nat → Int32 → Int32 → Int32 → DD → Option DD) (hk : k < 100) (hb : b ≤ 100) (hcnt : cnt < 100) (hon : ∀ o, on = some o → o < 100) (hL : L < 105) (h21 : D m 21 = nI L) :
    g_X9_make_150 kk m v (nI lev) (nI b) (nI cnt) (nI lo) hi (oI on) (nI k) D = kk m v (nI lev) (nI b) (nI (cnt + 1)) (wt m (wt m (rc m b cnt D k lo hi (dpo D m b on) on) L (nI (k + 1)) hi (nI k) 1) (L + 1) (nI lo) (nI k - 1) (nI k) 0) := by
  have fin : ∀ (E : DD) (dep : Int32), E m 21 = nI L → g_X9_make_210 kk m v (nI lev) (nI b) (nI cnt + 1) (nI lo) hi (nI k) (m + 9) (nI b + nI k) dep E = kk m v (nI lev) (nI b) (nI (cnt + 1)) (wt m (wt m (u2 (u2 (u2 E (m + 9) (b + k) dep) (m + 10) (b + k) (nI lo)) (m + 11) (b + k) hi) L (nI (k + 1)) hi (nI k) 1) (L + 1) (nI lo) (nI k - 1) (nI k) 0) := by
    intro E dep hE
    unfold g_X9_make_210
    rw [nI_add]
    simp only [zck_nI (show b + k < 200 by omega) (by decide), dlt_eq, ix_nI (show b + k < 2 ^ 31 by omega), nI_1]
    rw [n_want (L := L) (by omega) (by rw [u2_ne _ _ (by omega), u2_ne _ _ (by omega), u2_ne _ _ (by omega)]; exact hE), vcb_some, n_want (L := L + 1) (by omega) (by rw [wt_f, upd_same]), vcb_some]
    rfl
  unfold g_X9_make_150
  rw [if_neg (nI_ne9 (by omega)), zck_nI hcnt (by decide), ix_nI (by omega), dlt_eq, nI_add, zck_nI (by omega) (by decide), ix_nI (by omega), dlt_eq]
  rw [← nI_add]
  generalize hE : u2 (u2 D (m + 15) cnt (nI k)) (m + 6) (b + k) (oI on) = E
  have hE21 : E m 21 = nI L := by rw [← hE, u2_ne _ _ (by omega), u2_ne _ _ (by omega)]; exact h21
  cases on with
  | none =>
    rw [if_pos (show oI none = -9 from rfl), fin E 0 hE21, ← hE]
    rfl
  | some o =>
    have ho := hon o rfl
    have e9 : E (m + 9) = D (m + 9) := by rw [← hE, u2_ne _ _ (by omega), u2_ne _ _ (by omega)]
    rw [show oI (some o) = nI o from rfl, if_neg (nI_ne9 (by omega)), nI_add b o, zck_nI (by omega) (by decide), ix_nI (by omega), fin E _ hE21, e9, ← hE]
    rfl
