/-! ===== make, second loop: how many, and digests ===== -/
def zg : Nat → Int32 := fun _ => 0
def Mny (f : Nat → Int32) (m b : Nat) (D : DD) (k : Nat) : Prop := D (m + 12) (b + k) = nI (cn f (pl f k).1 (pl f k).2.1) ∧ D (m + 13) (b + k) = dg f zg (pl f k).1 (pl f k).2.1
/-- what an interval's own root has, or nothing -/
def kidM (m b : Nat) (D : DD) : Option Nat → Int32
  | none => 0
  | some c => D (m + 12) (b + c)
def kidD (m b : Nat) (D : DD) : Option Nat → Int32
  | none => 0
  | some c => D (m + 13) (b + c)
set_option maxHeartbeats 2000000 in
theorem n_make2_step {m v b n L k : Nat} {D : DD} {lf rt : Option Nat} (hv : v = m + 1 ∨ v = m + 2) (hb : b ≤ 100) (hL : L < 100) (hk : k < 100) (ho : D (m + 15) L = nI k) (hl : D (m + 7) (b + k) = oI lf) (hr : D (m + 8) (b + k) = oI rt) (hlf : ∀ c, lf = some c → c < 100) (hrt : ∀ c, rt = some c → c < 100) :
    g_X9_make_268 (n + 1) m v (nI b) (nI L) D = g_X9_make_268 n m v (nI b) (nI L - 1) (u2 (u2 D (m + 12) (b + k) (1 + kidM m b D lf + kidM m b D rt)) (m + 13) (b + k) (dN (nI k) (D v k) (kidD m b D lf) (kidD m b D rt))) := by
  have hbk : b + k < 200 := by omega
  have e410 : ∀ (E : DD) (x y : Int32), g_X9_make_410 (g_X9_make_268 n) m v (nI b) (nI L) (m + 13) (nI b + nI k) (nI k) (E v k) x y E = g_X9_make_268 n m v (nI b) (nI L - 1) (u2 E (m + 13) (b + k) (dN (nI k) (E v k) x y)) := by
    intro E x y
    unfold g_X9_make_410
    rw [n_digest9, pcb_some, nI_add, zck_nI hbk (by decide), ix_nI (by omega), dlt_eq, show nI L + (-1 : Int32) = nI L - 1 from (Int32.sub_eq_add_neg _ _).symm]
  have e390 : ∀ (E : DD) (x : Int32), g_X9_make_390 (g_X9_make_268 n) m v (nI b) (nI L) (oI rt) (m + 13) (nI b + nI k) (nI k) (E v k) x E = g_X9_make_268 n m v (nI b) (nI L - 1) (u2 E (m + 13) (b + k) (dN (nI k) (E v k) x (kidD m b E rt))) := by
    intro E x
    unfold g_X9_make_390
    cases rt with
    | none => rw [if_pos (show oI none = -9 from rfl), e410]; rfl
    | some c =>
      have := hrt c rfl
      rw [show oI (some c) = nI c from rfl, if_neg (nI_ne9 (by omega)), nI_add b c, zck_nI (by omega) (by decide), ix_nI (by omega), e410]; rfl
  have e354 : ∀ (x y : Int32), g_X9_make_354 (g_X9_make_268 n) m v (nI b) (nI L) (nI k) (oI lf) (oI rt) (m + 12) (nI b + nI k) x y D = g_X9_make_268 n m v (nI b) (nI L - 1) (u2 (u2 D (m + 12) (b + k) (x + y)) (m + 13) (b + k) (dN (nI k) (D v k) (kidD m b D lf) (kidD m b D rt))) := by
    intro x y
    unfold g_X9_make_354
    rw [nI_add, zck_nI hbk (by decide), ix_nI (by omega), dlt_eq, zck_nI hk (by decide), ix_nI (by omega), ← nI_add]
    generalize hE : u2 D (m + 12) (b + k) (x + y) = E
    have eo : ∀ c, c ≠ m + 12 → E c = D c := fun c hc => by rw [← hE, u2_ne _ _ hc]
    have ev : E v k = D v k := by rw [eo v (by omega)]
    have ed : ∀ o, kidD m b E o = kidD m b D o := fun o => by
      cases o with
      | none => rfl
      | some c => show E (m + 13) _ = D (m + 13) _; rw [eo (m + 13) (by omega)]
    cases lf with
    | none => rw [if_pos (show oI none = -9 from rfl), e390, ev, ed]; rfl
    | some c =>
      have := hlf c rfl
      rw [show oI (some c) = nI c from rfl, if_neg (nI_ne9 (by omega)), nI_add b c, zck_nI (by omega) (by decide), ix_nI (by omega), e390, ev, ed, eo (m + 13) (by omega)]; rfl
  have e333 : ∀ (x y : Int32), g_X9_make_333 (g_X9_make_268 n) m v (nI b) (nI L) (nI k) (oI lf) (oI rt) (m + 12) (nI b + nI k) x y D = g_X9_make_268 n m v (nI b) (nI L - 1) (u2 (u2 D (m + 12) (b + k) (x + y + kidM m b D rt)) (m + 13) (b + k) (dN (nI k) (D v k) (kidD m b D lf) (kidD m b D rt))) := by
    intro x y
    unfold g_X9_make_333
    cases hrc : rt with
    | none => rw [if_pos (show oI none = -9 from rfl), ← hrc, e354, hrc]; rfl
    | some c =>
      have := hrt c hrc
      rw [show oI (some c) = nI c from rfl, if_neg (nI_ne9 (by omega)), nI_add b c, zck_nI (by omega) (by decide), ix_nI (by omega), show nI c = oI (some c) from rfl, ← hrc, e354, hrc]; rfl
  rw [g_X9_make_268, if_neg (nI_pos (by omega)), zck_nI hL (by decide), ix_nI (by omega), ho, nI_add, zck_nI hbk (by decide), zck_nI hbk (by decide), ix_nI (by omega), hl, hr, ← nI_add]
  cases hlc : lf with
  | none => rw [if_pos (show oI none = -9 from rfl), ← hlc, e333, hlc]; rfl
  | some c =>
    have := hlf c hlc
    rw [show oI (some c) = nI c from rfl, if_neg (nI_ne9 (by omega)), nI_add b c, zck_nI (by omega) (by decide), ix_nI (by omega), show nI c = oI (some c) from rfl, ← hlc, e333, hlc]; rfl
theorem n_make2 {f : Nat → Int32} {m v b lev : Nat} (hv : v = m + 1 ∨ v = m + 2) (hb : b ≤ 100) : ∀ (todo done : List Nat) (D : DD) (n : Nat), todo.length < n → (∀ k, k < 100 → D v k = f k) → MkI f m b lev D [] (done ++ todo) → (∀ k ∈ done, Mny f m b D k) →
    ∃ D' : DD, g_X9_make_268 n m v (nI b) (nI todo.length - 1) D = some D' ∧ MkI f m b lev D' [] (done ++ todo) ∧ (∀ k ∈ done ++ todo, Mny f m b D' k) ∧ FrM m D D' ∧ FrB m b D D' := by
  intro todo
  induction todo with
  | nil =>
    intro done D n hn hf hM hd
    obtain ⟨n, rfl⟩ : ∃ q, n = q + 1 := ⟨n - 1, by omega⟩
    refine ⟨D, ?_, hM, by simpa using hd, FrM.rf, FrB.rf⟩
    rw [g_X9_make_268, if_pos (show nI ([] : List Nat).length - 1 < 0 by decide)]
  | cons k r ih =>
    intro done D n hn hf hM hd
    obtain ⟨n, rfl⟩ : ∃ q, n = q + 1 := ⟨n - 1, by omega⟩
    obtain ⟨i1, i2, i3, i4, i5, i6, i7, i8, i9, i10⟩ := id hM
    have hcn : cn f 0 100 ≤ 100 := cn_le f 0 100
    have hlen : (done ++ k :: r).length ≤ 100 := by simp only [sumc] at i2; omega
    rw [List.length_append, List.length_cons] at hlen
    have hkm : k ∈ done ++ k :: r := by simp
    obtain ⟨hk, hfk, -⟩ := i4 k hkm
    obtain ⟨p1, p2, p3, p4, -⟩ := pl_spec hfk hk
    obtain ⟨q1, q2, -, -⟩ := bs_some p2
    have hp100 := p1.2.1
    obtain ⟨l1, l2⟩ := i6 done k r rfl
    have hl : Lft f m b D k ∧ ∀ c, bs f (pl f k).1 k = some c → c ∈ done := l1.elim (fun h => by cases h) id
    have hr : Rgt f m b D k ∧ ∀ c, bs f (k + 1) (pl f k).2.1 = some c → c ∈ done := l2.elim (fun h => by cases h) id
    have hop : D (m + 15) r.length = nI k := by
      have : ∀ (xs : List Nat), Opn (D (m + 15)) (xs ++ k :: r) → D (m + 15) r.length = nI k := by
        intro xs
        induction xs with
        | nil => intro h; exact h.1
        | cons x xs ih2 => intro h; exact ih2 h.2
      exact this done i8
    rw [show nI (k :: r).length - 1 = nI r.length from nI_pred _, n_make2_step hv hb (by omega) hk hop hl.1 hr.1 (fun c hc => by obtain ⟨a, b, -, -⟩ := bs_some hc; omega) (fun c hc => by obtain ⟨a, b, -, -⟩ := bs_some hc; omega)]
    have hkm1 : kidM m b D (bs f (pl f k).1 k) = nI (cn f (pl f k).1 k) := by
      cases e : bs f (pl f k).1 k with
      | none =>
        have : cn f (pl f k).1 k = 0 := by
          have : ∀ d, d ≤ k - (pl f k).1 → cnF f (pl f k).1 d = 0 := by
            intro d
            induction d with
            | zero => intro _; rfl
            | succ d ih2 => intro hd; rw [cnF, ih2 (by omega), if_pos (bs_none e _ (by omega) (by omega))]
          exact this _ (Nat.le_refl _)
        rw [this]; exact nI_0.symm
      | some c => show D (m + 12) (b + c) = _; rw [(hd c (hl.2 c e)).1, pl_left hfk hk e]
    have hkm2 : kidM m b D (bs f (k + 1) (pl f k).2.1) = nI (cn f (k + 1) (pl f k).2.1) := by
      cases e : bs f (k + 1) (pl f k).2.1 with
      | none =>
        have : cn f (k + 1) (pl f k).2.1 = 0 := by
          have : ∀ d, d ≤ (pl f k).2.1 - (k + 1) → cnF f (k + 1) d = 0 := by
            intro d
            induction d with
            | zero => intro _; rfl
            | succ d ih2 => intro hd; rw [cnF, ih2 (by omega), if_pos (bs_none e _ (by omega) (by omega))]
          exact this _ (Nat.le_refl _)
        rw [this]; exact nI_0.symm
      | some c => show D (m + 12) (b + c) = _; rw [(hd c (hr.2 c e)).1, pl_right hfk hk e]
    have hkd1 : kidD m b D (bs f (pl f k).1 k) = dg f zg (pl f k).1 k := by
      cases e : bs f (pl f k).1 k with
      | none => rw [dg_none e]; rfl
      | some c => show D (m + 13) (b + c) = _; rw [(hd c (hl.2 c e)).2, pl_left hfk hk e]
    have hkd2 : kidD m b D (bs f (k + 1) (pl f k).2.1) = dg f zg (k + 1) (pl f k).2.1 := by
      cases e : bs f (k + 1) (pl f k).2.1 with
      | none => rw [dg_none e]; rfl
      | some c => show D (m + 13) (b + c) = _; rw [(hd c (hr.2 c e)).2, pl_right hfk hk e]
    rw [hkm1, hkm2, hkd1, hkd2, hf k hk, ← dg_some p2]
    have hsum : (1 : Int32) + nI (cn f (pl f k).1 k) + nI (cn f (k + 1) (pl f k).2.1) = nI (cn f (pl f k).1 (pl f k).2.1) := by
      rw [cn_some p2, show (1 : Int32) = nI 1 from rfl, nI_add, nI_add]
    rw [hsum]
    generalize hE : u2 (u2 D (m + 12) (b + k) (nI (cn f (pl f k).1 (pl f k).2.1))) (m + 13) (b + k) (dg f zg (pl f k).1 (pl f k).2.1) = E
    have eo : ∀ c, c ≠ m + 12 → c ≠ m + 13 → E c = D c := fun c h1 h2 => by rw [← hE, u2_ne _ _ h2, u2_ne _ _ h1]
    have e12 : E (m + 12) = upd (D (m + 12)) (b + k) (nI (cn f (pl f k).1 (pl f k).2.1)) := by rw [← hE, u2_ne _ _ (by omega), u2_same]
    have e13 : E (m + 13) = upd (D (m + 13)) (b + k) (dg f zg (pl f k).1 (pl f k).2.1) := by rw [← hE, u2_same, u2_ne _ _ (by omega)]
    have hFE : FrM m D E := ⟨fun c h1 h2 => eo c (by omega) (by omega), fun j hj => by rw [eo m (by omega) (by omega)]⟩
    have hBE : FrB m b D E := by
      intro c c1 c2 j hj
      by_cases c12 : c = m + 12
      · subst c12; rw [e12, upd_ne _ _ (by omega)]
      · by_cases c13 : c = m + 13
        · subst c13; rw [e13, upd_ne _ _ (by omega)]
        · rw [eo c c12 c13]
    have hME : MkI f m b lev E [] ((done ++ [k]) ++ r) := by
      rw [List.append_assoc, List.singleton_append]
      refine ⟨i1, i2, i3, fun x hx => ?_, ?_, fun pre x post e => ?_, i7, by rw [eo (m + 15) (by omega) (by omega)]; exact i8, trivial, by rw [eo m (by omega) (by omega)]; exact i10⟩
      · obtain ⟨a1, a2, a3⟩ := i4 x hx
        refine ⟨a1, a2, ?_⟩
        unfold Rec
        rw [eo (m + 10) (by omega) (by omega), eo (m + 11) (by omega) (by omega), eo (m + 9) (by omega) (by omega), eo (m + 6) (by omega) (by omega)]
        exact a3
      · rw [eo (m + 14) (by omega) (by omega)]; exact i5
      · unfold Lft Rgt
        rw [eo (m + 7) (by omega) (by omega), eo (m + 8) (by omega) (by omega)]
        exact i6 pre x post e
    obtain ⟨D', j1, j2, j3, j4⟩ := ih (done ++ [k]) E n (by simp only [List.length_cons] at hn; omega) (fun x hx => by rw [eo v (by omega) (by omega)]; exact hf x hx) hME (fun x hx => by
      unfold Mny
      by_cases e : x = k
      · subst e
        rw [e12, e13, upd_same, upd_same]
        exact ⟨rfl, rfl⟩
      · rw [e12, e13, upd_ne _ _ (by omega), upd_ne _ _ (by omega)]
        rcases List.mem_append.mp hx with q | q
        · exact hd x q
        · exact absurd (List.mem_singleton.mp q) e)
    rw [List.append_assoc, List.singleton_append] at j2 j3
    exact ⟨D', j1, j2, j3, hFE.tr j4.1, hBE.tr j4.2⟩
/-- make: all that stands in the reference's arrays of a level -/
def MkOk (f : Nat → Int32) (m b lev : Nat) (D : DD) : Prop := D (m + 14) lev = oI (bs f 0 100) ∧ ∀ k, k < 100 → f k ≠ -9 → Rec f m b D k ∧ Lft f m b D k ∧ Rgt f m b D k ∧ Mny f m b D k
theorem n_makeB {f : Nat → Int32} {m v lev : Nat} {D : DD} (hv : v = m + 1 ∨ v = m + 2) (hlev : lev < 2) (hf : ∀ k, k < 100 → D v k = f k) : ∃ D' : DD, g_X9_make m v (nI lev) D = some D' ∧ MkOk f m (100 * lev) lev D' ∧ FrM m D D' ∧ FrB m (100 * lev) D D' := by
  unfold g_X9_make
  rw [dlt_eq, zck_nI hlev (by decide), ix_nI (by omega), dlt_eq]
  generalize hE : u2 (u2 D m 21 0) (m + 14) lev (-9) = E
  have e21 : E m 21 = nI 0 := by rw [← hE, u2_ne _ _ (by omega), u2_same, upd_same]; exact nI_0.symm
  rw [n_want (L := 0) (by decide) e21, vcb_some, show (100 : Int32) * nI lev = nI (100 * lev) from by rw [show (100 : Int32) = nI 100 from rfl]; exact (Int32.ofNat_mul 100 lev).symm]
  generalize hG : wt m E 0 0 99 (-9) 0 = G
  have go : ∀ c, c ≠ m → c ≠ m + 16 → c ≠ m + 17 → c ≠ m + 18 → c ≠ m + 19 → G c = E c := fun c h0 h1 h2 h3 h4 => by rw [← hG]; exact wt_o _ _ _ _ _ _ h0 h1 h2 h3 h4
  have hFG : FrM m D G := by
    refine ⟨fun c h1 h2 => ?_, fun j hj => ?_⟩
    · rw [go c h1 (by omega) (by omega) (by omega) (by omega), ← hE, u2_ne _ _ (by omega), u2_ne _ _ h1]
    · rw [← hG, wt_f, upd_ne _ _ hj, ← hE, u2_ne _ _ (by omega), u2_same, upd_ne _ _ hj]
  have hBG : FrB m (100 * lev) D G := by
    intro c c1 c2 j hj
    rw [go c (by omega) (by omega) (by omega) (by omega) (by omega), ← hE, u2_ne _ _ (by omega), u2_ne _ _ (by omega)]
  have hW : Wn m G [w0] := by
    rw [← hG]
    exact ⟨by rw [wt_16, show ([] : List WW).length = 0 from rfl, upd_same]; exact nI_0.symm, by rw [wt_17, show ([] : List WW).length = 0 from rfl, upd_same]; decide, by rw [wt_18, show ([] : List WW).length = 0 from rfl, upd_same]; rfl, by rw [wt_19, show ([] : List WW).length = 0 from rfl, upd_same]; exact nI_0.symm, trivial⟩
  have hM : MkI f m (100 * lev) lev G [w0] [] := ⟨Nat.le_refl _, by simp [sumc, w0], fun w hw => Or.inl (List.mem_singleton.mp hw), (fun k hk => by cases hk), Or.inl List.mem_cons_self, (fun pre k post e => by simp at e), fun x hx _ => Or.inr ⟨w0, List.mem_cons_self, Nat.zero_le _, hx⟩, trivial, hW, by rw [← hG, wt_f, upd_same]; rfl⟩
  obtain ⟨D1, os, j1, j2, j3⟩ := n_make1 hv hlev rfl 1000 [w0] [] G (by have := cn_le f 0 100; simp only [sumc, w0, List.length_cons, List.length_nil]; omega) (fun k hk => by rw [hFG.1 v (by omega) (by omega)]; exact hf k hk) hM
  have hlen : os.length ≤ 100 := by
    have := j2.2.1
    have := cn_le f 0 100
    simp only [sumc] at *
    omega
  obtain ⟨D2, l1, l2, l3, l4⟩ := n_make2 (lev := lev) hv (by omega) os [] D1 1000 (by omega) (fun k hk => by rw [j3.1.1 v (by omega) (by omega), hFG.1 v (by omega) (by omega)]; exact hf k hk) j2 (fun k hk => by cases hk)
  refine ⟨D2, by rw [← l1]; exact j1, ⟨?_, fun k hk hfk => ?_⟩, (hFG.tr j3.1).tr l4.1, (hBG.tr j3.2).tr l4.2⟩
  · rcases l2.2.2.2.2.1 with q | q
    · cases q
    · exact q
  · have hmem : k ∈ os := by
      rcases l2.2.2.2.2.2.2.1 k hk hfk with q | ⟨w, hw, -⟩
      · exact q
      · cases hw
    obtain ⟨pre, post, e⟩ := List.append_of_mem hmem
    obtain ⟨a1, a2⟩ := l2.2.2.2.2.2.1 pre k post (by simpa using e)
    exact ⟨(l2.2.2.2.1 k hmem).2.2, (a1.elim (fun h => by cases h) id).1, (a2.elim (fun h => by cases h) id).1, l3 k hmem⟩
theorem n_make {f : Nat → Int32} {m v lev : Nat} {D : DD} (hv : v = m + 1 ∨ v = m + 2) (hlev : lev < 2) (hf : ∀ k, k < 100 → D v k = f k) : ∃ D' : DD, g_X9_make m v (nI lev) D = some D' ∧ MkOk f m (100 * lev) lev D' ∧ FrM m D D' := by
  obtain ⟨D', a, b, c, -⟩ := n_makeB hv hlev hf
  exact ⟨D', a, b, c⟩
