/-! ===== the constructors ===== -/
def Nx (σ σ' : Mm) : Prop := mN σ ≤ mN σ' ∧ ∀ b, b < mN σ → mK σ' b = mK σ b ∧ mR σ' b = mR σ b ∧ mD σ' b = mD σ b
def Pt (v : Nat) (σ σ' : Mm) : Prop := mN σ ≤ mN σ' ∧ ∀ b, b < mN σ → mK σ' b = mK σ b ∧ (b ≠ v → mR σ' b = mR σ b ∧ mD σ' b = mD σ b)
theorem exv_X2 {v : Nat} {σ σ' : Mm} {a : Nat} (hE : Pt v σ σ') (hv : v < a) (h : isX2 (mN σ) (mK σ) (mR σ) a) : isX2 (mN σ') (mK σ') (mR σ') a := by
  obtain ⟨p0, p1, p2, p3, p4⟩ := h
  exact ⟨Nat.lt_of_lt_of_le p0 hE.1, (hE.2 _ p0).1.trans p1, (congrFun ((hE.2 _ p0).2 (by omega)).1 _).trans p2, Nat.lt_of_lt_of_le p3 hE.1, (hE.2 _ p3).1.trans p4⟩
theorem exv_X1 {v : Nat} {σ σ' : Mm} {a : Nat} (hE : Pt v σ σ') (hv : v < a) (h : isX1 (mN σ) (mK σ) (mR σ) a) : isX1 (mN σ') (mK σ') (mR σ') a := by
  obtain ⟨p0, p1, p2, p3, p4⟩ := h
  exact ⟨Nat.lt_of_lt_of_le p0 hE.1, (hE.2 _ p0).1.trans p1, (congrFun ((hE.2 _ p0).2 (by omega)).1 _).trans p2, Nat.lt_of_lt_of_le p3 hE.1, (hE.2 _ p3).1.trans p4⟩
theorem exv_X3 {v : Nat} {σ σ' : Mm} {a : Nat} (hE : Pt v σ σ') (hv : v < a) (h : isX3 (mN σ) (mK σ) (mR σ) a) : isX3 (mN σ') (mK σ') (mR σ') a := by
  obtain ⟨p0, p1, p2, p3, p4, p5, p6, p7⟩ := h
  exact ⟨Nat.lt_of_lt_of_le p0 hE.1, (hE.2 _ p0).1.trans p1, (congrFun ((hE.2 _ p0).2 (by omega)).1 _).trans p2, (congrFun ((hE.2 _ p0).2 (by omega)).1 _).trans p3, Nat.lt_of_lt_of_le p4 hE.1, (hE.2 _ p4).1.trans p5, Nat.lt_of_lt_of_le p6 hE.1, (hE.2 _ p6).1.trans p7⟩
theorem exv_X7 {v : Nat} {σ σ' : Mm} {a : Nat} (hE : Pt v σ σ') (hv : v < a) (h : isX7 (mN σ) (mK σ) (mR σ) a) : isX7 (mN σ') (mK σ') (mR σ') a := by
  obtain ⟨p0, p1, p2, p3, p4, p5, p6, p7, p8, p9, p10, p11, p12, p13, p14, p15, p16, p17, p18⟩ := h
  exact ⟨Nat.lt_of_lt_of_le p0 hE.1, (hE.2 _ p0).1.trans p1, (congrFun ((hE.2 _ p0).2 (by omega)).1 _).trans p2, (congrFun ((hE.2 _ p0).2 (by omega)).1 _).trans p3, (congrFun ((hE.2 _ p0).2 (by omega)).1 _).trans p4, (congrFun ((hE.2 _ p0).2 (by omega)).1 _).trans p5, (congrFun ((hE.2 _ p0).2 (by omega)).1 _).trans p6, (congrFun ((hE.2 _ p0).2 (by omega)).1 _).trans p7, Nat.lt_of_lt_of_le p8 hE.1, (hE.2 _ p8).1.trans p9, Nat.lt_of_lt_of_le p10 hE.1, (hE.2 _ p10).1.trans p11, Nat.lt_of_lt_of_le p12 hE.1, (hE.2 _ p12).1.trans p13, Nat.lt_of_lt_of_le p14 hE.1, (hE.2 _ p14).1.trans p15, Nat.lt_of_lt_of_le p16 hE.1, (hE.2 _ p16).1.trans p17, exv_X3 hE (by omega) p18⟩
theorem exv_X6 {v : Nat} {σ σ' : Mm} {a : Nat} (hE : Pt v σ σ') (hv : v < a) (h : isX6 (mN σ) (mK σ) (mR σ) a) : isX6 (mN σ') (mK σ') (mR σ') a := by
  obtain ⟨p0, p1, p2, p3⟩ := h
  exact ⟨Nat.lt_of_lt_of_le p0 hE.1, (hE.2 _ p0).1.trans p1, (congrFun ((hE.2 _ p0).2 (by omega)).1 _).trans p2, exv_X2 hE (by omega) p3⟩
theorem exv_X0 {v : Nat} {σ σ' : Mm} {a : Nat} (hE : Pt v σ σ') (hv : v < a) (h : isX0 (mN σ) (mK σ) (mR σ) a) : isX0 (mN σ') (mK σ') (mR σ') a := by
  obtain ⟨p0, p1, p2, p3, p4, q⟩ := h
  exact ⟨Nat.lt_of_lt_of_le p0 hE.1, (hE.2 _ p0).1.trans p1, (congrFun ((hE.2 _ p0).2 (by omega)).1 _).trans p2, Nat.lt_of_lt_of_le p3 hE.1, (hE.2 _ p3).1.trans p4, fun j hj => ⟨(congrFun ((hE.2 _ p3).2 (by omega)).1 _).trans (q j hj).1, exv_X2 hE (by omega) (q j hj).2⟩⟩
theorem exv_X5 {v : Nat} {σ σ' : Mm} {a : Nat} (hE : Pt v σ σ') (hv : v < a) (h : isX5 (mN σ) (mK σ) (mR σ) a) : isX5 (mN σ') (mK σ') (mR σ') a := by
  obtain ⟨p0, p1, p2, p3, p4, p5, p6, p7, p8, p9, p10, p11, p12⟩ := h
  exact ⟨Nat.lt_of_lt_of_le p0 hE.1, (hE.2 _ p0).1.trans p1, (congrFun ((hE.2 _ p0).2 (by omega)).1 _).trans p2, (congrFun ((hE.2 _ p0).2 (by omega)).1 _).trans p3, (congrFun ((hE.2 _ p0).2 (by omega)).1 _).trans p4, (congrFun ((hE.2 _ p0).2 (by omega)).1 _).trans p5, (congrFun ((hE.2 _ p0).2 (by omega)).1 _).trans p6, Nat.lt_of_lt_of_le p7 hE.1, (hE.2 _ p7).1.trans p8, exv_X1 hE (by omega) p9, exv_X2 hE (by omega) p10, exv_X7 hE (by omega) p11, exv_X3 hE (by omega) p12⟩
theorem exv_X8 {v : Nat} {σ σ' : Mm} {a : Nat} (hE : Pt v σ σ') (hv : v < a) (h : isX8 (mN σ) (mK σ) (mR σ) a) : isX8 (mN σ') (mK σ') (mR σ') a := by
  obtain ⟨p0, p1, p2, p3, p4, p5, p6, p7, p8, p9, p10, p11, p12, p13, p14, p15, p16, p17, p18, q⟩ := h
  exact ⟨Nat.lt_of_lt_of_le p0 hE.1, (hE.2 _ p0).1.trans p1, (congrFun ((hE.2 _ p0).2 (by omega)).1 _).trans p2, (congrFun ((hE.2 _ p0).2 (by omega)).1 _).trans p3, (congrFun ((hE.2 _ p0).2 (by omega)).1 _).trans p4, (congrFun ((hE.2 _ p0).2 (by omega)).1 _).trans p5, (congrFun ((hE.2 _ p0).2 (by omega)).1 _).trans p6, (congrFun ((hE.2 _ p0).2 (by omega)).1 _).trans p7, (congrFun ((hE.2 _ p0).2 (by omega)).1 _).trans p8, (congrFun ((hE.2 _ p0).2 (by omega)).1 _).trans p9, exv_X2 hE (by omega) p10, exv_X7 hE (by omega) p11, exv_X0 hE (by omega) p12, exv_X5 hE (by omega) p13, exv_X2 hE (by omega) p14, exv_X7 hE (by omega) p15, exv_X1 hE (by omega) p16, Nat.lt_of_lt_of_le p17 hE.1, (hE.2 _ p17).1.trans p18, fun j hj => ⟨(congrFun ((hE.2 _ p17).2 (by omega)).1 _).trans (q j hj).1, exv_X6 hE (by omega) (q j hj).2⟩⟩
theorem exw_X2 {v : Nat} {σ σ' : Mm} {a : Nat} (hE : Pt v σ σ') (hv : a + 2 ≤ v) (h : isX2 (mN σ) (mK σ) (mR σ) a) : isX2 (mN σ') (mK σ') (mR σ') a := by
  obtain ⟨p0, p1, p2, p3, p4⟩ := h
  exact ⟨Nat.lt_of_lt_of_le p0 hE.1, (hE.2 _ p0).1.trans p1, (congrFun ((hE.2 _ p0).2 (by omega)).1 _).trans p2, Nat.lt_of_lt_of_le p3 hE.1, (hE.2 _ p3).1.trans p4⟩
theorem exw_X1 {v : Nat} {σ σ' : Mm} {a : Nat} (hE : Pt v σ σ') (hv : a + 2 ≤ v) (h : isX1 (mN σ) (mK σ) (mR σ) a) : isX1 (mN σ') (mK σ') (mR σ') a := by
  obtain ⟨p0, p1, p2, p3, p4⟩ := h
  exact ⟨Nat.lt_of_lt_of_le p0 hE.1, (hE.2 _ p0).1.trans p1, (congrFun ((hE.2 _ p0).2 (by omega)).1 _).trans p2, Nat.lt_of_lt_of_le p3 hE.1, (hE.2 _ p3).1.trans p4⟩
theorem exw_X3 {v : Nat} {σ σ' : Mm} {a : Nat} (hE : Pt v σ σ') (hv : a + 3 ≤ v) (h : isX3 (mN σ) (mK σ) (mR σ) a) : isX3 (mN σ') (mK σ') (mR σ') a := by
  obtain ⟨p0, p1, p2, p3, p4, p5, p6, p7⟩ := h
  exact ⟨Nat.lt_of_lt_of_le p0 hE.1, (hE.2 _ p0).1.trans p1, (congrFun ((hE.2 _ p0).2 (by omega)).1 _).trans p2, (congrFun ((hE.2 _ p0).2 (by omega)).1 _).trans p3, Nat.lt_of_lt_of_le p4 hE.1, (hE.2 _ p4).1.trans p5, Nat.lt_of_lt_of_le p6 hE.1, (hE.2 _ p6).1.trans p7⟩
theorem exw_X7 {v : Nat} {σ σ' : Mm} {a : Nat} (hE : Pt v σ σ') (hv : a + 9 ≤ v) (h : isX7 (mN σ) (mK σ) (mR σ) a) : isX7 (mN σ') (mK σ') (mR σ') a := by
  obtain ⟨p0, p1, p2, p3, p4, p5, p6, p7, p8, p9, p10, p11, p12, p13, p14, p15, p16, p17, p18⟩ := h
  exact ⟨Nat.lt_of_lt_of_le p0 hE.1, (hE.2 _ p0).1.trans p1, (congrFun ((hE.2 _ p0).2 (by omega)).1 _).trans p2, (congrFun ((hE.2 _ p0).2 (by omega)).1 _).trans p3, (congrFun ((hE.2 _ p0).2 (by omega)).1 _).trans p4, (congrFun ((hE.2 _ p0).2 (by omega)).1 _).trans p5, (congrFun ((hE.2 _ p0).2 (by omega)).1 _).trans p6, (congrFun ((hE.2 _ p0).2 (by omega)).1 _).trans p7, Nat.lt_of_lt_of_le p8 hE.1, (hE.2 _ p8).1.trans p9, Nat.lt_of_lt_of_le p10 hE.1, (hE.2 _ p10).1.trans p11, Nat.lt_of_lt_of_le p12 hE.1, (hE.2 _ p12).1.trans p13, Nat.lt_of_lt_of_le p14 hE.1, (hE.2 _ p14).1.trans p15, Nat.lt_of_lt_of_le p16 hE.1, (hE.2 _ p16).1.trans p17, exw_X3 hE (by omega) p18⟩
theorem exw_X6 {v : Nat} {σ σ' : Mm} {a : Nat} (hE : Pt v σ σ') (hv : a + 3 ≤ v) (h : isX6 (mN σ) (mK σ) (mR σ) a) : isX6 (mN σ') (mK σ') (mR σ') a := by
  obtain ⟨p0, p1, p2, p3⟩ := h
  exact ⟨Nat.lt_of_lt_of_le p0 hE.1, (hE.2 _ p0).1.trans p1, (congrFun ((hE.2 _ p0).2 (by omega)).1 _).trans p2, exw_X2 hE (by omega) p3⟩
theorem exw_X0 {v : Nat} {σ σ' : Mm} {a : Nat} (hE : Pt v σ σ') (hv : a + 30 ≤ v) (h : isX0 (mN σ) (mK σ) (mR σ) a) : isX0 (mN σ') (mK σ') (mR σ') a := by
  obtain ⟨p0, p1, p2, p3, p4, q⟩ := h
  exact ⟨Nat.lt_of_lt_of_le p0 hE.1, (hE.2 _ p0).1.trans p1, (congrFun ((hE.2 _ p0).2 (by omega)).1 _).trans p2, Nat.lt_of_lt_of_le p3 hE.1, (hE.2 _ p3).1.trans p4, fun j hj => ⟨(congrFun ((hE.2 _ p3).2 (by omega)).1 _).trans (q j hj).1, exw_X2 hE (by omega) (q j hj).2⟩⟩
theorem exw_X5 {v : Nat} {σ σ' : Mm} {a : Nat} (hE : Pt v σ σ') (hv : a + 18 ≤ v) (h : isX5 (mN σ) (mK σ) (mR σ) a) : isX5 (mN σ') (mK σ') (mR σ') a := by
  obtain ⟨p0, p1, p2, p3, p4, p5, p6, p7, p8, p9, p10, p11, p12⟩ := h
  exact ⟨Nat.lt_of_lt_of_le p0 hE.1, (hE.2 _ p0).1.trans p1, (congrFun ((hE.2 _ p0).2 (by omega)).1 _).trans p2, (congrFun ((hE.2 _ p0).2 (by omega)).1 _).trans p3, (congrFun ((hE.2 _ p0).2 (by omega)).1 _).trans p4, (congrFun ((hE.2 _ p0).2 (by omega)).1 _).trans p5, (congrFun ((hE.2 _ p0).2 (by omega)).1 _).trans p6, Nat.lt_of_lt_of_le p7 hE.1, (hE.2 _ p7).1.trans p8, exw_X1 hE (by omega) p9, exw_X2 hE (by omega) p10, exw_X7 hE (by omega) p11, exw_X3 hE (by omega) p12⟩
theorem exw_X8 {v : Nat} {σ σ' : Mm} {a : Nat} (hE : Pt v σ σ') (hv : a + 80 ≤ v) (h : isX8 (mN σ) (mK σ) (mR σ) a) : isX8 (mN σ') (mK σ') (mR σ') a := by
  obtain ⟨p0, p1, p2, p3, p4, p5, p6, p7, p8, p9, p10, p11, p12, p13, p14, p15, p16, p17, p18, q⟩ := h
  exact ⟨Nat.lt_of_lt_of_le p0 hE.1, (hE.2 _ p0).1.trans p1, (congrFun ((hE.2 _ p0).2 (by omega)).1 _).trans p2, (congrFun ((hE.2 _ p0).2 (by omega)).1 _).trans p3, (congrFun ((hE.2 _ p0).2 (by omega)).1 _).trans p4, (congrFun ((hE.2 _ p0).2 (by omega)).1 _).trans p5, (congrFun ((hE.2 _ p0).2 (by omega)).1 _).trans p6, (congrFun ((hE.2 _ p0).2 (by omega)).1 _).trans p7, (congrFun ((hE.2 _ p0).2 (by omega)).1 _).trans p8, (congrFun ((hE.2 _ p0).2 (by omega)).1 _).trans p9, exw_X2 hE (by omega) p10, exw_X7 hE (by omega) p11, exw_X0 hE (by omega) p12, exw_X5 hE (by omega) p13, exw_X2 hE (by omega) p14, exw_X7 hE (by omega) p15, exw_X1 hE (by omega) p16, Nat.lt_of_lt_of_le p17 hE.1, (hE.2 _ p17).1.trans p18, fun j hj => ⟨(congrFun ((hE.2 _ p17).2 (by omega)).1 _).trans (q j hj).1, exw_X6 hE (by omega) (q j hj).2⟩⟩
theorem kO_new (σ : Mm) (c : Nat) : kO (nw σ (0, c)) (mN σ) c = true := by simp [kO, nw, mN, mK]
theorem Nx.rf (σ : Mm) : Nx σ σ := ⟨Nat.le_refl _, fun _ _ => ⟨rfl, rfl, rfl⟩⟩
theorem Nx.tr {σ σ' σ'' : Mm} (h1 : Nx σ σ') (h2 : Nx σ' σ'') : Nx σ σ'' := by
  refine ⟨Nat.le_trans h1.1 h2.1, fun b hb => ?_⟩
  obtain ⟨a1, a2, a3⟩ := h1.2 b hb
  obtain ⟨b1, b2, b3⟩ := h2.2 b (Nat.lt_of_lt_of_le hb h1.1)
  exact ⟨b1.trans a1, b2.trans a2, b3.trans a3⟩
theorem Nx.pt {σ σ' : Mm} (h : Nx σ σ') (v : Nat) : Pt v σ σ' := ⟨h.1, fun b hb => ⟨(h.2 b hb).1, fun _ => (h.2 b hb).2⟩⟩
theorem Pt.rf (v : Nat) (σ : Mm) : Pt v σ σ := ⟨Nat.le_refl _, fun _ _ => ⟨rfl, fun _ => ⟨rfl, rfl⟩⟩⟩
theorem Pt.tr {v : Nat} {σ σ' σ'' : Mm} (h1 : Pt v σ σ') (h2 : Pt v σ' σ'') : Pt v σ σ'' := by
  refine ⟨Nat.le_trans h1.1 h2.1, fun b hb => ?_⟩
  obtain ⟨a1, a2⟩ := h1.2 b hb
  obtain ⟨b1, b2⟩ := h2.2 b (Nat.lt_of_lt_of_le hb h1.1)
  exact ⟨b1.trans a1, fun z => ⟨(b2 z).1.trans (a2 z).1, (b2 z).2.trans (a2 z).2⟩⟩
theorem Nx_nw (σ : Mm) (kd : Nat × Nat) : Nx σ (nw σ kd) := by
  refine ⟨Nat.le_succ _, fun b hb => ⟨?_, ?_, ?_⟩⟩
  · show (if b = mN σ then kd else mK σ b) = _; rw [if_neg (by omega)]
  · show (if b = mN σ then (fun _ => none) else mR σ b) = _; rw [if_neg (by omega)]
  · show (if b = mN σ then (fun _ => 0) else mD σ b) = _; rw [if_neg (by omega)]
/-- what is new is no part of what was before -/
theorem Pt.nx {σ σ' : Mm} {kd : Nat × Nat} {v : Nat} (hv : mN σ = v) (h : Pt v (nw σ kd) σ') : Nx σ σ' := by
  have h1 : mN (nw σ kd) = mN σ + 1 := rfl
  have h0 := Nx_nw σ kd
  refine ⟨by have := h.1; omega, fun b hb => ?_⟩
  obtain ⟨a1, a2⟩ := h.2 b (by omega)
  obtain ⟨c1, c2, c3⟩ := h0.2 b hb
  have hne : b ≠ v := by omega
  exact ⟨a1.trans c1, (a2 hne).1.trans c2, (a2 hne).2.trans c3⟩
theorem nw_K (σ : Mm) (kd : Nat × Nat) : mK (nw σ kd) (mN σ) = kd := if_pos rfl
theorem nw_D (σ : Mm) (kd : Nat × Nat) : mD (nw σ kd) (mN σ) = fun _ => 0 := if_pos rfl
theorem Pt_sR (v fld x : Nat) (s : Mm) : Pt v s (sR s v fld x) := ⟨Nat.le_refl _, fun b hb => ⟨rfl, fun hv => ⟨if_neg hv, rfl⟩⟩⟩
theorem Pt_sD (v fld : Nat) (x : Int32) (s : Mm) : Pt v s (sD s v fld x) := ⟨Nat.le_refl _, fun b hb => ⟨rfl, fun hv => ⟨rfl, if_neg hv⟩⟩⟩
theorem sR_at (v fld x : Nat) (s : Mm) : mR (sR s v fld x) v fld = some x := by
  show (if v = v then va_up (mR s v) fld (some x) else mR s v) fld = _
  rw [if_pos rfl]; exact if_pos rfl
theorem sR_ne (v fld x : Nat) (s : Mm) {j : Nat} (h : j ≠ fld) : mR (sR s v fld x) v j = mR s v j := by
  show (if v = v then va_up (mR s v) fld (some x) else mR s v) j = _
  rw [if_pos rfl]; exact if_neg h
theorem kO_iff {σ : Mm} {a c : Nat} : kO σ a c = true ↔ a < mN σ ∧ mK σ a = (0, c) := by simp [kO]
theorem kO_nx {σ σ' : Mm} {a c : Nat} (h : kO σ a c = true) (hx : Nx σ σ') : kO σ' a c = true := by
  rw [kO_iff] at h ⊢
  exact ⟨Nat.lt_of_lt_of_le h.1 hx.1, ((hx.2 a h.1).1).trans h.2⟩
theorem kO_pt {v : Nat} {σ σ' : Mm} {a c : Nat} (h : kO σ a c = true) (hx : Pt v σ σ') : kO σ' a c = true := by
  rw [kO_iff] at h ⊢
  exact ⟨Nat.lt_of_lt_of_le h.1 hx.1, ((hx.2 a h.1).1).trans h.2⟩
theorem kA_nI {t : Mm} {a i ty len : Nat} (ha : a < mN t) (hK : mK t a = (ty, len)) (hi : i < len) (hl : len ≤ 100000) : kA t ty a (nI i) = true := by
  have h := inb_nI hi hl
  simp only [inb, Bool.and_eq_true, decide_eq_true_eq] at h
  simp [kA, ha, hK, h.2, Int32.not_lt.mp h.1]
def Ends (o : Option (Unit × Mm)) (P : Mm → Prop) : Prop := ∃ σ', o = some ((), σ') ∧ P σ'
theorem lt_of {m a e i : Nat} (h : m = a + e) (h2 : i < e) : a + i < m := by omega
/-- a part of the array kind is made, and set into a field of the object that is built -/
theorem al_st {t : Mm} {v c0 fld b : Nat} {kd : Nat × Nat} {k : Mm → Option (Unit × Mm)} {P : Mm → Prop} (hk : kO t v c0 = true) (hb : mN t = b) (h : ∀ t', kO t' v c0 = true → mN t' = b + 1 → Pt v t t' → mD t' v = mD t v → mK t' b = kd → (∀ j, mD t' b j = 0) → (∀ j, j ≠ fld → mR t' v j = mR t v j) → mR t' v fld = some b → Ends (k t') P) : Ends (zlt (nw t kd) (fun σ1 => zck (kO σ1 v c0) (zlt (sR σ1 v fld (mN t)) k))) P := by
  subst hb
  have hx := Nx_nw t kd
  have hv := (kO_iff.mp hk).1
  rw [zlt_eq, zck_t (kO_nx hk hx), zlt_eq]
  exact h _ (kO_pt (kO_nx hk hx) (Pt_sR v fld _ _)) rfl ((hx.pt v).tr (Pt_sR v fld _ _)) ((hx.2 v hv).2.2) (nw_K t kd) (fun j => congrFun (nw_D t kd) j) (fun j hj => by rw [sR_ne v fld _ _ hj, (hx.2 v hv).2.1]) (sR_at v fld _ _)
/-- a part of the object kind -/
theorem ob_st {t : Mm} {v c0 c fld b e : Nat} {fi : Nat → Mm → Option (Unit × Mm)} {k : Mm → Option (Unit × Mm)} {P : Mm → Prop} {S : Nat → Mm → Prop} (hk : kO t v c0 = true) (hb : mN t = b) (hi : ∀ a, mN t = a → Ends (fi a (nw t (0, c))) (fun s => Nx t s ∧ mN s = a + e ∧ S a s)) (h : ∀ s t', S b s → Pt v s t' → mD t' = mD s → kO t' v c0 = true → mN t' = b + e → Pt v t t' → mD t' v = mD t v → (∀ j, j ≠ fld → mR t' v j = mR t v j) → mR t' v fld = some b → Ends (k t') P) : Ends (zlt (nw t (0, c)) (fun σ1 => zcb (fi (mN t) σ1) (fun _ σ3 => zck (kO σ3 v c0) (zlt (sR σ3 v fld (mN t)) k)))) P := by
  subst hb
  obtain ⟨s, e1, hx, e3, e4⟩ := hi _ rfl
  have hv := (kO_iff.mp hk).1
  rw [zlt_eq, e1, zcb_some, zck_t (kO_nx hk hx), zlt_eq]
  exact h s _ e4 (Pt_sR v fld _ _) rfl (kO_pt (kO_nx hk hx) (Pt_sR v fld _ _)) e3 ((hx.pt v).tr (Pt_sR v fld _ _)) ((hx.2 v hv).2.2) (fun j hj => by rw [sR_ne v fld _ _ hj, (hx.2 v hv).2.1]) (sR_at v fld _ _)
/-- a number is set into a field of the object that is built -/
theorem sd_st {t : Mm} {v c0 fld b : Nat} {x : Int32} {k : Mm → Option (Unit × Mm)} {P : Mm → Prop} (hk : kO t v c0 = true) (hb : mN t = b) (h : ∀ t', kO t' v c0 = true → mN t' = b → Pt v t t' → mD t' v = upd (mD t v) fld x → mR t' = mR t → Ends (k t') P) : Ends (zlt (sD t v fld x) k) P := by
  rw [zlt_eq]
  exact h _ (kO_pt hk (Pt_sD v fld x t)) hb (Pt_sD v fld x t) (if_pos rfl) rfl
def DX1 (D : DD) (a : Nat) : Prop := D a 1 = 0
def DX2 (D : DD) (a : Nat) : Prop := D a 1 = 0 ∧ ∀ j, j < 100 → D (a + 1) j = -9
def DX3 (_D : DD) (_a : Nat) : Prop := True
def DX7 (D : DD) (a : Nat) : Prop := D a 6 = -9 ∧ (∀ j, D (a + 3) j = 0) ∧ ∀ j, D (a + 4) j = 0
def DX6 (D : DD) (a : Nat) : Prop := D a 1 = 0
def DX0 (D : DD) (a : Nat) : Prop := D a 1 = 0 ∧ D a 2 = 0
def DX5 (D : DD) (a : Nat) : Prop := D a 1 = 0 ∧ D a 3 = 0 ∧ D (a + 1) 1 = 0
def DX8 (D : DD) (a : Nat) : Prop := DX2 D (a + 1) ∧ DX7 D (a + 3) ∧ DX0 D (a + 12) ∧ DX5 D (a + 42) ∧ DX7 D (a + 63) ∧ DX1 D (a + 72) ∧ ∀ j, j < 2 → DX6 D (a + 74 + 3 * j)
def DX9 (D : DD) (a : Nat) : Prop := (∀ j, D a j = 0) ∧ (∀ j, j < 100 → D (a + 1) j = -9) ∧ ∀ j, D (a + 5) j = 0
theorem I_X2 (σ : Mm) (a : Nat) (ha : mN σ = a) : Ends (f_X2_init a (nw σ (0, 2))) (fun s => Nx σ s ∧ mN s = a + 2 ∧ isX2 (mN s) (mK s) (mR s) a ∧ DX2 (mD s) a) := by
  have hk : kO (nw σ (0, 2)) a 2 = true := ha ▸ kO_new σ 2
  have h0 : mN (nw σ (0, 2)) = a + 1 := by rw [← ha]; rfl
  have z0 : mD (nw σ (0, 2)) a = fun _ => 0 := ha ▸ nw_D σ (0, 2)
  unfold f_X2_init
  refine al_st hk h0 (fun t k1 n1 p1 d1 K1 Z1 q1 r1 => ?_)
  have hx := Pt.nx ha p1
  obtain ⟨n, K, R, D⟩ := t
  have hn : n = a + 2 := n1
  obtain ⟨f, e1, e2, e3⟩ := n_fill_loop 100 (a + 1) (-9) (by omega) 100 0 1000 D (by omega) (by omega)
  have e1' : g_J7_fill_53178 100 (a + 1) (-9) D = some (uA D (a + 1) f) := e1
  rw [r1, zrb_some, G_J7_fill_53178 (n := n) (K := K) (R := R) (len := 100) _ _ _ ⟨by omega, K1⟩, e1', Option.map_some, zcb_some]
  have hk2 := kO_iff.mp k1
  refine ⟨_, rfl, ⟨hx.1, fun b hb => ⟨(hx.2 b hb).1, (hx.2 b hb).2.1, ?_⟩⟩, hn, ⟨hk2.1, hk2.2, r1, lt_of hn (by decide), K1⟩, ?_, fun j hj => ?_⟩
  · show uA D (a + 1) f b = _
    rw [uA_ne _ _ (by omega)]; exact (hx.2 b hb).2.2
  · show uA D (a + 1) f a 1 = 0
    rw [uA_ne _ _ (by omega)]
    have : D a = fun _ => 0 := d1.trans z0
    rw [this]
  · show uA D (a + 1) f (a + 1) j = -9
    rw [uA_same]; exact e2 j (by omega) hj
theorem I_X1 (σ : Mm) (a : Nat) (ha : mN σ = a) : Ends (f_X1_init a (nw σ (0, 1))) (fun s => Nx σ s ∧ mN s = a + 2 ∧ isX1 (mN s) (mK s) (mR s) a ∧ DX1 (mD s) a) := by
  have k0 : kO (nw σ (0, 1)) a 1 = true := ha ▸ kO_new σ 1
  have n0 : mN (nw σ (0, 1)) = a + 1 := by rw [← ha]; rfl
  have d0 : mD (nw σ (0, 1)) a = fun _ => 0 := ha ▸ nw_D σ (0, 1)
  unfold f_X1_init
  refine al_st k0 n0 (fun t1 k1 (n1 : mN t1 = a + 2) p1 d1 K1 Z1 q1 r1 => ?_)
  have P1 := Pt.rf a t1
  have P0 := p1.tr P1
  exact ⟨_, rfl, P0.nx ha, n1, ⟨(kO_iff.mp k1).1, (kO_iff.mp k1).2, (by rw [r1]), lt_of n1 (by decide), (P1.2 _ (lt_of n1 (by decide))).1.trans K1⟩, by show mD _ a 1 = 0; rw [d1, d0]⟩
theorem I_X3 (σ : Mm) (a : Nat) (ha : mN σ = a) : Ends (f_X3_init a (nw σ (0, 3))) (fun s => Nx σ s ∧ mN s = a + 3 ∧ isX3 (mN s) (mK s) (mR s) a ∧ DX3 (mD s) a) := by
  have k0 : kO (nw σ (0, 3)) a 3 = true := ha ▸ kO_new σ 3
  have n0 : mN (nw σ (0, 3)) = a + 1 := by rw [← ha]; rfl
  have d0 : mD (nw σ (0, 3)) a = fun _ => 0 := ha ▸ nw_D σ (0, 3)
  unfold f_X3_init
  refine al_st k0 n0 (fun t1 k1 (n1 : mN t1 = a + 2) p1 d1 K1 Z1 q1 r1 => ?_)
  refine al_st k1 n1 (fun t2 k2 (n2 : mN t2 = a + 3) p2 d2 K2 Z2 q2 r2 => ?_)
  have P2 := Pt.rf a t2
  have P1 := p2.tr P2
  have P0 := p1.tr P1
  exact ⟨_, rfl, P0.nx ha, n2, ⟨(kO_iff.mp k2).1, (kO_iff.mp k2).2, (by rw [q2 0 (by decide), r1]), (by rw [r2]), lt_of n2 (by decide), (P1.2 _ (lt_of n1 (by decide))).1.trans K1, lt_of n2 (by decide), (P2.2 _ (lt_of n2 (by decide))).1.trans K2⟩, trivial⟩
theorem I_X7 (σ : Mm) (a : Nat) (ha : mN σ = a) : Ends (f_X7_init a (nw σ (0, 7))) (fun s => Nx σ s ∧ mN s = a + 9 ∧ isX7 (mN s) (mK s) (mR s) a ∧ DX7 (mD s) a) := by
  have k0 : kO (nw σ (0, 7)) a 7 = true := ha ▸ kO_new σ 7
  have n0 : mN (nw σ (0, 7)) = a + 1 := by rw [← ha]; rfl
  have d0 : mD (nw σ (0, 7)) a = fun _ => 0 := ha ▸ nw_D σ (0, 7)
  unfold f_X7_init
  refine al_st k0 n0 (fun t1 k1 (n1 : mN t1 = a + 2) p1 d1 K1 Z1 q1 r1 => ?_)
  refine al_st k1 n1 (fun t2 k2 (n2 : mN t2 = a + 3) p2 d2 K2 Z2 q2 r2 => ?_)
  refine al_st k2 n2 (fun t3 k3 (n3 : mN t3 = a + 4) p3 d3 K3 Z3 q3 r3 => ?_)
  refine al_st k3 n3 (fun t4 k4 (n4 : mN t4 = a + 5) p4 d4 K4 Z4 q4 r4 => ?_)
  refine al_st k4 n4 (fun t5 k5 (n5 : mN t5 = a + 6) p5 d5 K5 Z5 q5 r5 => ?_)
  refine sd_st k5 n5 (fun t6 k6 (n6 : mN t6 = a + 6) p6 d6 m6 => ?_)
  refine ob_st k6 n6 (I_X3 t6) (fun s7 t7 S7 o7 e7 k7 (n7 : mN t7 = a + 9) p7 d7 q7 r7 => ?_)
  have P7 := Pt.rf a t7
  have P6 := p7.tr P7
  have P5 := p6.tr P6
  have P4 := p5.tr P5
  have P3 := p4.tr P4
  have P2 := p3.tr P3
  have P1 := p2.tr P2
  have P0 := p1.tr P1
  refine ⟨_, rfl, P0.nx ha, n7, ⟨(kO_iff.mp k7).1, (kO_iff.mp k7).2, (by rw [q7 0 (by decide), m6, q5 0 (by decide), q4 0 (by decide), q3 0 (by decide), q2 0 (by decide), r1]), (by rw [q7 1 (by decide), m6, q5 1 (by decide), q4 1 (by decide), q3 1 (by decide), r2]), (by rw [q7 2 (by decide), m6, q5 2 (by decide), q4 2 (by decide), r3]), (by rw [q7 3 (by decide), m6, q5 3 (by decide), r4]), (by rw [q7 4 (by decide), m6, r5]), (by rw [r7]), lt_of n7 (by decide), (P1.2 _ (lt_of n1 (by decide))).1.trans K1, lt_of n7 (by decide), (P2.2 _ (lt_of n2 (by decide))).1.trans K2, lt_of n7 (by decide), (P3.2 _ (lt_of n3 (by decide))).1.trans K3, lt_of n7 (by decide), (P4.2 _ (lt_of n4 (by decide))).1.trans K4, lt_of n7 (by decide), (P5.2 _ (lt_of n5 (by decide))).1.trans K5, exv_X3 (o7.tr P7) (Nat.lt_add_of_pos_right (by decide)) S7.1⟩, ?_, fun j => ?_, fun j => ?_⟩
  · rw [d7, d6, upd_same]
  · rw [((P3.2 (a + 3) (lt_of n3 (by decide))).2 (by omega)).2]; exact Z3 j
  · rw [((P4.2 (a + 4) (lt_of n4 (by decide))).2 (by omega)).2]; exact Z4 j
theorem I_X6 (σ : Mm) (a : Nat) (ha : mN σ = a) : Ends (f_X6_init a (nw σ (0, 6))) (fun s => Nx σ s ∧ mN s = a + 3 ∧ isX6 (mN s) (mK s) (mR s) a ∧ DX6 (mD s) a) := by
  have k0 : kO (nw σ (0, 6)) a 6 = true := ha ▸ kO_new σ 6
  have n0 : mN (nw σ (0, 6)) = a + 1 := by rw [← ha]; rfl
  have d0 : mD (nw σ (0, 6)) a = fun _ => 0 := ha ▸ nw_D σ (0, 6)
  unfold f_X6_init
  refine ob_st k0 n0 (I_X2 (nw σ (0, 6))) (fun s1 t1 S1 o1 e1 k1 (n1 : mN t1 = a + 3) p1 d1 q1 r1 => ?_)
  have P1 := Pt.rf a t1
  have P0 := p1.tr P1
  exact ⟨_, rfl, P0.nx ha, n1, ⟨(kO_iff.mp k1).1, (kO_iff.mp k1).2, (by rw [r1]), exv_X2 (o1.tr P1) (Nat.lt_add_of_pos_right (by decide)) S1.1⟩, by show mD _ a 1 = 0; rw [d1, d0]⟩
theorem I_X5 (σ : Mm) (a : Nat) (ha : mN σ = a) : Ends (f_X5_init a (nw σ (0, 5))) (fun s => Nx σ s ∧ mN s = a + 18 ∧ isX5 (mN s) (mK s) (mR s) a ∧ DX5 (mD s) a) := by
  have k0 : kO (nw σ (0, 5)) a 5 = true := ha ▸ kO_new σ 5
  have n0 : mN (nw σ (0, 5)) = a + 1 := by rw [← ha]; rfl
  have d0 : mD (nw σ (0, 5)) a = fun _ => 0 := ha ▸ nw_D σ (0, 5)
  unfold f_X5_init
  refine ob_st k0 n0 (I_X1 (nw σ (0, 5))) (fun s1 t1 S1 o1 e1 k1 (n1 : mN t1 = a + 3) p1 d1 q1 r1 => ?_)
  refine al_st k1 n1 (fun t2 k2 (n2 : mN t2 = a + 4) p2 d2 K2 Z2 q2 r2 => ?_)
  refine ob_st k2 n2 (I_X2 t2) (fun s3 t3 S3 o3 e3 k3 (n3 : mN t3 = a + 6) p3 d3 q3 r3 => ?_)
  refine ob_st k3 n3 (I_X7 t3) (fun s4 t4 S4 o4 e4 k4 (n4 : mN t4 = a + 15) p4 d4 q4 r4 => ?_)
  refine ob_st k4 n4 (I_X3 t4) (fun s5 t5 S5 o5 e5 k5 (n5 : mN t5 = a + 18) p5 d5 q5 r5 => ?_)
  have P5 := Pt.rf a t5
  have P4 := p5.tr P5
  have P3 := p4.tr P4
  have P2 := p3.tr P3
  have P1 := p2.tr P2
  have P0 := p1.tr P1
  have hd : mD t5 a = fun _ => 0 := by rw [d5, d4, d3, d2, d1, d0]
  refine ⟨_, rfl, P0.nx ha, n5, ⟨(kO_iff.mp k5).1, (kO_iff.mp k5).2, (by rw [q5 0 (by decide), q4 0 (by decide), q3 0 (by decide), q2 0 (by decide), r1]), (by rw [q5 2 (by decide), q4 2 (by decide), q3 2 (by decide), r2]), (by rw [q5 4 (by decide), q4 4 (by decide), r3]), (by rw [q5 5 (by decide), r4]), (by rw [r5]), lt_of n5 (by decide), (P2.2 _ (lt_of n2 (by decide))).1.trans K2, exv_X1 (o1.tr P1) (Nat.lt_add_of_pos_right (by decide)) S1.1, exv_X2 (o3.tr P3) (Nat.lt_add_of_pos_right (by decide)) S3.1, exv_X7 (o4.tr P4) (Nat.lt_add_of_pos_right (by decide)) S4.1, exv_X3 (o5.tr P5) (Nat.lt_add_of_pos_right (by decide)) S5.1⟩, by rw [hd], by rw [hd], ?_⟩
  rw [((P1.2 (a + 1) (lt_of n1 (by decide))).2 (by omega)).2, e1]; exact S1.2
theorem X0_loop {v : Nat} : ∀ (d i n : Nat) (t : Mm), i + d = 14 → d < n → kO t v 0 = true → mR t v 0 = some (v + 1) → mN t = v + 2 + 2 * i → mK t (v + 1) = (3, 14) → (∀ j, j < i → mR t (v + 1) j = some (v + 2 + 2 * j) ∧ isX2 (mN t) (mK t) (mR t) (v + 2 + 2 * j)) → Ends (f_X0_init_15 n v (nI i) t) (fun s => Pt (v + 1) t s ∧ mN s = v + 30 ∧ ∀ j, j < 14 → mR s (v + 1) j = some (v + 2 + 2 * j) ∧ isX2 (mN s) (mK s) (mR s) (v + 2 + 2 * j)) := by
  intro d
  induction d with
  | zero =>
    intro i n t h1 h2 hk hr hn hK hA
    obtain ⟨n, rfl⟩ : ∃ q, n = q + 1 := ⟨n - 1, by omega⟩
    have hi : i = 14 := by omega
    subst hi
    rw [f_X0_init_15, if_pos (show (14 : Int32) ≤ nI 14 from Int32.le_refl _)]
    exact ⟨t, rfl, Pt.rf _ _, by omega, hA⟩
  | succ d ih =>
    intro i n t h1 h2 hk hr hn hK hA
    obtain ⟨n, rfl⟩ : ∃ q, n = q + 1 := ⟨n - 1, by omega⟩
    have hi : i < 14 := by omega
    obtain ⟨s, e1, hx, e3, e4, -⟩ := I_X2 t _ rfl
    have hv := (kO_iff.mp hk).1
    have hks : mK s (v + 1) = (3, 14) := (hx.2 (v + 1) (by omega)).1.trans hK
    rw [f_X0_init_15, if_neg (show ¬ (14 : Int32) ≤ nI i from nI_ge (b := 14) hi (by decide)), zck_t hk, hr, zrb_some, zlt_eq, e1, zcb_some, zck_t (kA_nI (by omega) hks hi (by decide)), zck_t (kO_iff.mpr ⟨e4.1, e4.2.1⟩), zlt_eq, ix_nI (by omega), nI_1]
    have hp : Pt (v + 1) t (sR s (v + 1) i (mN t)) := (hx.pt _).tr (Pt_sR _ _ _ _)
    obtain ⟨s', g1, g2, g3, g4⟩ := ih (i + 1) n (sR s (v + 1) i (mN t)) (by omega) (by omega) (kO_pt hk hp) ((congrFun ((hp.2 v hv).2 (by omega)).1 0).trans hr) (by show mN s = _; omega) ((hp.2 (v + 1) (by omega)).1.trans hK) (fun j hj => by
      by_cases e : j = i
      · subst e
        exact ⟨by rw [sR_at, hn], exv_X2 (Pt_sR _ _ _ _) (by omega) (hn ▸ e4)⟩
      · exact ⟨by rw [sR_ne _ _ _ _ e, (hx.2 (v + 1) (by omega)).2.1]; exact (hA j (by omega)).1, exv_X2 hp (by omega) (hA j (by omega)).2⟩)
    exact ⟨s', g1, hp.tr g2, g3, g4⟩
theorem I_X0 (σ : Mm) (a : Nat) (ha : mN σ = a) : Ends (f_X0_init a (nw σ (0, 0))) (fun s => Nx σ s ∧ mN s = a + 30 ∧ isX0 (mN s) (mK s) (mR s) a ∧ DX0 (mD s) a) := by
  have k0 : kO (nw σ (0, 0)) a 0 = true := ha ▸ kO_new σ 0
  have n0 : mN (nw σ (0, 0)) = a + 1 := by rw [← ha]; rfl
  have d0 : mD (nw σ (0, 0)) a = fun _ => 0 := ha ▸ nw_D σ (0, 0)
  unfold f_X0_init
  refine al_st k0 n0 (fun t1 k1 (n1 : mN t1 = a + 2) p1 d1 K1 Z1 q1 r1 => ?_)
  obtain ⟨s, g1, g2, g3, g4⟩ := X0_loop (v := a) 14 0 15 t1 (by omega) (by omega) k1 r1 n1 K1 (fun j hj => by omega)
  rw [nI_0] at g1
  have kk := kO_pt k1 g2
  have ka := (kO_iff.mp k1).1
  have hra : mR s a = mR t1 a := ((g2.2 a ka).2 (by omega)).1
  have hda : mD s a = fun _ => 0 := by rw [((g2.2 a ka).2 (by omega)).2, d1, d0]
  have hnx : Nx σ s := by
    have w := p1.nx ha
    refine ⟨Nat.le_trans w.1 g2.1, fun b hb => ?_⟩
    obtain ⟨w1, w2, w3⟩ := w.2 b hb
    obtain ⟨y1, y2⟩ := g2.2 b (Nat.lt_of_lt_of_le hb w.1)
    exact ⟨y1.trans w1, (y2 (by omega)).1.trans w2, (y2 (by omega)).2.trans w3⟩
  exact ⟨s, g1, hnx, g3, ⟨(kO_iff.mp kk).1, (kO_iff.mp kk).2, by rw [hra, r1], lt_of g3 (by decide), (g2.2 (a + 1) (lt_of n1 (by decide))).1.trans K1, g4⟩, by rw [hda], by rw [hda]⟩
