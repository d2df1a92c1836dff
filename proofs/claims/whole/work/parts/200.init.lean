/-! ===== the constructors ===== -/
def Nx (σ σ' : Mm) : Prop := mN σ ≤ mN σ' ∧ ∀ b, b < mN σ → mK σ' b = mK σ b ∧ mR σ' b = mR σ b ∧ mD σ' b = mD σ b
def Pt (v : Nat) (σ σ' : Mm) : Prop := mN σ ≤ mN σ' ∧ ∀ b, b < mN σ → mK σ' b = mK σ b ∧ (b ≠ v → mR σ' b = mR σ b) ∧ mD σ' b = mD σ b
theorem exv_X2 {v : Nat} {σ σ' : Mm} {a : Nat} (hE : Pt v σ σ') (hv : v < a) (h : isX2 (mN σ) (mK σ) (mR σ) a) : isX2 (mN σ') (mK σ') (mR σ') a := by
  obtain ⟨p0, p1, p2, p3, p4⟩ := h
  exact ⟨Nat.lt_of_lt_of_le p0 hE.1, (hE.2 _ p0).1.trans p1, (congrFun ((hE.2 _ p0).2.1 (by omega)) _).trans p2, Nat.lt_of_lt_of_le p3 hE.1, (hE.2 _ p3).1.trans p4⟩
theorem exv_X1 {v : Nat} {σ σ' : Mm} {a : Nat} (hE : Pt v σ σ') (hv : v < a) (h : isX1 (mN σ) (mK σ) (mR σ) a) : isX1 (mN σ') (mK σ') (mR σ') a := by
  obtain ⟨p0, p1, p2, p3, p4⟩ := h
  exact ⟨Nat.lt_of_lt_of_le p0 hE.1, (hE.2 _ p0).1.trans p1, (congrFun ((hE.2 _ p0).2.1 (by omega)) _).trans p2, Nat.lt_of_lt_of_le p3 hE.1, (hE.2 _ p3).1.trans p4⟩
theorem exv_X3 {v : Nat} {σ σ' : Mm} {a : Nat} (hE : Pt v σ σ') (hv : v < a) (h : isX3 (mN σ) (mK σ) (mR σ) a) : isX3 (mN σ') (mK σ') (mR σ') a := by
  obtain ⟨p0, p1, p2, p3, p4, p5, p6, p7⟩ := h
  exact ⟨Nat.lt_of_lt_of_le p0 hE.1, (hE.2 _ p0).1.trans p1, (congrFun ((hE.2 _ p0).2.1 (by omega)) _).trans p2, (congrFun ((hE.2 _ p0).2.1 (by omega)) _).trans p3, Nat.lt_of_lt_of_le p4 hE.1, (hE.2 _ p4).1.trans p5, Nat.lt_of_lt_of_le p6 hE.1, (hE.2 _ p6).1.trans p7⟩
theorem exv_X7 {v : Nat} {σ σ' : Mm} {a : Nat} (hE : Pt v σ σ') (hv : v < a) (h : isX7 (mN σ) (mK σ) (mR σ) a) : isX7 (mN σ') (mK σ') (mR σ') a := by
  obtain ⟨p0, p1, p2, p3, p4, p5, p6, p7, p8, p9, p10, p11, p12, p13, p14, p15, p16, p17, p18⟩ := h
  exact ⟨Nat.lt_of_lt_of_le p0 hE.1, (hE.2 _ p0).1.trans p1, (congrFun ((hE.2 _ p0).2.1 (by omega)) _).trans p2, (congrFun ((hE.2 _ p0).2.1 (by omega)) _).trans p3, (congrFun ((hE.2 _ p0).2.1 (by omega)) _).trans p4, (congrFun ((hE.2 _ p0).2.1 (by omega)) _).trans p5, (congrFun ((hE.2 _ p0).2.1 (by omega)) _).trans p6, (congrFun ((hE.2 _ p0).2.1 (by omega)) _).trans p7, Nat.lt_of_lt_of_le p8 hE.1, (hE.2 _ p8).1.trans p9, Nat.lt_of_lt_of_le p10 hE.1, (hE.2 _ p10).1.trans p11, Nat.lt_of_lt_of_le p12 hE.1, (hE.2 _ p12).1.trans p13, Nat.lt_of_lt_of_le p14 hE.1, (hE.2 _ p14).1.trans p15, Nat.lt_of_lt_of_le p16 hE.1, (hE.2 _ p16).1.trans p17, exv_X3 hE (by omega) p18⟩
theorem exv_X6 {v : Nat} {σ σ' : Mm} {a : Nat} (hE : Pt v σ σ') (hv : v < a) (h : isX6 (mN σ) (mK σ) (mR σ) a) : isX6 (mN σ') (mK σ') (mR σ') a := by
  obtain ⟨p0, p1, p2, p3⟩ := h
  exact ⟨Nat.lt_of_lt_of_le p0 hE.1, (hE.2 _ p0).1.trans p1, (congrFun ((hE.2 _ p0).2.1 (by omega)) _).trans p2, exv_X2 hE (by omega) p3⟩
theorem exv_X0 {v : Nat} {σ σ' : Mm} {a : Nat} (hE : Pt v σ σ') (hv : v < a) (h : isX0 (mN σ) (mK σ) (mR σ) a) : isX0 (mN σ') (mK σ') (mR σ') a := by
  obtain ⟨p0, p1, p2, p3, p4, q⟩ := h
  exact ⟨Nat.lt_of_lt_of_le p0 hE.1, (hE.2 _ p0).1.trans p1, (congrFun ((hE.2 _ p0).2.1 (by omega)) _).trans p2, Nat.lt_of_lt_of_le p3 hE.1, (hE.2 _ p3).1.trans p4, fun j hj => ⟨(congrFun ((hE.2 _ p3).2.1 (by omega)) _).trans (q j hj).1, exv_X2 hE (by omega) (q j hj).2⟩⟩
theorem exv_X5 {v : Nat} {σ σ' : Mm} {a : Nat} (hE : Pt v σ σ') (hv : v < a) (h : isX5 (mN σ) (mK σ) (mR σ) a) : isX5 (mN σ') (mK σ') (mR σ') a := by
  obtain ⟨p0, p1, p2, p3, p4, p5, p6, p7, p8, p9, p10, p11, p12⟩ := h
  exact ⟨Nat.lt_of_lt_of_le p0 hE.1, (hE.2 _ p0).1.trans p1, (congrFun ((hE.2 _ p0).2.1 (by omega)) _).trans p2, (congrFun ((hE.2 _ p0).2.1 (by omega)) _).trans p3, (congrFun ((hE.2 _ p0).2.1 (by omega)) _).trans p4, (congrFun ((hE.2 _ p0).2.1 (by omega)) _).trans p5, (congrFun ((hE.2 _ p0).2.1 (by omega)) _).trans p6, Nat.lt_of_lt_of_le p7 hE.1, (hE.2 _ p7).1.trans p8, exv_X1 hE (by omega) p9, exv_X2 hE (by omega) p10, exv_X7 hE (by omega) p11, exv_X3 hE (by omega) p12⟩
theorem kO_new (σ : Mm) (c : Nat) : kO (nw σ (0, c)) (mN σ) c = true := by simp [kO, nw, mN, mK]
theorem Nx.rf (σ : Mm) : Nx σ σ := ⟨Nat.le_refl _, fun _ _ => ⟨rfl, rfl, rfl⟩⟩
theorem Nx.tr {σ σ' σ'' : Mm} (h1 : Nx σ σ') (h2 : Nx σ' σ'') : Nx σ σ'' := by
  refine ⟨Nat.le_trans h1.1 h2.1, fun b hb => ?_⟩
  obtain ⟨a1, a2, a3⟩ := h1.2 b hb
  obtain ⟨b1, b2, b3⟩ := h2.2 b (Nat.lt_of_lt_of_le hb h1.1)
  exact ⟨b1.trans a1, b2.trans a2, b3.trans a3⟩
theorem Nx.pt {σ σ' : Mm} (h : Nx σ σ') (v : Nat) : Pt v σ σ' := ⟨h.1, fun b hb => ⟨(h.2 b hb).1, fun _ => (h.2 b hb).2.1, (h.2 b hb).2.2⟩⟩
theorem Pt.tr {v : Nat} {σ σ' σ'' : Mm} (h1 : Pt v σ σ') (h2 : Pt v σ' σ'') : Pt v σ σ'' := by
  refine ⟨Nat.le_trans h1.1 h2.1, fun b hb => ?_⟩
  obtain ⟨a1, a2, a3⟩ := h1.2 b hb
  obtain ⟨b1, b2, b3⟩ := h2.2 b (Nat.lt_of_lt_of_le hb h1.1)
  exact ⟨b1.trans a1, fun z => (b2 z).trans (a2 z), b3.trans a3⟩
/-- what is new is no part of what was before -/
theorem Pt.nx {σ σ' : Mm} {kd : Nat × Nat} (h : Pt (mN σ) (nw σ kd) σ') : Nx σ σ' := by
  have h1 : mN (nw σ kd) = mN σ + 1 := rfl
  refine ⟨by have := h.1; omega, fun b hb => ?_⟩
  obtain ⟨a1, a2, a3⟩ := h.2 b (by omega)
  have hk : mK (nw σ kd) b = mK σ b := by show (if b = mN σ then kd else mK σ b) = _; rw [if_neg (by omega)]
  have hr : mR (nw σ kd) b = mR σ b := by show (if b = mN σ then (fun _ => none) else mR σ b) = _; rw [if_neg (by omega)]
  have hd : mD (nw σ kd) b = mD σ b := by show (if b = mN σ then (fun _ => 0) else mD σ b) = _; rw [if_neg (by omega)]
  exact ⟨a1.trans hk, (a2 (by omega)).trans hr, a3.trans hd⟩
theorem Nx_nw (σ : Mm) (kd : Nat × Nat) : Nx σ (nw σ kd) := by
  refine ⟨Nat.le_succ _, fun b hb => ⟨?_, ?_, ?_⟩⟩
  · show (if b = mN σ then kd else mK σ b) = _; rw [if_neg (by omega)]
  · show (if b = mN σ then (fun _ => none) else mR σ b) = _; rw [if_neg (by omega)]
  · show (if b = mN σ then (fun _ => 0) else mD σ b) = _; rw [if_neg (by omega)]
theorem nw_K (σ : Mm) (kd : Nat × Nat) : mK (nw σ kd) (mN σ) = kd := if_pos rfl
theorem nw_D (σ : Mm) (kd : Nat × Nat) : mD (nw σ kd) (mN σ) = fun _ => 0 := if_pos rfl
theorem Pt_sR (v fld x : Nat) (s : Mm) : Pt v s (sR s v fld x) := ⟨Nat.le_refl _, fun b hb => ⟨rfl, fun hv => if_neg hv, rfl⟩⟩
theorem sR_at (v fld x : Nat) (s : Mm) : mR (sR s v fld x) v fld = some x := by
  show (if v = v then va_up (mR s v) fld (some x) else mR s v) fld = _
  rw [if_pos rfl]; exact if_pos rfl
theorem sR_ne (v fld x : Nat) (s : Mm) {j : Nat} (h : j ≠ fld) : mR (sR s v fld x) v j = mR s v j := by
  show (if v = v then va_up (mR s v) fld (some x) else mR s v) j = _
  rw [if_pos rfl]; exact if_neg h
theorem kO_iff {σ : Mm} {a c : Nat} : kO σ a c = true ↔ a < mN σ ∧ mK σ a = (0, c) := by simp [kO]
theorem kO_nx {σ σ' : Mm} {a c : Nat} (h : kO σ a c = true) (hx : Nx σ σ') : kO σ' a c = true := by
  rw [kO_iff] at h ⊢
  exact ⟨Nat.lt_of_lt_of_le h.1 hx.1, ((hx.2 a h.1).1).trans h.2⟩
theorem kO_pt {v : Nat} {σ σ' : Mm} {a c : Nat} (h : kO σ a c = true) (hx : Pt v σ σ') : kO σ' a c = true := by
  rw [kO_iff] at h ⊢
  exact ⟨Nat.lt_of_lt_of_le h.1 hx.1, ((hx.2 a h.1).1).trans h.2⟩
/-- a part is made, and set into a field of the object that is built -/
theorem stage (v fld x : Nat) {t s : Mm} (hx : Nx t s) (hv : v < mN t) : Pt v t (sR s v fld x) ∧ (∀ j, j ≠ fld → mR (sR s v fld x) v j = mR t v j) ∧ mR (sR s v fld x) v fld = some x ∧ mN (sR s v fld x) = mN s :=
  ⟨(hx.pt v).tr (Pt_sR v fld x s), fun j hj => by rw [sR_ne v fld x s hj, (hx.2 v hv).2.1], sR_at v fld x s, rfl⟩
theorem ob_run {β : Type} {t s : Mm} {v c0 c fld : Nat} {fi : Nat → Mm → Option (Unit × Mm)} {k : Mm → Option β} (hk : kO t v c0 = true) (hi : fi (mN t) (nw t (0, c)) = some ((), s)) (hx : Nx t s) : zlt (nw t (0, c)) (fun σ1 => zcb (fi (mN t) σ1) (fun _ σ3 => zck (kO σ3 v c0) (zlt (sR σ3 v fld (mN t)) k))) = k (sR s v fld (mN t)) := by
  rw [zlt_eq, hi, zcb_some, zck_t (kO_nx hk hx), zlt_eq]
theorem al_run {β : Type} {t : Mm} {v c0 fld : Nat} {kd : Nat × Nat} {k : Mm → Option β} (hk : kO t v c0 = true) : zlt (nw t kd) (fun σ1 => zck (kO σ1 v c0) (zlt (sR σ1 v fld (mN t)) k)) = k (sR (nw t kd) v fld (mN t)) := by
  rw [zlt_eq, zck_t (kO_nx hk (Nx_nw t kd)), zlt_eq]
def F9 : Nat → Int32 := fun j => if j < 100 then -9 else 0
/-- a part of the array kind -/
theorem al_facts (v fld : Nat) (kd : Nat × Nat) {t : Mm} (hv : v < mN t) : mN (sR (nw t kd) v fld (mN t)) = mN t + 1 ∧ mK (sR (nw t kd) v fld (mN t)) (mN t) = kd ∧ (∀ j, mD (sR (nw t kd) v fld (mN t)) (mN t) j = 0) ∧ Pt v t (sR (nw t kd) v fld (mN t)) ∧ (∀ j, j ≠ fld → mR (sR (nw t kd) v fld (mN t)) v j = mR t v j) ∧ mR (sR (nw t kd) v fld (mN t)) v fld = some (mN t) := by
  obtain ⟨a1, a2, a3, -⟩ := stage v fld (mN t) (Nx_nw t kd) hv
  exact ⟨rfl, nw_K t kd, fun j => congrFun (nw_D t kd) j, a1, a2, a3⟩
theorem I_X1 (σ : Mm) : ∃ σ', f_X1_init (mN σ) (nw σ (0, 1)) = some ((), σ') ∧ Nx σ σ' ∧ mN σ' = mN σ + 2 ∧ isX1 (mN σ') (mK σ') (mR σ') (mN σ) ∧ mD σ' (mN σ) 1 = 0 := by
  have hk := kO_new σ 1
  obtain ⟨b1, b2, b3, b4, b5, b6⟩ := al_facts (mN σ) 0 (1, 100) (t := nw σ (0, 1)) (Nat.lt_succ_self _)
  have hn : mN (nw σ (0, 1)) = mN σ + 1 := rfl
  have hk2 := kO_iff.mp (kO_pt hk b4)
  refine ⟨_, ?_, b4.nx, by rw [b1, hn], ⟨hk2.1, hk2.2, by rw [b6, hn], by rw [b1, hn]; omega, by rw [← hn]; exact b2⟩, ?_⟩
  · unfold f_X1_init
    rw [al_run hk]
  · rw [(b4.2 (mN σ) (by omega)).2.2, nw_D]
theorem I_X2 (σ : Mm) : ∃ σ', f_X2_init (mN σ) (nw σ (0, 2)) = some ((), σ') ∧ Nx σ σ' ∧ mN σ' = mN σ + 2 ∧ isX2 (mN σ') (mK σ') (mR σ') (mN σ) ∧ mD σ' (mN σ) 1 = 0 ∧ ∀ j, j < 100 → mD σ' (mN σ + 1) j = -9 := by
  have hk := kO_new σ 2
  obtain ⟨b1, b2, b3, b4, b5, b6⟩ := al_facts (mN σ) 0 (1, 100) (t := nw σ (0, 2)) (Nat.lt_succ_self _)
  have hn : mN (nw σ (0, 2)) = mN σ + 1 := rfl
  have hk2 := kO_iff.mp (kO_pt hk b4)
  have hd := (b4.2 (mN σ) (by omega)).2.2
  have hnx := b4.nx
  have hrun : f_X2_init (mN σ) (nw σ (0, 2)) = zrb (mR (sR (nw (nw σ (0, 2)) (1, 100)) (mN σ) 0 (mN (nw σ (0, 2)))) (mN σ) 0) (fun b4 => zcb (f_J7_fill_53178 b4 (-9) (sR (nw (nw σ (0, 2)) (1, 100)) (mN σ) 0 (mN (nw σ (0, 2))))) (fun _ σ6 => some ((), σ6))) := by
    unfold f_X2_init
    rw [al_run hk]
  rw [hrun, b6, zrb_some]
  generalize sR (nw (nw σ (0, 2)) (1, 100)) (mN σ) 0 (mN (nw σ (0, 2))) = τ at *
  obtain ⟨n, K, R, D⟩ := τ
  have hb1 : n = mN σ + 2 := by rw [hn] at b1; exact b1
  obtain ⟨f, e1, e2, e3⟩ := n_fill_loop 100 (mN (nw σ (0, 2))) (-9) (by omega) 100 0 1000 D (by omega) (by omega)
  have e1' : g_J7_fill_53178 100 (mN (nw σ (0, 2))) (-9) D = some (uA D (mN (nw σ (0, 2))) f) := e1
  rw [G_J7_fill_53178 (len := 100) _ _ _ ⟨by omega, b2⟩, e1', Option.map_some, zcb_some]
  refine ⟨(n, K, R, uA D (mN (nw σ (0, 2))) f), rfl, ⟨hnx.1, fun b hb => ⟨(hnx.2 b hb).1, (hnx.2 b hb).2.1, ?_⟩⟩, hb1, ⟨hk2.1, hk2.2, by rw [← hn]; exact b6, by show mN σ + 1 < n; omega, by rw [← hn]; exact b2⟩, ?_, fun j hj => ?_⟩
  · show uA D (mN (nw σ (0, 2))) f b = _
    rw [uA_ne _ _ (by omega)]; exact (hnx.2 b hb).2.2
  · show uA D (mN (nw σ (0, 2))) f (mN σ) 1 = 0
    rw [uA_ne _ _ (by omega)]
    have : D (mN σ) = fun _ => 0 := hd.trans (nw_D σ (0, 2))
    rw [this]
  · show uA D (mN (nw σ (0, 2))) f (mN σ + 1) j = -9
    rw [← hn, uA_same]; exact e2 j (by omega) hj
theorem I_X3 (σ : Mm) : ∃ σ', f_X3_init (mN σ) (nw σ (0, 3)) = some ((), σ') ∧ Nx σ σ' ∧ mN σ' = mN σ + 3 ∧ isX3 (mN σ') (mK σ') (mR σ') (mN σ) := by
  have hk := kO_new σ 3
  have hn : mN (nw σ (0, 3)) = mN σ + 1 := rfl
  obtain ⟨b1, b2, b3, b4, b5, b6⟩ := al_facts (mN σ) 0 (1, 100) (t := nw σ (0, 3)) (Nat.lt_succ_self _)
  have hk1 := kO_pt hk b4
  have hrun : f_X3_init (mN σ) (nw σ (0, 3)) = zlt (nw (sR (nw (nw σ (0, 3)) (1, 100)) (mN σ) 0 (mN (nw σ (0, 3)))) (1, 100)) (fun σ4 => zck (kO σ4 (mN σ) 3) (zlt (sR σ4 (mN σ) 1 (mN (sR (nw (nw σ (0, 3)) (1, 100)) (mN σ) 0 (mN (nw σ (0, 3)))))) (fun σ6 => some ((), σ6)))) := by
    unfold f_X3_init
    rw [al_run hk]
  rw [hrun]
  generalize sR (nw (nw σ (0, 3)) (1, 100)) (mN σ) 0 (mN (nw σ (0, 3))) = τ at *
  rw [al_run hk1]
  obtain ⟨c1, c2, c3, c4, c5, c6⟩ := al_facts (mN σ) 1 (1, 100) (t := τ) (by omega)
  have hp := b4.tr c4
  have hk2 := kO_iff.mp (kO_pt hk hp)
  refine ⟨_, rfl, hp.nx, by omega, ⟨hk2.1, hk2.2, by rw [c5 0 (by decide), b6, hn], by rw [c6, b1, hn], by omega, ?_, by omega, ?_⟩⟩
  · rw [(c4.2 (mN σ + 1) (by omega)).1, ← hn]; exact b2
  · rw [show mN σ + 2 = mN τ by omega]; exact c2
