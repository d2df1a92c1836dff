/-! ===== a memory that has grown ===== -/
def Ext (n : Nat) (K : Nat → Nat × Nat) (R : Nat → Nat → Option Nat) (n' : Nat) (K' : Nat → Nat × Nat) (R' : Nat → Nat → Option Nat) : Prop := n ≤ n' ∧ (∀ b, b < n → K' b = K b) ∧ ∀ b, b < n → R' b = R b
theorem ext_X2 {n : Nat} {K : Nat → Nat × Nat} {R : Nat → Nat → Option Nat} {n' : Nat} {K' : Nat → Nat × Nat} {R' : Nat → Nat → Option Nat} {a : Nat} (hE : Ext n K R n' K' R') (h : isX2 n K R a) : isX2 n' K' R' a := by
  obtain ⟨p0, p1, p2, p3, p4⟩ := h
  exact ⟨Nat.lt_of_lt_of_le p0 hE.1, (hE.2.1 _ p0).trans p1, (congrFun (hE.2.2 _ p0) _).trans p2, Nat.lt_of_lt_of_le p3 hE.1, (hE.2.1 _ p3).trans p4⟩
theorem ext_X1 {n : Nat} {K : Nat → Nat × Nat} {R : Nat → Nat → Option Nat} {n' : Nat} {K' : Nat → Nat × Nat} {R' : Nat → Nat → Option Nat} {a : Nat} (hE : Ext n K R n' K' R') (h : isX1 n K R a) : isX1 n' K' R' a := by
  obtain ⟨p0, p1, p2, p3, p4⟩ := h
  exact ⟨Nat.lt_of_lt_of_le p0 hE.1, (hE.2.1 _ p0).trans p1, (congrFun (hE.2.2 _ p0) _).trans p2, Nat.lt_of_lt_of_le p3 hE.1, (hE.2.1 _ p3).trans p4⟩
theorem ext_X3 {n : Nat} {K : Nat → Nat × Nat} {R : Nat → Nat → Option Nat} {n' : Nat} {K' : Nat → Nat × Nat} {R' : Nat → Nat → Option Nat} {a : Nat} (hE : Ext n K R n' K' R') (h : isX3 n K R a) : isX3 n' K' R' a := by
  obtain ⟨p0, p1, p2, p3, p4, p5, p6, p7⟩ := h
  exact ⟨Nat.lt_of_lt_of_le p0 hE.1, (hE.2.1 _ p0).trans p1, (congrFun (hE.2.2 _ p0) _).trans p2, (congrFun (hE.2.2 _ p0) _).trans p3, Nat.lt_of_lt_of_le p4 hE.1, (hE.2.1 _ p4).trans p5, Nat.lt_of_lt_of_le p6 hE.1, (hE.2.1 _ p6).trans p7⟩
theorem ext_X7 {n : Nat} {K : Nat → Nat × Nat} {R : Nat → Nat → Option Nat} {n' : Nat} {K' : Nat → Nat × Nat} {R' : Nat → Nat → Option Nat} {a : Nat} (hE : Ext n K R n' K' R') (h : isX7 n K R a) : isX7 n' K' R' a := by
  obtain ⟨p0, p1, p2, p3, p4, p5, p6, p7, p8, p9, p10, p11, p12, p13, p14, p15, p16, p17, p18⟩ := h
  exact ⟨Nat.lt_of_lt_of_le p0 hE.1, (hE.2.1 _ p0).trans p1, (congrFun (hE.2.2 _ p0) _).trans p2, (congrFun (hE.2.2 _ p0) _).trans p3, (congrFun (hE.2.2 _ p0) _).trans p4, (congrFun (hE.2.2 _ p0) _).trans p5, (congrFun (hE.2.2 _ p0) _).trans p6, (congrFun (hE.2.2 _ p0) _).trans p7, Nat.lt_of_lt_of_le p8 hE.1, (hE.2.1 _ p8).trans p9, Nat.lt_of_lt_of_le p10 hE.1, (hE.2.1 _ p10).trans p11, Nat.lt_of_lt_of_le p12 hE.1, (hE.2.1 _ p12).trans p13, Nat.lt_of_lt_of_le p14 hE.1, (hE.2.1 _ p14).trans p15, Nat.lt_of_lt_of_le p16 hE.1, (hE.2.1 _ p16).trans p17, ext_X3 hE p18⟩
theorem ext_X6 {n : Nat} {K : Nat → Nat × Nat} {R : Nat → Nat → Option Nat} {n' : Nat} {K' : Nat → Nat × Nat} {R' : Nat → Nat → Option Nat} {a : Nat} (hE : Ext n K R n' K' R') (h : isX6 n K R a) : isX6 n' K' R' a := by
  obtain ⟨p0, p1, p2, p3⟩ := h
  exact ⟨Nat.lt_of_lt_of_le p0 hE.1, (hE.2.1 _ p0).trans p1, (congrFun (hE.2.2 _ p0) _).trans p2, ext_X2 hE p3⟩
theorem ext_X0 {n : Nat} {K : Nat → Nat × Nat} {R : Nat → Nat → Option Nat} {n' : Nat} {K' : Nat → Nat × Nat} {R' : Nat → Nat → Option Nat} {a : Nat} (hE : Ext n K R n' K' R') (h : isX0 n K R a) : isX0 n' K' R' a := by
  obtain ⟨p0, p1, p2, p3, p4, q⟩ := h
  exact ⟨Nat.lt_of_lt_of_le p0 hE.1, (hE.2.1 _ p0).trans p1, (congrFun (hE.2.2 _ p0) _).trans p2, Nat.lt_of_lt_of_le p3 hE.1, (hE.2.1 _ p3).trans p4, fun j hj => ⟨(congrFun (hE.2.2 _ p3) _).trans (q j hj).1, ext_X2 hE (q j hj).2⟩⟩
theorem ext_X5 {n : Nat} {K : Nat → Nat × Nat} {R : Nat → Nat → Option Nat} {n' : Nat} {K' : Nat → Nat × Nat} {R' : Nat → Nat → Option Nat} {a : Nat} (hE : Ext n K R n' K' R') (h : isX5 n K R a) : isX5 n' K' R' a := by
  obtain ⟨p0, p1, p2, p3, p4, p5, p6, p7, p8, p9, p10, p11, p12⟩ := h
  exact ⟨Nat.lt_of_lt_of_le p0 hE.1, (hE.2.1 _ p0).trans p1, (congrFun (hE.2.2 _ p0) _).trans p2, (congrFun (hE.2.2 _ p0) _).trans p3, (congrFun (hE.2.2 _ p0) _).trans p4, (congrFun (hE.2.2 _ p0) _).trans p5, (congrFun (hE.2.2 _ p0) _).trans p6, Nat.lt_of_lt_of_le p7 hE.1, (hE.2.1 _ p7).trans p8, ext_X1 hE p9, ext_X2 hE p10, ext_X7 hE p11, ext_X3 hE p12⟩
theorem ext_X8 {n : Nat} {K : Nat → Nat × Nat} {R : Nat → Nat → Option Nat} {n' : Nat} {K' : Nat → Nat × Nat} {R' : Nat → Nat → Option Nat} {a : Nat} (hE : Ext n K R n' K' R') (h : isX8 n K R a) : isX8 n' K' R' a := by
  obtain ⟨p0, p1, p2, p3, p4, p5, p6, p7, p8, p9, p10, p11, p12, p13, p14, p15, p16, p17, p18, q⟩ := h
  exact ⟨Nat.lt_of_lt_of_le p0 hE.1, (hE.2.1 _ p0).trans p1, (congrFun (hE.2.2 _ p0) _).trans p2, (congrFun (hE.2.2 _ p0) _).trans p3, (congrFun (hE.2.2 _ p0) _).trans p4, (congrFun (hE.2.2 _ p0) _).trans p5, (congrFun (hE.2.2 _ p0) _).trans p6, (congrFun (hE.2.2 _ p0) _).trans p7, (congrFun (hE.2.2 _ p0) _).trans p8, (congrFun (hE.2.2 _ p0) _).trans p9, ext_X2 hE p10, ext_X7 hE p11, ext_X0 hE p12, ext_X5 hE p13, ext_X2 hE p14, ext_X7 hE p15, ext_X1 hE p16, Nat.lt_of_lt_of_le p17 hE.1, (hE.2.1 _ p17).trans p18, fun j hj => ⟨(congrFun (hE.2.2 _ p17) _).trans (q j hj).1, ext_X6 hE (q j hj).2⟩⟩
theorem ext_X9 {n : Nat} {K : Nat → Nat × Nat} {R : Nat → Nat → Option Nat} {n' : Nat} {K' : Nat → Nat × Nat} {R' : Nat → Nat → Option Nat} {a : Nat} (hE : Ext n K R n' K' R') (h : isX9 n K R a) : isX9 n' K' R' a := by
  obtain ⟨p0, p1, p2, p3, p4, p5, p6, p7, p8, p9, p10, p11, p12, p13, p14, p15, p16, p17, p18, p19, p20, p21, p22, p23, p24, p25, p26, p27, p28, p29, p30, p31, p32, p33, p34, p35, p36, p37, p38, p39, p40, p41, p42, p43, p44, p45, p46, p47, p48, p49, p50, p51, p52, p53, p54, p55, p56, p57, p58, p59, p60, p61, p62, p63, p64, p65, p66, p67, p68, p69, p70, p71, p72, p73, p74, p75, p76, p77, p78, p79, p80, p81, p82, p83, p84, p85, p86, p87, p88, p89, p90, p91, p92, p93, p94, p95, p96, p97, p98, p99, p100, p101, p102, p103, p104, p105, p106, p107, p108, p109⟩ := h
  exact ⟨Nat.lt_of_lt_of_le p0 hE.1, (hE.2.1 _ p0).trans p1, (congrFun (hE.2.2 _ p0) _).trans p2, (congrFun (hE.2.2 _ p0) _).trans p3, (congrFun (hE.2.2 _ p0) _).trans p4, (congrFun (hE.2.2 _ p0) _).trans p5, (congrFun (hE.2.2 _ p0) _).trans p6, (congrFun (hE.2.2 _ p0) _).trans p7, (congrFun (hE.2.2 _ p0) _).trans p8, (congrFun (hE.2.2 _ p0) _).trans p9, (congrFun (hE.2.2 _ p0) _).trans p10, (congrFun (hE.2.2 _ p0) _).trans p11, (congrFun (hE.2.2 _ p0) _).trans p12, (congrFun (hE.2.2 _ p0) _).trans p13, (congrFun (hE.2.2 _ p0) _).trans p14, (congrFun (hE.2.2 _ p0) _).trans p15, (congrFun (hE.2.2 _ p0) _).trans p16, (congrFun (hE.2.2 _ p0) _).trans p17, (congrFun (hE.2.2 _ p0) _).trans p18, (congrFun (hE.2.2 _ p0) _).trans p19, (congrFun (hE.2.2 _ p0) _).trans p20, (congrFun (hE.2.2 _ p0) _).trans p21, (congrFun (hE.2.2 _ p0) _).trans p22, (congrFun (hE.2.2 _ p0) _).trans p23, (congrFun (hE.2.2 _ p0) _).trans p24, (congrFun (hE.2.2 _ p0) _).trans p25, (congrFun (hE.2.2 _ p0) _).trans p26, (congrFun (hE.2.2 _ p0) _).trans p27, (congrFun (hE.2.2 _ p0) _).trans p28, (congrFun (hE.2.2 _ p0) _).trans p29, (congrFun (hE.2.2 _ p0) _).trans p30, (congrFun (hE.2.2 _ p0) _).trans p31, (congrFun (hE.2.2 _ p0) _).trans p32, (congrFun (hE.2.2 _ p0) _).trans p33, (congrFun (hE.2.2 _ p0) _).trans p34, (congrFun (hE.2.2 _ p0) _).trans p35, (congrFun (hE.2.2 _ p0) _).trans p36, (congrFun (hE.2.2 _ p0) _).trans p37, Nat.lt_of_lt_of_le p38 hE.1, (hE.2.1 _ p38).trans p39, Nat.lt_of_lt_of_le p40 hE.1, (hE.2.1 _ p40).trans p41, Nat.lt_of_lt_of_le p42 hE.1, (hE.2.1 _ p42).trans p43, Nat.lt_of_lt_of_le p44 hE.1, (hE.2.1 _ p44).trans p45, Nat.lt_of_lt_of_le p46 hE.1, (hE.2.1 _ p46).trans p47, Nat.lt_of_lt_of_le p48 hE.1, (hE.2.1 _ p48).trans p49, Nat.lt_of_lt_of_le p50 hE.1, (hE.2.1 _ p50).trans p51, Nat.lt_of_lt_of_le p52 hE.1, (hE.2.1 _ p52).trans p53, Nat.lt_of_lt_of_le p54 hE.1, (hE.2.1 _ p54).trans p55, Nat.lt_of_lt_of_le p56 hE.1, (hE.2.1 _ p56).trans p57, Nat.lt_of_lt_of_le p58 hE.1, (hE.2.1 _ p58).trans p59, Nat.lt_of_lt_of_le p60 hE.1, (hE.2.1 _ p60).trans p61, Nat.lt_of_lt_of_le p62 hE.1, (hE.2.1 _ p62).trans p63, Nat.lt_of_lt_of_le p64 hE.1, (hE.2.1 _ p64).trans p65, Nat.lt_of_lt_of_le p66 hE.1, (hE.2.1 _ p66).trans p67, Nat.lt_of_lt_of_le p68 hE.1, (hE.2.1 _ p68).trans p69, Nat.lt_of_lt_of_le p70 hE.1, (hE.2.1 _ p70).trans p71, Nat.lt_of_lt_of_le p72 hE.1, (hE.2.1 _ p72).trans p73, Nat.lt_of_lt_of_le p74 hE.1, (hE.2.1 _ p74).trans p75, Nat.lt_of_lt_of_le p76 hE.1, (hE.2.1 _ p76).trans p77, Nat.lt_of_lt_of_le p78 hE.1, (hE.2.1 _ p78).trans p79, Nat.lt_of_lt_of_le p80 hE.1, (hE.2.1 _ p80).trans p81, Nat.lt_of_lt_of_le p82 hE.1, (hE.2.1 _ p82).trans p83, Nat.lt_of_lt_of_le p84 hE.1, (hE.2.1 _ p84).trans p85, Nat.lt_of_lt_of_le p86 hE.1, (hE.2.1 _ p86).trans p87, Nat.lt_of_lt_of_le p88 hE.1, (hE.2.1 _ p88).trans p89, Nat.lt_of_lt_of_le p90 hE.1, (hE.2.1 _ p90).trans p91, Nat.lt_of_lt_of_le p92 hE.1, (hE.2.1 _ p92).trans p93, Nat.lt_of_lt_of_le p94 hE.1, (hE.2.1 _ p94).trans p95, Nat.lt_of_lt_of_le p96 hE.1, (hE.2.1 _ p96).trans p97, Nat.lt_of_lt_of_le p98 hE.1, (hE.2.1 _ p98).trans p99, Nat.lt_of_lt_of_le p100 hE.1, (hE.2.1 _ p100).trans p101, Nat.lt_of_lt_of_le p102 hE.1, (hE.2.1 _ p102).trans p103, Nat.lt_of_lt_of_le p104 hE.1, (hE.2.1 _ p104).trans p105, Nat.lt_of_lt_of_le p106 hE.1, (hE.2.1 _ p106).trans p107, Nat.lt_of_lt_of_le p108 hE.1, (hE.2.1 _ p108).trans p109⟩
def Sh (n : Nat) (K : Nat → Nat × Nat) (R : Nat → Nat → Option Nat) : Prop := isX8 n K R 0 ∧ isX9 n K R 80 ∧ 117 ≤ n
theorem Sh.ext {n : Nat} {K : Nat → Nat × Nat} {R : Nat → Nat → Option Nat} {n' : Nat} {K' : Nat → Nat × Nat} {R' : Nat → Nat → Option Nat} (h : Sh n K R) (hE : Ext n K R n' K' R') : Sh n' K' R' := ⟨ext_X8 hE h.1, ext_X9 hE h.2.1, by have := h.2.2; have := hE.1; omega⟩
theorem Ext.rf {n : Nat} {K : Nat → Nat × Nat} {R : Nat → Nat → Option Nat} : Ext n K R n K R := ⟨Nat.le_refl _, fun _ _ => rfl, fun _ _ => rfl⟩
theorem Ext.tr {n n' n'' : Nat} {K K' K'' : Nat → Nat × Nat} {R R' R'' : Nat → Nat → Option Nat} (h1 : Ext n K R n' K' R') (h2 : Ext n' K' R' n'' K'' R'') : Ext n K R n'' K'' R'' := by
  have := h1.1
  exact ⟨Nat.le_trans h1.1 h2.1, fun b hb => (h2.2.1 b (by omega)).trans (h1.2.1 b hb), fun b hb => (h2.2.2 b (by omega)).trans (h1.2.2 b hb)⟩
theorem St.congr {D D' : DD} (h : St D) (hc : ∀ c, c ≤ 116 → D' c = D c) : St D' := by
  obtain ⟨f, us, sl, xs, tr, fm, hC, hM, hA⟩ := h
  exact ⟨f, us, sl, xs, tr, fm, hC.congr (fun c h => hc c (by omega)), hM.congr (fun c _ h => hc c h), hA⟩
def Good (σ : Mm) : Prop := ∃ (n : Nat) (K : Nat → Nat × Nat) (R : Nat → Nat → Option Nat) (D : DD), σ = (n, K, R, D) ∧ Sh n K R ∧ St D
/-- class and reference answer alike, and stay alike -/
def OpOk (fc fm : Mm → Option (Int32 × Mm)) : Prop := ∀ σ, Good σ → ∃ (r : Int32) (σ1 σ2 : Mm), fc σ = some (r, σ1) ∧ kO σ1 80 9 = true ∧ fm σ1 = some (r, σ2) ∧ Good σ2
theorem ok_SS {fc fm : Mm → Option (Int32 × Mm)} {gc gm : DD → Option (Int32 × DD)} (hc : ∀ n K R D, Sh n K R → fc ((n, K, R, D) : Mm) = (gc D).map (lS n K R)) (hm : ∀ n K R D, Sh n K R → fm ((n, K, R, D) : Mm) = (gm D).map (lS n K R)) (ho : ∀ D, St D → ∃ (r : Int32) (D1 D2 : DD), gc D = some (r, D1) ∧ gm D1 = some (r, D2) ∧ St D2) : OpOk fc fm := by
  rintro σ ⟨n, K, R, D, rfl, hS, hD⟩
  obtain ⟨r, D1, D2, e1, e2, e3⟩ := ho D hD
  exact ⟨r, (n, K, R, D1), (n, K, R, D2), by rw [hc n K R D hS, e1]; rfl, X9_o hS.2.1, by rw [hm n K R D1 hS, e2]; rfl, n, K, R, D2, rfl, hS, e3⟩
theorem ok_PS {fc fm : Mm → Option (Int32 × Mm)} {gc : DD → Option Int32} {gm : DD → Option (Int32 × DD)} (hc : ∀ n K R D, Sh n K R → fc ((n, K, R, D) : Mm) = (gc D).map (lP n K R D)) (hm : ∀ n K R D, Sh n K R → fm ((n, K, R, D) : Mm) = (gm D).map (lS n K R)) (ho : ∀ D, St D → ∃ (r : Int32) (D2 : DD), gc D = some r ∧ gm D = some (r, D2) ∧ St D2) : OpOk fc fm := by
  rintro σ ⟨n, K, R, D, rfl, hS, hD⟩
  obtain ⟨r, D2, e1, e2, e3⟩ := ho D hD
  exact ⟨r, (n, K, R, D), (n, K, R, D2), by rw [hc n K R D hS, e1]; rfl, X9_o hS.2.1, by rw [hm n K R D hS, e2]; rfl, n, K, R, D2, rfl, hS, e3⟩
theorem ok_PP {fc fm : Mm → Option (Int32 × Mm)} {gc gm : DD → Option Int32} (hc : ∀ n K R D, Sh n K R → fc ((n, K, R, D) : Mm) = (gc D).map (lP n K R D)) (hm : ∀ n K R D, Sh n K R → fm ((n, K, R, D) : Mm) = (gm D).map (lP n K R D)) (ho : ∀ D, St D → ∃ r : Int32, gc D = some r ∧ gm D = some r) : OpOk fc fm := by
  rintro σ ⟨n, K, R, D, rfl, hS, hD⟩
  obtain ⟨r, e1, e2⟩ := ho D hD
  exact ⟨r, (n, K, R, D), (n, K, R, D), by rw [hc n K R D hS, e1]; rfl, X9_o hS.2.1, by rw [hm n K R D hS, e2]; rfl, n, K, R, D, rfl, hS, hD⟩
theorem zcb_some {α β : Type} (r : α) (σ : Mm) (f : α → Mm → Option β) : zcb (some (r, σ)) f = f r σ := rfl
theorem zrb_some {β : Type} (b : Nat) (f : Nat → Option β) : zrb (some b) f = f b := rfl
theorem zlt_eq {β : Type} (x : Mm) (f : Mm → Option β) : zlt x f = f x := rfl
/-! the place of a key, as an object of its own -/
theorem n_place84 {n : Nat} {K : Nat → Nat × Nat} {R : Nat → Nat → Option Nat} {D : DD} (v2 v3 v4 v5 : Int32) : ∃ (K' : Nat → Nat × Nat) (R' : Nat → Nat → Option Nat) (D' : DD), f_X7_placeOf_84 v2 v3 v4 v5 ((n, K, R, D) : Mm) = some (n, ((n + 1, K', R', D') : Mm)) ∧ Ext n K R (n + 1) K' R' ∧ K' n = (0, 4) ∧ D' n 0 = v2 ∧ D' n 1 = v3 ∧ D' n 2 = v4 ∧ D' n 3 = v5 ∧ ∀ b, b ≠ n → D' b = D b := by
  have hk : ∀ E : DD, kO ((n + 1, (fun b => if b = n then ((0, 4) : Nat × Nat) else K b), (fun b => if b = n then (fun _ => none) else R b), E) : Mm) n 4 = true := fun E => by simp [kO, mN, mK]
  refine ⟨fun b => if b = n then (0, 4) else K b, fun b => if b = n then (fun _ => none) else R b, u2 (u2 (u2 (u2 (fun b => if b = n then (fun _ => 0) else D b) n 0 v2) n 1 v3) n 2 v4) n 3 v5, ?_, ⟨by omega, fun b hb => if_neg (by omega), fun b hb => if_neg (by omega)⟩, if_pos rfl, ?_, ?_, ?_, ?_, fun b hb => ?_⟩
  · unfold f_X7_placeOf_84 f_X4_init
    rw [zlt_eq]
    show zcb (zck (kO ((n + 1, (fun b => if b = n then ((0, 4) : Nat × Nat) else K b), (fun b => if b = n then (fun _ => none) else R b), (fun b => if b = n then (fun _ => 0) else D b)) : Mm) n 4) _) _ = _
    rw [zck_t (hk _)]
    rfl
  · simp [u2, uA, upd]
  · simp [u2, uA, upd]
  · simp [u2, uA, upd]
  · simp [u2, uA, upd]
  · rw [u2_ne _ _ hb, u2_ne _ _ hb, u2_ne _ _ hb, u2_ne _ _ hb]; exact if_neg hb
theorem n_place {f h : Nat → Int32} {t x n : Nat} {K : Nat → Nat × Nat} {R : Nat → Nat → Option Nat} {D : DD} (hS : isX7 n K R t) (hT : TrOk f h (D (t + 1)) (D (t + 2)) (D (t + 3))) (hr : D t 6 = oI (bs f 0 100)) (hx : x < 100) : f_X7_placeOf t (nI x) ((n, K, R, D) : Mm) = f_X7_placeOf_84 (nI (pl f x).2.2.1) (oI (pl f x).2.2.2) (nI (pl f x).1) (nI (pl f x).2.1 - 1) ((n, K, R, D) : Mm) := by
  have loop : ∀ (d lo hi dep tm fu : Nat) (p : Option Nat), hi - lo ≤ d → tm + d ≤ 100 → d < fu → Bd f lo hi → f_X7_placeOf_21 fu t (nI x) (nI dep) (oI p) (nI lo) (nI hi - 1) (oI (bs f lo hi)) (nI tm) ((n, K, R, D) : Mm) = f_X7_placeOf_84 (nI (wk f x lo hi dep p).2.2.1) (oI (wk f x lo hi dep p).2.2.2) (nI (wk f x lo hi dep p).1) (nI (wk f x lo hi dep p).2.1 - 1) ((n, K, R, D) : Mm) := by
    intro d
    induction d with
    | zero =>
      intro lo hi dep tm fu p h1 h2 h3 hB
      obtain ⟨fu, rfl⟩ : ∃ q, fu = q + 1 := ⟨fu - 1, by omega⟩
      have e : bs f lo hi = none := bs_none_of (fun j a b => by omega)
      rw [f_X7_placeOf_21, e, wk_none e, show oI none = -9 from rfl, G_X8_isNumber, n_isNumber9]
      split
      · rfl
      · rfl
    | succ d ih =>
      intro lo hi dep tm fu p h1 h2 h3 hB
      obtain ⟨fu, rfl⟩ : ∃ q, fu = q + 1 := ⟨fu - 1, by omega⟩
      rw [f_X7_placeOf_21, if_neg (nI_100 (by omega)), G_X8_isNumber]
      cases e : bs f lo hi with
      | none =>
        rw [wk_none e, show oI none = -9 from rfl, n_isNumber9]
        rfl
      | some b =>
        obtain ⟨a1, a2, -, -⟩ := bs_some e
        have hb : b < 100 := by have := hB.2.1; omega
        rw [wk_some e, show oI (some b) = nI b from rfl, n_isNumber hb, Option.map_some, zcb_some, if_neg one_ne0]
        by_cases c1 : x = b
        · subst c1
          rw [if_pos rfl, if_pos rfl]
        · rw [if_neg (fun q => c1 ((nI_eq (by omega) (by omega)).mp q).symm), if_neg c1]
          unfold f_X7_placeOf_69
          rw [zck_t (X7_o hS), zck_t (X7_o hS), G_X7_childTowards _ _ _ _ hS, n_child hT hB e hx, Option.map_some, zcb_some, zcb_some, if_neg c1, nI_1, nI_1, nI_1]
          by_cases c2 : x < b
          · rw [if_neg (nI_ge c2 (by omega)), if_pos c2, if_pos c2]
            exact ih lo b (dep + 1) (tm + 1) fu (some b) (by omega) (by omega) (by omega) (Bd_left hB e)
          · rw [if_pos (nI_le (by omega) (by omega)), if_neg c2, if_neg c2]
            exact ih (b + 1) hi (dep + 1) (tm + 1) fu (some b) (by omega) (by omega) (by omega) (Bd_right hB e)
  have := loop 100 0 100 0 0 1000 none (by omega) (by omega) (by omega) (Bd_top f)
  unfold f_X7_placeOf
  rw [zck_t (X7_o hS)]
  show f_X7_placeOf_21 1000 t (nI x) 0 (-9) 0 99 (D t 6) 0 _ = _
  rw [hr]
  exact this
