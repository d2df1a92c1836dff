/-! ===== memory of a run: how many cells; the kind of each cell; its references; its numbers ===== -/
abbrev Mm : Type := Nat × (Nat → Nat × Nat) × (Nat → Nat → Option Nat) × (Nat → Nat → Int32)
def mN (σ : Mm) : Nat := σ.1
def mK (σ : Mm) : Nat → Nat × Nat := σ.2.1
def mR (σ : Mm) : Nat → Nat → Option Nat := σ.2.2.1
def mD (σ : Mm) : Nat → Nat → Int32 := σ.2.2.2
def sA (σ : Mm) (a : Nat) (f : Nat → Int32) : Mm := (σ.1, σ.2.1, σ.2.2.1, fun b => if b = a then f else mD σ b)
def sD (σ : Mm) (a k : Nat) (v : Int32) : Mm := sA σ a (upd (mD σ a) k v)
def sR (σ : Mm) (a k v : Nat) : Mm := (σ.1, σ.2.1, (fun b => if b = a then va_up (mR σ a) k (some v) else mR σ b), σ.2.2.2)
def nw (σ : Mm) (kd : Nat × Nat) : Mm := (σ.1 + 1, (fun b => if b = σ.1 then kd else mK σ b), (fun b => if b = σ.1 then (fun _ => none) else mR σ b), (fun b => if b = σ.1 then (fun _ => 0) else mD σ b))
/-- which fields of a class are references -/
def fT : Nat → List Bool
  | 0 => [true, false, false]
  | 1 => [true, false]
  | 2 => [true, false]
  | 3 => [true, true, false, false, false]
  | 4 => [false, false, false, false]
  | 5 => [true, false, true, false, true, true, true]
  | 6 => [true, false]
  | 7 => [true, true, true, true, true, false, false, true]
  | 8 => [true, true, true, true, true, true, true, true]
  | 9 => [true, true, true, false, false, true, true, true, true, true, true, true, true, true, true, true, true, true, true, true, true, false, true, false, true, false, false, true, false, true, true, true, true, true, true, true, false, false, true, true, true, false, true, true, true, true]
  | _ => []
abbrev GG : Type := Launch × (Nat → ClassId) × (Nat → Nat → Nat) × ClassId × ClassId × ClassId × ClassId × Nat
def gl (g : GG) : Launch := g.1
def gG (g : GG) : va_G := (g.2.1, g.2.2.1)
def gcI (g : GG) : ClassId := g.2.2.2.1
def gcZ (g : GG) : ClassId := g.2.2.2.2.1
def gcP (g : GG) : ClassId := g.2.2.2.2.2.1
def gcS (g : GG) : ClassId := g.2.2.2.2.2.2.1
def gB (g : GG) : Nat := g.2.2.2.2.2.2.2
def rE (g : GG) (σ : Mm) (i k : Nat) : Option Nat := (mR σ i k).map (gB g + ·)
def fV (g : GG) (σ : Mm) (ci i k : Nat) : Value := if (fT ci).getD k false = true then va_rf (rE g σ i k) else .int (mD σ i k)
def fE (g : GG) (σ : Mm) (ci i : Nat) : List Value := (List.range (fT ci).length).map (fV g σ ci i)
def cE (g : GG) (σ : Mm) (i : Nat) : va_E :=
  if (mK σ i).1 = 0 then .inr ((mK σ i).2, fE g σ (mK σ i).2 i)
  else if (mK σ i).1 = 1 then .inl (gcI g, (mK σ i).2, .inl (mD σ i))
  else if (mK σ i).1 = 2 then .inl (gcZ g, (mK σ i).2, .inl (mD σ i))
  else if (mK σ i).1 = 3 then .inl (gcP g, (mK σ i).2, .inr (.inr (.inr (.inr (rE g σ i)))))
  else .inl (gcS g, (mK σ i).2, .inr (.inr (.inr (.inr (rE g σ i)))))
def hw (g : GG) (σ : Mm) : va_W := (List.range (mN σ)).map (fun i => (gB g + i, cE g σ i))
abbrev tysG (g : GG) : List (ClassId × FieldType) := [(gcI g, .int), (gcZ g, .boolean), (gcP g, .object "BorderProofs$Pairs"), (gcS g, .object "BorderProofs$Slot")]
def Rel (g : GG) (σ : Mm) (H : Heap) : Prop := H.size = gB g + mN σ ∧ va_P (gG g) vwCl (hw g σ) H
abbrev aA (g : GG) : Nat → Prop := fun q => gB g ≤ q
theorem hw_get {g : GG} {σ : Mm} {i : Nat} (h : i < mN σ) : (hw g σ)[i]? = some (gB g + i, cE g σ i) := by
  simp [hw, h]
theorem hw_D (g : GG) (σ : Mm) : va_D (aA g) (hw g σ) := by
  refine ⟨fun i j p q hi hj hpq => ?_, fun k q hk => ?_⟩
  · simp only [hw, List.getElem?_map, Option.map_eq_some_iff] at hi hj
    obtain ⟨i', hi', rfl⟩ := hi
    obtain ⟨j', hj', rfl⟩ := hj
    rw [List.getElem?_range (by rcases List.getElem?_eq_some_iff.mp hi' with ⟨h, -⟩; simpa using h)] at hi'
    rw [List.getElem?_range (by rcases List.getElem?_eq_some_iff.mp hj' with ⟨h, -⟩; simpa using h)] at hj'
    cases hi'; cases hj'
    simp only at hpq
    omega
  · simp only [hw, List.getElem?_map, Option.map_eq_some_iff] at hk
    obtain ⟨i', -, rfl⟩ := hk
    exact Nat.le_add_right _ _
theorem hw_set {g : GG} {σ σ' : Mm} {i : Nat} (hn : mN σ' = mN σ) (ho : ∀ j, j ≠ i → cE g σ' j = cE g σ j) : (hw g σ).set i (gB g + i, cE g σ' i) = hw g σ' := by
  apply List.ext_getElem?
  intro j
  rw [List.getElem?_set]
  by_cases hj : i = j
  · subst hj
    by_cases hlt : i < mN σ
    · rw [if_pos rfl, if_pos (by simpa [hw] using hlt), hw_get (by rw [hn]; exact hlt)]
    · rw [if_pos rfl, if_neg (by simpa [hw] using hlt)]
      symm
      rw [List.getElem?_eq_none_iff]
      simp only [hw, List.length_map, List.length_range, hn]
      omega
  · rw [if_neg hj]
    by_cases hlt : j < mN σ
    · rw [hw_get hlt, hw_get (by rw [hn]; exact hlt), ho j (fun h => hj h.symm)]
    · rw [List.getElem?_eq_none (by simp [hw]; omega), List.getElem?_eq_none (by simp [hw, hn]; omega)]
theorem hw_push {g : GG} {σ σ' : Mm} (hn : mN σ' = mN σ + 1) (ho : ∀ j, j < mN σ → cE g σ' j = cE g σ j) : hw g σ ++ [(gB g + mN σ, cE g σ' (mN σ))] = hw g σ' := by
  unfold hw
  rw [hn, List.range_succ, List.map_append]
  congr 1
  exact List.map_congr_left (fun j hj => by rw [ho j (List.mem_range.mp hj)])
/-- the cells of another memory that is the same but for one cell -/
theorem cE_same {g : GG} {σ σ' : Mm} {j : Nat} (hk : mK σ' j = mK σ j) (hr : mR σ' j = mR σ j) (hd : mD σ' j = mD σ j) : cE g σ' j = cE g σ j := by
  have h1 : rE g σ' j = rE g σ j := by funext k; simp [rE, hr]
  have h2 : ∀ ci, fE g σ' ci j = fE g σ ci j := fun ci => by simp [fE, fV, h1, hd]
  unfold cE
  rw [hk, h1, h2, hd]
theorem fE_get {g : GG} {σ : Mm} {ci i k : Nat} (h : k < (fT ci).length) : (fE g σ ci i)[k]? = some (fV g σ ci i k) := by
  simp [fE, h]
theorem fE_len {g : GG} {σ : Mm} {ci i : Nat} : (fE g σ ci i).length = (fT ci).length := by simp [fE]
theorem fE_set {g : GG} {σ σ' : Mm} {ci i k : Nat} (ho : ∀ j, j ≠ k → fV g σ' ci i j = fV g σ ci i j) : (fE g σ ci i).set k (fV g σ' ci i k) = fE g σ' ci i := by
  apply List.ext_getElem?
  intro j
  rw [List.getElem?_set]
  by_cases hj : k = j
  · subst hj
    by_cases hlt : k < (fT ci).length
    · rw [if_pos rfl, if_pos (by rw [fE_len]; exact hlt), fE_get hlt]
    · rw [if_pos rfl, if_neg (by rw [fE_len]; exact hlt), List.getElem?_eq_none (by rw [fE_len]; omega)]
  · rw [if_neg hj]
    by_cases hlt : j < (fT ci).length
    · rw [fE_get hlt, fE_get hlt, ho j (fun h => hj h.symm)]
    · rw [List.getElem?_eq_none (by rw [fE_len]; omega), List.getElem?_eq_none (by rw [fE_len]; omega)]
/-! what the memory's own words say -/
theorem mN_sA (σ : Mm) (a : Nat) (f : Nat → Int32) : mN (sA σ a f) = mN σ := rfl
theorem mK_sA (σ : Mm) (a : Nat) (f : Nat → Int32) : mK (sA σ a f) = mK σ := rfl
theorem mR_sA (σ : Mm) (a : Nat) (f : Nat → Int32) : mR (sA σ a f) = mR σ := rfl
theorem mD_sA (σ : Mm) (a : Nat) (f : Nat → Int32) (b : Nat) : mD (sA σ a f) b = if b = a then f else mD σ b := rfl
theorem mN_sD (σ : Mm) (a k : Nat) (v : Int32) : mN (sD σ a k v) = mN σ := rfl
theorem mK_sD (σ : Mm) (a k : Nat) (v : Int32) : mK (sD σ a k v) = mK σ := rfl
theorem mR_sD (σ : Mm) (a k : Nat) (v : Int32) : mR (sD σ a k v) = mR σ := rfl
theorem mD_sD (σ : Mm) (a k : Nat) (v : Int32) (b : Nat) : mD (sD σ a k v) b = if b = a then upd (mD σ a) k v else mD σ b := rfl
theorem mN_sR (σ : Mm) (a k v : Nat) : mN (sR σ a k v) = mN σ := rfl
theorem mK_sR (σ : Mm) (a k v : Nat) : mK (sR σ a k v) = mK σ := rfl
theorem mD_sR (σ : Mm) (a k v : Nat) : mD (sR σ a k v) = mD σ := rfl
theorem mR_sR (σ : Mm) (a k v b : Nat) : mR (sR σ a k v) b = if b = a then va_up (mR σ a) k (some v) else mR σ b := rfl
theorem mN_nw (σ : Mm) (kd : Nat × Nat) : mN (nw σ kd) = mN σ + 1 := rfl
theorem mK_nw (σ : Mm) (kd : Nat × Nat) (b : Nat) : mK (nw σ kd) b = if b = mN σ then kd else mK σ b := rfl
theorem mR_nw (σ : Mm) (kd : Nat × Nat) (b : Nat) : mR (nw σ kd) b = if b = mN σ then (fun _ => none) else mR σ b := rfl
theorem mD_nw (σ : Mm) (kd : Nat × Nat) (b : Nat) : mD (nw σ kd) b = if b = mN σ then (fun _ => 0) else mD σ b := rfl
/-- the checks of the machine, as numbers that are looked at -/
def kO (σ : Mm) (a ci : Nat) : Bool := decide (a < mN σ) && decide (mK σ a = (0, ci))
def ix (i : Int32) : Nat := i.toNatClampNeg
def kA (σ : Mm) (t a : Nat) (i : Int32) : Bool := decide (a < mN σ) && decide ((mK σ a).1 = t) && decide (¬ i < 0) && decide (ix i < (mK σ a).2)
theorem kO_spec {σ : Mm} {a ci : Nat} (h : kO σ a ci = true) : a < mN σ ∧ mK σ a = (0, ci) := by
  simpa [kO] using h
theorem kA_spec {σ : Mm} {t a : Nat} {i : Int32} (h : kA σ t a i = true) : a < mN σ ∧ (mK σ a).1 = t ∧ vp_in i (mK σ a).2 := by
  simp only [kA, Bool.and_eq_true, decide_eq_true_eq] at h
  obtain ⟨⟨⟨h1, h2⟩, h3⟩, h4⟩ := h
  exact ⟨h1, h2, fun q => q.elim h3 (fun q => by unfold ix at h4; omega)⟩
theorem cE_obj {g : GG} {σ : Mm} {a ci : Nat} (h : mK σ a = (0, ci)) : cE g σ a = .inr (ci, fE g σ ci a) := by simp [cE, h]
theorem cE_int {g : GG} {σ : Mm} {a : Nat} (h : (mK σ a).1 = 1) : cE g σ a = .inl (gcI g, (mK σ a).2, .inl (mD σ a)) := by simp [cE, h]
theorem cE_boo {g : GG} {σ : Mm} {a : Nat} (h : (mK σ a).1 = 2) : cE g σ a = .inl (gcZ g, (mK σ a).2, .inl (mD σ a)) := by simp [cE, h]
theorem cE_prs {g : GG} {σ : Mm} {a : Nat} (h : (mK σ a).1 = 3) : cE g σ a = .inl (gcP g, (mK σ a).2, .inr (.inr (.inr (.inr (rE g σ a))))) := by simp [cE, h]
theorem cE_slt {g : GG} {σ : Mm} {a : Nat} (h : (mK σ a).1 = 4) : cE g σ a = .inl (gcS g, (mK σ a).2, .inr (.inr (.inr (.inr (rE g σ a))))) := by simp [cE, h]
