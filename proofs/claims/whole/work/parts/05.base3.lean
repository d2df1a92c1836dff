/-! ===== fields, arrays, makings, ends: rows over the memory ===== -/
def kL (σ : Mm) (a : Nat) : Bool := decide (a < mN σ) && decide ((mK σ a).1 = 1)
section ROWS
variable {p : Program} {e : Env} {rm : Room} {s : State} {m : MethodId} {args : Array Value} {below : List Frame} {meth : Method} {c : Code} {H : Heap} {locs : List Loc} {cells slots : Nat} {Q : State → Prop} {g : GG} {own : String} {cc : ByteArray} {maxL : Nat} {ret : Option FieldType} {ini : Bool} {σ : Mm} {ls : Array Slot} {pc : Nat} {rest : List Value} {lv : List (Nat × Value)}
variable {idx a ci k : Nat} {C : String} {T : u_T} {N : Nat} {ty : Nat → FieldType}
theorem x_get (E : En g own cc maxL ret ini p s m args meth c) (hR : Rel g σ H) (hk : kO σ a ci = true) (hok : ClsOk ci C T N ty) (k : Nat) (hkN : k < N) (hlk : Cond.fieldLink own idx (T k).1 (T k).2.1 (T k).2.2.1 ∈ bigG) (hdg : decode cc pc = .ok (.getfield idx, 3))
    (kk : W p (gl g) e rm s m args below meth c H locs cells slots Q (F0 m (pc + 3) ls (fV g σ ci a k :: rest))) : W p (gl g) e rm s m args below meth c H locs cells slots Q (F0 m pc ls (.ref (gB g + a) :: rest)) := by
  obtain ⟨hx, hb, hml, hr, hlocks, hown, hts, hin, hT⟩ := id E
  obtain ⟨ha, hkk⟩ := kO_spec hk
  exact va_get hx hb hts hok.2.1 hown hT.1 hR.2 a (by rw [hw_get ha, cE_obj hkk]) hok.1 k hkN (hts _ hlk) (fun x h => h) (fE_get (by rw [hok.2.2.2.2]; exact hkN)) hdg kk
theorem x_getI (E : En g own cc maxL ret ini p s m args meth c) (hR : Rel g σ H) (hk : kO σ a ci = true) (hok : ClsOk ci C T N ty) (k : Nat) (hkN : k < N) (hf : (fT ci).getD k false = false) (hlk : Cond.fieldLink own idx (T k).1 (T k).2.1 (T k).2.2.1 ∈ bigG) (hdg : decode cc pc = .ok (.getfield idx, 3))
    (kk : W p (gl g) e rm s m args below meth c H locs cells slots Q (F0 m (pc + 3) ls (.int (mD σ a k) :: rest))) : W p (gl g) e rm s m args below meth c H locs cells slots Q (F0 m pc ls (.ref (gB g + a) :: rest)) :=
  x_get E hR hk hok k hkN hlk hdg (by rw [show fV g σ ci a k = .int (mD σ a k) by unfold fV; rw [if_neg (by rw [hf]; decide)]]; exact kk)
theorem x_getR {b : Nat} (E : En g own cc maxL ret ini p s m args meth c) (hR : Rel g σ H) (hk : kO σ a ci = true) (hr : mR σ a k = some b) (hok : ClsOk ci C T N ty) (hkN : k < N) (hf : (fT ci).getD k false = true) (hlk : Cond.fieldLink own idx (T k).1 (T k).2.1 (T k).2.2.1 ∈ bigG) (hdg : decode cc pc = .ok (.getfield idx, 3))
    (kk : W p (gl g) e rm s m args below meth c H locs cells slots Q (F0 m (pc + 3) ls (.ref (gB g + b) :: rest))) : W p (gl g) e rm s m args below meth c H locs cells slots Q (F0 m pc ls (.ref (gB g + a) :: rest)) :=
  x_get E hR hk hok k hkN hlk hdg (by rw [show fV g σ ci a k = .ref (gB g + b) by unfold fV; rw [if_pos hf, rE, hr]; rfl]; exact kk)
/-- a store into a field: the memory behind it is σ' -/
theorem x_put {σ' : Mm} {v : Value} (E : En g own cc maxL ret ini p s m args meth c) (hR : Rel g σ H) (hS : va_S (aA g) s.heap H locs) (hk : kO σ a ci = true) (hok : ClsOk ci C T N ty) (k : Nat) (hkN : k < N) (hlk : Cond.fieldLink own idx (T k).1 (T k).2.1 (T k).2.2.1 ∈ bigG)
    (hfin : (T k).2.2.2 = false ∨ ((T k).2.2.2 = true ∧ ini = true ∧ (T k).1 = own)) (hn : narrow (ty k) v = v) (hfit : fits (ty k) v = true)
    (hv : fV g σ' ci a k = v) (hN : mN σ' = mN σ) (hK : mK σ' = mK σ) (ho : ∀ j, j ≠ a → mR σ' j = mR σ j ∧ mD σ' j = mD σ j) (hof : ∀ j, j ≠ k → fV g σ' ci a j = fV g σ ci a j) (hdg : decode cc pc = .ok (.putfield idx, 3))
    (kk : ∀ (H1 : Heap) (locs1 : List Loc), Rel g σ' H1 → va_S (aA g) s.heap H1 locs1 → W p (gl g) e rm s m args below meth c H1 locs1 cells slots Q (F0 m (pc + 3) ls rest)) : W p (gl g) e rm s m args below meth c H locs cells slots Q (F0 m pc ls (v :: .ref (gB g + a) :: rest)) := by
  obtain ⟨hx, hb, hml, hr, hlocks, hown, hts, hin, hT⟩ := id E
  obtain ⟨ha, hkk⟩ := kO_spec hk
  obtain ⟨hc, hinw, hty, hnm, hlen⟩ := id hok
  have he : (hw g σ)[a]? = some (gB g + a, .inr (ci, fE g σ ci a)) := by rw [hw_get ha, cE_obj hkk]
  have hset : (hw g σ).set a (gB g + a, .inr (ci, (fE g σ ci a).set k v)) = hw g σ' := by
    rw [← hv, fE_set hof, ← cE_obj (σ := σ') (by rw [hK]; exact hkk)]
    exact hw_set hN (fun j hj => cE_same (by rw [hK]) (ho j hj).1 (ho j hj).2)
  have hap := va_apart (own := own) hts hinw ty hty hnm hT.1 hc
  obtain ⟨r, h1, cell, q1, q2, q3, q4⟩ := hR.2 a _ he
  have hrr : r = (C, T, N) := Option.some.inj (h1.symm.trans hc)
  subst hrr
  obtain ⟨hSl, hfc, kC, hkC, hkind⟩ := hT.1.1 ci _ hc
  obtain ⟨cf, kf, fi, f, hi, hsl⟩ := hSl k hkN
  have hst := (u_facts hfc hkC (u_lays hts hinw hkN) hi).1
  have fin : ∀ (H' : Heap), H'[gB g + a]? = some (cell.setSlot f.slot v) → H'.size = H.size → (∀ q, q ≠ gB g + a → H'[q]? = H[q]?) → W p (gl g) e rm s m args below meth c H' (locs ++ [⟨gB g + a, f.slot⟩]) cells slots Q (F0 m (pc + 3) ls rest) := by
    intro H' e1 e2 e3
    rw [hsl] at e1
    have hPs : va_P (gG g) vwCl ((hw g σ).set a (gB g + a, .inr (ci, (fE g σ ci a).set k v))) H' :=
      hR.2.set (hw_D g σ) he ⟨_, hc, t_OB.to (V := updV (vp_V (fE g σ ci a)) k v) ⟨_, e1, q2, q3, t_set q4 hap hkN v⟩ (fun j _ => vp_updV_set (by rw [fE_len, hlen]; exact hkN) v j)⟩ e3
    rw [hset] at hPs
    exact kk H' _ ⟨by rw [e2, hR.1, hN], hPs⟩ (hS.put e2 e3 (Nat.le_add_right _ _))
  have hlay := hts _ (hinw _ (u_in_lay hkN))
  unfold u_lay at hlay
  rcases hfin with hfin | ⟨hfin, hini, hdecl⟩
  · rw [if_neg (by rw [hfin]; decide)] at hlay
    have h6 := u_store hfc hkC hkind hlay hi (hty k hkN) hn hfit
    exact W.putK hx hb (f := f) ⟨hown, hts _ hlk, ⟨_, _, _, hi⟩, hst⟩ (by rw [q2]; exact h6) q1 q3 (by rw [hsl]; exact k2_hasslot (q4 k hkN)) rfl rfl hdg fin
  · rw [if_pos hfin] at hlay
    have hcf : m.cls = cf := by
      obtain ⟨_, _, c', _, _, _, -, -, hf', -, -, -, hown2, -⟩ := Cond.laysFinal_spec hlay
      have e1 : c' = cf := by have := hi.symm.trans hf'; simp at this; exact this.1.symm
      rw [hdecl] at hown2
      rw [← e1]; exact Option.some.inj (hown.symm.trans hown2)
    have h6 := u_fits hfc hkC hkind (Or.inr hlay) hi (hty k hkN) hn hfit
    exact W.putFinK hx hb hown (hts _ hlk) hi hst hcf (hin hini) (by rw [q2]; exact h6) q1 q3 (by rw [hsl]; exact k2_hasslot (q4 k hkN)) rfl rfl hdg fin
theorem x_putI {v : Int32} (E : En g own cc maxL ret ini p s m args meth c) (hR : Rel g σ H) (hS : va_S (aA g) s.heap H locs) (hk : kO σ a ci = true) (hok : ClsOk ci C T N ty) (k : Nat) (hkN : k < N) (hf : (fT ci).getD k false = false) (hlk : Cond.fieldLink own idx (T k).1 (T k).2.1 (T k).2.2.1 ∈ bigG)
    (hfin : (T k).2.2.2 = false ∨ ((T k).2.2.2 = true ∧ ini = true ∧ (T k).1 = own)) (hn : narrow (ty k) (.int v) = .int v) (hfit : fits (ty k) (.int v) = true) (hdg : decode cc pc = .ok (.putfield idx, 3))
    (kk : ∀ (H1 : Heap) (locs1 : List Loc), Rel g (sD σ a k v) H1 → va_S (aA g) s.heap H1 locs1 → W p (gl g) e rm s m args below meth c H1 locs1 cells slots Q (F0 m (pc + 3) ls rest)) : W p (gl g) e rm s m args below meth c H locs cells slots Q (F0 m pc ls (.int v :: .ref (gB g + a) :: rest)) := by
  refine x_put (σ' := sD σ a k v) E hR hS hk hok k hkN hlk hfin hn hfit ?_ rfl rfl ?_ ?_ hdg kk
  · unfold fV; rw [if_neg (by rw [hf]; decide)]; simp [mD_sD, upd]
  · intro j hj
    exact ⟨rfl, by rw [mD_sD, if_neg hj]⟩
  · intro j hj
    simp [fV, rE, mR_sD, mD_sD, upd, hj]
theorem x_putR {b : Nat} (E : En g own cc maxL ret ini p s m args meth c) (hR : Rel g σ H) (hS : va_S (aA g) s.heap H locs) (hk : kO σ a ci = true) (hok : ClsOk ci C T N ty) (k : Nat) (hkN : k < N) (hf : (fT ci).getD k false = true) (hlk : Cond.fieldLink own idx (T k).1 (T k).2.1 (T k).2.2.1 ∈ bigG)
    (hfin : (T k).2.2.2 = false ∨ ((T k).2.2.2 = true ∧ ini = true ∧ (T k).1 = own)) (hn : ∀ q, narrow (ty k) (.ref q) = .ref q) (hfit : ∀ q, fits (ty k) (.ref q) = true) (hdg : decode cc pc = .ok (.putfield idx, 3))
    (kk : ∀ (H1 : Heap) (locs1 : List Loc), Rel g (sR σ a k b) H1 → va_S (aA g) s.heap H1 locs1 → W p (gl g) e rm s m args below meth c H1 locs1 cells slots Q (F0 m (pc + 3) ls rest)) : W p (gl g) e rm s m args below meth c H locs cells slots Q (F0 m pc ls (.ref (gB g + b) :: .ref (gB g + a) :: rest)) := by
  refine x_put (σ' := sR σ a k b) E hR hS hk hok k hkN hlk hfin (hn _) (hfit _) ?_ rfl rfl ?_ ?_ hdg kk
  · unfold fV; rw [if_pos hf]; simp [rE, mR_sR, va_up, va_rf]
  · intro j hj
    exact ⟨by rw [mR_sR, if_neg hj], rfl⟩
  · intro j hj
    simp [fV, rE, mR_sR, mD_sR, va_up, hj]
theorem x_ild {i : Int32} (E : En g own cc maxL ret ini p s m args meth c) (hR : Rel g σ H) (hk : kA σ 1 a i = true) (hdg : decode cc pc = .ok (.iaload, 1))
    (kk : W p (gl g) e rm s m args below meth c H locs cells slots Q (F0 m (pc + 1) ls (.int (mD σ a (ix i)) :: rest))) : W p (gl g) e rm s m args below meth c H locs cells slots Q (F0 m pc ls (.int i :: .ref (gB g + a) :: rest)) := by
  obtain ⟨hx, hb, hml, hr, hlocks, hown, hts, hin, hT⟩ := id E
  obtain ⟨ha, hkk, hi⟩ := kA_spec hk
  exact va_iald hx hb hT.1 hR.2 a 0 (by rw [hw_get ha, cE_int hkk]) rfl hi hdg kk
theorem x_zld {i : Int32} (E : En g own cc maxL ret ini p s m args meth c) (hR : Rel g σ H) (hk : kA σ 2 a i = true) (hdg : decode cc pc = .ok (.baload, 1))
    (kk : W p (gl g) e rm s m args below meth c H locs cells slots Q (F0 m (pc + 1) ls (.int (mD σ a (ix i)) :: rest))) : W p (gl g) e rm s m args below meth c H locs cells slots Q (F0 m pc ls (.int i :: .ref (gB g + a) :: rest)) := by
  obtain ⟨hx, hb, hml, hr, hlocks, hown, hts, hin, hT⟩ := id E
  obtain ⟨ha, hkk, hi⟩ := kA_spec hk
  exact va_zald hx hb hT.1 hR.2 a 1 (by rw [hw_get ha, cE_boo hkk]) rfl hi hdg kk
theorem x_ald {i : Int32} {t b : Nat} (E : En g own cc maxL ret ini p s m args meth c) (hR : Rel g σ H) (ht : t = 3 ∨ t = 4) (hk : kA σ t a i = true) (hb' : mR σ a (ix i) = some b) (hdg : decode cc pc = .ok (.aaload, 1))
    (kk : W p (gl g) e rm s m args below meth c H locs cells slots Q (F0 m (pc + 1) ls (.ref (gB g + b) :: rest))) : W p (gl g) e rm s m args below meth c H locs cells slots Q (F0 m pc ls (.int i :: .ref (gB g + a) :: rest)) := by
  obtain ⟨hx, hb, hml, hr, hlocks, hown, hts, hin, hT⟩ := id E
  obtain ⟨ha, hkk, hi⟩ := kA_spec hk
  have hv : va_rf (rE g σ a i.toNatClampNeg) = .ref (gB g + b) := by
    have : mR σ a i.toNatClampNeg = some b := hb'
    simp [rE, this, va_rf]
  rcases ht with rfl | rfl
  · exact va_aldq hx hb hT.1 hR.2 a 2 (by rw [hw_get ha, cE_prs hkk]) rfl hi hdg (by rw [hv]; exact kk)
  · exact va_aldq hx hb hT.1 hR.2 a 3 (by rw [hw_get ha, cE_slt hkk]) rfl hi hdg (by rw [hv]; exact kk)
theorem sA_set {f : Nat → Int32} (hkk : (mK σ a).1 = 1) : (hw g σ).set a (gB g + a, .inl (gcI g, (mK σ a).2, .inl f)) = hw g (sA σ a f) := by
  have h1 : cE g (sA σ a f) a = .inl (gcI g, (mK σ a).2, .inl f) := by rw [cE_int (by rw [mK_sA]; exact hkk), mK_sA, mD_sA, if_pos rfl]
  rw [← h1]
  exact hw_set rfl (fun j hj => cE_same rfl rfl (by rw [mD_sA, if_neg hj]))
theorem sA_setZ {f : Nat → Int32} (hkk : (mK σ a).1 = 2) : (hw g σ).set a (gB g + a, .inl (gcZ g, (mK σ a).2, .inl f)) = hw g (sA σ a f) := by
  have h1 : cE g (sA σ a f) a = .inl (gcZ g, (mK σ a).2, .inl f) := by rw [cE_boo (by rw [mK_sA]; exact hkk), mK_sA, mD_sA, if_pos rfl]
  rw [← h1]
  exact hw_set rfl (fun j hj => cE_same rfl rfl (by rw [mD_sA, if_neg hj]))
theorem x_ist {i x : Int32} (E : En g own cc maxL ret ini p s m args meth c) (hR : Rel g σ H) (hS : va_S (aA g) s.heap H locs) (hk : kA σ 1 a i = true) (hdg : decode cc pc = .ok (.iastore, 1))
    (kk : ∀ (H1 : Heap) (locs1 : List Loc), Rel g (sD σ a (ix i) x) H1 → va_S (aA g) s.heap H1 locs1 → W p (gl g) e rm s m args below meth c H1 locs1 cells slots Q (F0 m (pc + 1) ls rest)) : W p (gl g) e rm s m args below meth c H locs cells slots Q (F0 m pc ls (.int x :: .int i :: .ref (gB g + a) :: rest)) := by
  obtain ⟨hx, hb, hml, hr, hlocks, hown, hts, hin, hT⟩ := id E
  obtain ⟨ha, hkk, hi⟩ := kA_spec hk
  have he : (hw g σ)[a]? = some (gB g + a, .inl (gcI g, (mK σ a).2, .inl (mD σ a))) := by rw [hw_get ha, cE_int hkk]
  refine W.iast hx hb (hR.2 a _ he) ((hT.1.2 0 _ rfl).1 (mK σ a).2 (fun j => .int (mD σ a j))) (fun q => by cases q) (by show ¬ (i < 0 ∨ (arrV _ _ _).slots.size ≤ _); rw [arrV_size]; exact hi) rfl rfl hdg fun H1 e1 z oq => ?_
  refine kk H1 _ ⟨by rw [z, hR.1]; rfl, ?_⟩ (hS.put z oq (Nat.le_add_right _ _))
  show va_P (gG g) vwCl (hw g (sA σ a (upd (mD σ a) (ix i) x))) H1
  rw [← sA_set hkk]
  refine hR.2.set (hw_D g σ) he ?_ oq
  show H1[gB g + a]? = some (vp_cell _ _)
  rw [e1]
  simp only [vp_cell_i, arrV_store]
  congr 2
  funext q
  by_cases hq : q = i.toNatClampNeg
  · subst hq
    simp [updV, upd, ix]
  · simp [updV, upd, hq, ix]
theorem x_zst {i x : Int32} (E : En g own cc maxL ret ini p s m args meth c) (hR : Rel g σ H) (hS : va_S (aA g) s.heap H locs) (hk : kA σ 2 a i = true) (hn : vp_nar .boolean x = x) (hdg : decode cc pc = .ok (.bastore, 1))
    (kk : ∀ (H1 : Heap) (locs1 : List Loc), Rel g (sD σ a (ix i) x) H1 → va_S (aA g) s.heap H1 locs1 → W p (gl g) e rm s m args below meth c H1 locs1 cells slots Q (F0 m (pc + 1) ls rest)) : W p (gl g) e rm s m args below meth c H locs cells slots Q (F0 m pc ls (.int x :: .int i :: .ref (gB g + a) :: rest)) := by
  obtain ⟨hx, hb, hml, hr, hlocks, hown, hts, hin, hT⟩ := id E
  obtain ⟨ha, hkk, hi⟩ := kA_spec hk
  have he : (hw g σ)[a]? = some (gB g + a, .inl (gcZ g, (mK σ a).2, .inl (mD σ a))) := by rw [hw_get ha, cE_boo hkk]
  refine W.zast hx hb (hR.2 a _ he) ((hT.1.2 1 _ rfl).1 (mK σ a).2 (fun j => .int (mD σ a j))) (fun q => by cases q) (by show ¬ (i < 0 ∨ (arrV _ _ _).slots.size ≤ _); rw [arrV_size]; exact hi) rfl rfl hdg fun H1 e1 z oq => ?_
  refine kk H1 _ ⟨by rw [z, hR.1]; rfl, ?_⟩ (hS.put z oq (Nat.le_add_right _ _))
  show va_P (gG g) vwCl (hw g (sA σ a (upd (mD σ a) (ix i) x))) H1
  rw [← sA_setZ hkk]
  refine hR.2.set (hw_D g σ) he ?_ oq
  show H1[gB g + a]? = some (vp_cell _ _)
  rw [e1]
  have hnn : narrow .boolean (.int x) = .int x := by
    exact (show narrow .boolean (.int x) = .int (vp_nar .boolean x) from rfl).trans (by rw [hn])
  rw [hnn]
  simp only [vp_cell_i, arrV_store]
  congr 2
  funext q
  by_cases hq : q = i.toNatClampNeg
  · subst hq
    simp [updV, upd, ix]
  · simp [updV, upd, hq, ix]
theorem x_alen (E : En g own cc maxL ret ini p s m args meth c) (hR : Rel g σ H) (hk : kL σ a = true) (hdg : decode cc pc = .ok (.arraylength, 1))
    (kk : W p (gl g) e rm s m args below meth c H locs cells slots Q (F0 m (pc + 1) ls (.int (Int32.ofNat (mK σ a).2) :: rest))) : W p (gl g) e rm s m args below meth c H locs cells slots Q (F0 m pc ls (.ref (gB g + a) :: rest)) := by
  obtain ⟨hx, hb, hml, hr, hlocks, hown, hts, hin, hT⟩ := id E
  simp only [kL, Bool.and_eq_true, decide_eq_true_eq] at hk
  exact va_alen hx hb hT.1 hR.2 a 0 (by rw [hw_get hk.1, cE_int hk.2]) (ty := .int) rfl rfl hdg kk
/-- the ends -/
theorem xr_i {Qo : Option Value} {σ' : Mm} {v : Int32} (E : En g own cc maxL ret ini p s m args meth c) (hR : Rel g σ H) (hS : va_S (aA g) s.heap H locs) (hret : ret = some .int) (ho : Qo = some (.int v)) (hs : σ' = σ) (hc : cells ≤ rm.cells) (hsl : slots ≤ rm.slots) (hdg : decode cc pc = .ok (.ireturn, 1)) :
    W p (gl g) e rm s m args below meth c H locs cells slots (MQ below (Qg g Qo σ') args s rm.cells rm.slots (aA g)) (F0 m pc ls [.int v]) := by
  obtain ⟨hx, hb, hml, hr, hlocks, hown, hts, hin, hT⟩ := id E
  subst hret; subst ho; subst hs
  refine W.widen hc hsl ?_
  exact W.iret hx hb hr (fun t ht hW => ⟨rfl, by rw [ht]; exact hR, hS.F ht⟩) hS.2.2 hdg hlocks
theorem xr_z {Qo : Option Value} {σ' : Mm} {v : Int32} (E : En g own cc maxL ret ini p s m args meth c) (hR : Rel g σ H) (hS : va_S (aA g) s.heap H locs) (hret : ret = some .boolean) (hz : vp_nar .boolean v = v) (ho : Qo = some (.int v)) (hs : σ' = σ) (hc : cells ≤ rm.cells) (hsl : slots ≤ rm.slots) (hdg : decode cc pc = .ok (.ireturn, 1)) :
    W p (gl g) e rm s m args below meth c H locs cells slots (MQ below (Qg g Qo σ') args s rm.cells rm.slots (aA g)) (F0 m pc ls [.int v]) := by
  obtain ⟨hx, hb, hml, hr, hlocks, hown, hts, hin, hT⟩ := id E
  subst hret; subst ho; subst hs
  refine W.widen hc hsl ?_
  have hnn : narrow .boolean (.int v) = .int v := by
    exact (show narrow .boolean (.int v) = .int (vp_nar .boolean v) from rfl).trans (by rw [hz])
  exact W.zret hx hb hr hnn (fun t ht hW => ⟨rfl, by rw [ht]; exact hR, hS.F ht⟩) hS.2.2 hdg hlocks
theorem xr_l {Qo : Option Value} {σ' : Mm} {v : Int64} (E : En g own cc maxL ret ini p s m args meth c) (hR : Rel g σ H) (hS : va_S (aA g) s.heap H locs) (hret : ret = some .long) (ho : Qo = some (.long v)) (hs : σ' = σ) (hc : cells ≤ rm.cells) (hsl : slots ≤ rm.slots) (hdg : decode cc pc = .ok (.lreturn, 1)) :
    W p (gl g) e rm s m args below meth c H locs cells slots (MQ below (Qg g Qo σ') args s rm.cells rm.slots (aA g)) (F0 m pc ls [.long v]) := by
  obtain ⟨hx, hb, hml, hr, hlocks, hown, hts, hin, hT⟩ := id E
  subst hret; subst ho; subst hs
  refine W.widen hc hsl ?_
  exact W.lret hx hb hr (fun t ht hW => ⟨rfl, by rw [ht]; exact hR, hS.F ht⟩) hS.2.2 hdg hlocks
theorem xr_a {Qo : Option Value} {σ' : Mm} {v : Nat} {nm : String} (E : En g own cc maxL ret ini p s m args meth c) (hR : Rel g σ H) (hS : va_S (aA g) s.heap H locs) (hret : ret = some (.object nm)) (ho : Qo = some (.ref (gB g + v))) (hs : σ' = σ) (hc : cells ≤ rm.cells) (hsl : slots ≤ rm.slots) (hdg : decode cc pc = .ok (.areturn, 1)) :
    W p (gl g) e rm s m args below meth c H locs cells slots (MQ below (Qg g Qo σ') args s rm.cells rm.slots (aA g)) (F0 m pc ls [.ref (gB g + v)]) := by
  obtain ⟨hx, hb, hml, hr, hlocks, hown, hts, hin, hT⟩ := id E
  subst hret; subst ho; subst hs
  refine W.widen hc hsl ?_
  exact W.aret hx hb hr (Or.inl ⟨nm, rfl⟩) (Or.inr ⟨_, rfl⟩) (fun t ht hW => ⟨rfl, by rw [ht]; exact hR, hS.F ht⟩) hS.2.2 hdg hlocks
theorem xr_v {Qo : Option Value} {σ' : Mm} (E : En g own cc maxL ret ini p s m args meth c) (hR : Rel g σ H) (hS : va_S (aA g) s.heap H locs) (hret : ret = none) (ho : Qo = none) (hs : σ' = σ) (hc : cells ≤ rm.cells) (hsl : slots ≤ rm.slots) (hdg : decode cc pc = .ok (.return_, 1)) :
    W p (gl g) e rm s m args below meth c H locs cells slots (MQ below (Qg g Qo σ') args s rm.cells rm.slots (aA g)) (F0 m pc ls []) := by
  obtain ⟨hx, hb, hml, hr, hlocks, hown, hts, hin, hT⟩ := id E
  subst hret; subst ho; subst hs
  refine W.widen hc hsl ?_
  exact W.vret hx hb hr (fun t ht hW => ⟨rfl, by rw [ht]; exact hR, hS.F ht⟩) hS.2.2 hdg hlocks
end ROWS
