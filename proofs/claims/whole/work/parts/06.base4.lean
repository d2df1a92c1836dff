/-! ===== makings; arrays of references; arraycopy; Object's own beginning ===== -/
section MAKES
variable {p : Program} {e : Env} {rm : Room} {s : State} {m : MethodId} {args : Array Value} {below : List Frame} {meth : Method} {c : Code} {H : Heap} {locs : List Loc} {cells slots : Nat} {Q : State → Prop} {g : GG} {own : String} {cc : ByteArray} {maxL : Nat} {ret : Option FieldType} {ini : Bool} {σ : Mm} {ls : Array Slot} {pc : Nat} {rest : List Value} {lv : List (Nat × Value)}
variable {idx a ci k : Nat} {C : String} {T : u_T} {N : Nat} {ty : Nat → FieldType}
theorem Rel.push {kd : Nat × Nat} {H1 : Heap} (hR : Rel g σ H) (hS : va_S (aA g) s.heap H locs) (z1 : H1.size = H.size + 1) (o1 : ∀ q, q < H.size → H1[q]? = H[q]?) (hat : va_at (gG g) vwCl (gB g + mN σ, cE g (nw σ kd) (mN σ)) H1) :
    Rel g (nw σ kd) H1 ∧ va_S (aA g) s.heap H1 locs := by
  refine ⟨⟨by rw [z1, hR.1, mN_nw]; omega, ?_⟩, ⟨Nat.le_trans hS.1 (by omega), fun x h1 h2 => (o1 x (Nat.lt_of_lt_of_le h1 hS.1)).trans (hS.2.1 x h1 h2), hS.2.2⟩⟩
  rw [← hw_push (mN_nw σ kd) (fun j hj => cE_same (by rw [mK_nw, if_neg (Nat.ne_of_lt hj)]) (by rw [mR_nw, if_neg (Nat.ne_of_lt hj)]) (by rw [mD_nw, if_neg (Nat.ne_of_lt hj)]))]
  refine (hR.2.kept (fun k x hx => o1 x.1 ((hR.2 k x hx).lt))).app (fun k x hx => ?_)
  have hz : k < 1 := (List.getElem?_eq_some_iff.mp hx).1
  rw [show k = 0 by omega] at hx
  cases hx
  exact hat
theorem x_new (E : En g own cc maxL ret ini p s m args meth c) (hR : Rel g σ H) (hS : va_S (aA g) s.heap H locs) (hok : ClsOk ci C T N ty) (hdef : ∀ j, j < N → defaultValue (ty j) = if (fT ci).getD j false = true then .null else .int 0) (hlk : Cond.classLink own idx C ∈ bigG) (hin : Cond.instantiable C N ∈ bigG) (hini : Cond.initialized C ∈ bigG)
    (hcells : cells + 1 ≤ rm.cells) (hslots : slots + N ≤ rm.slots) (hdg : decode cc pc = .ok (.new idx, 3))
    (kk : ∀ (H1 : Heap), Rel g (nw σ (0, ci)) H1 → va_S (aA g) s.heap H1 locs → W p (gl g) e rm s m args below meth c H1 locs (cells + 1) (slots + N) Q (F0 m (pc + 3) ls (.ref (gB g + mN σ) :: rest))) : W p (gl g) e rm s m args below meth c H locs cells slots Q (F0 m pc ls rest) := by
  obtain ⟨hx, hb, hml, hr, hlocks, hown, hts, hinn, hT⟩ := id E
  obtain ⟨hc, hinw, hty, hnm, hlen⟩ := id hok
  have hKn := hT.1.1 ci _ hc
  refine W.newcK hx hb hown (hts _ hlk) (hts _ hin) (hts _ hini) rfl hdg hcells hslots hKn.2.1 hR.1 fun H1 kC hkC e1 z1 o1 => ?_
  have h := Rel.push (kd := (0, ci)) hR hS (by rw [z1, hR.1]) (by rw [hR.1]; exact o1) (by
    rw [cE_obj (by rw [mK_nw, if_pos rfl])]
    refine ⟨_, hc, (u_born ty hts hinw hKn hkC e1 hty).to (fun j hj => ?_)⟩
    rw [hdef j hj]
    show _ = (fE g (nw σ (0, ci)) ci (mN σ)).getD j .null
    have h9 := fE_get (g := g) (σ := nw σ (0, ci)) (ci := ci) (i := mN σ) (k := j) (by rw [hlen]; exact hj)
    simp only [List.getD_eq_getElem?_getD, h9, Option.getD_some, fV, rE, mR_nw, mD_nw, if_true, Option.map_none, va_rf])
  exact kk H1 h.1 h.2
theorem x_newI {n : Int32} {L : Nat} (E : En g own cc maxL ret ini p s m args meth c) (hR : Rel g σ H) (hS : va_S (aA g) s.heap H locs) (har : Cond.arrayClass .int ∈ bigG) (hn : ¬ n < 0) (hL : n.toNatClampNeg = L) (hb4 : L ≤ 100000)
    (hcells : cells + 1 ≤ rm.cells) (hslots : slots + L ≤ rm.slots) (hdg : decode cc pc = .ok (.newarray .int, 2))
    (kk : ∀ (H1 : Heap), Rel g (nw σ (1, L)) H1 → va_S (aA g) s.heap H1 locs → W p (gl g) e rm s m args below meth c H1 locs (cells + 1) (slots + L) Q (F0 m (pc + 2) ls (.ref (gB g + mN σ) :: rest))) : W p (gl g) e rm s m args below meth c H locs cells slots Q (F0 m pc ls (.int n :: rest)) := by
  obtain ⟨hx, hb, hml, hr, hlocks, hown, hts, hinn, hT⟩ := id E
  have hcb : L * componentBytes .int ≤ 536870912 := by
    have : componentBytes .int = 4 := by decide
    rw [this]; omega
  refine va_newaK (atype := .int) hx hb (hts _ har) rfl hdg rfl hn hL hcb hcells hslots hR.1 fun H1 cA e1 z1 o1 hAr hNm => ?_
  have hA : cA = gcI g := Option.some.inj (hNm.symm.trans (hT.1.2 0 _ rfl).2)
  subst hA
  have h := Rel.push (kd := (1, L)) hR hS (by rw [z1, hR.1]) (by rw [hR.1]; exact o1) (by
    rw [cE_int (by rw [mK_nw, if_pos rfl])]
    show H1[gB g + mN σ]? = some (vp_cell _ _)
    rw [e1, vp_cell_i, mK_nw, if_pos rfl, mD_nw, if_pos rfl]
    rfl)
  exact kk H1 h.1 h.2
theorem x_newZ {n : Int32} {L : Nat} (E : En g own cc maxL ret ini p s m args meth c) (hR : Rel g σ H) (hS : va_S (aA g) s.heap H locs) (har : Cond.arrayClass .boolean ∈ bigG) (hn : ¬ n < 0) (hL : n.toNatClampNeg = L) (hb4 : L ≤ 100000)
    (hcells : cells + 1 ≤ rm.cells) (hslots : slots + L ≤ rm.slots) (hdg : decode cc pc = .ok (.newarray .boolean, 2))
    (kk : ∀ (H1 : Heap), Rel g (nw σ (2, L)) H1 → va_S (aA g) s.heap H1 locs → W p (gl g) e rm s m args below meth c H1 locs (cells + 1) (slots + L) Q (F0 m (pc + 2) ls (.ref (gB g + mN σ) :: rest))) : W p (gl g) e rm s m args below meth c H locs cells slots Q (F0 m pc ls (.int n :: rest)) := by
  obtain ⟨hx, hb, hml, hr, hlocks, hown, hts, hinn, hT⟩ := id E
  have hcb : L * componentBytes .boolean ≤ 536870912 := by
    have : componentBytes .boolean ≤ 4 := by decide
    exact Nat.le_trans (Nat.mul_le_mul hb4 this) (by decide)
  refine va_newaK (atype := .boolean) hx hb (hts _ har) rfl hdg rfl hn hL hcb hcells hslots hR.1 fun H1 cA e1 z1 o1 hAr hNm => ?_
  have hA : cA = gcZ g := Option.some.inj (hNm.symm.trans (hT.1.2 1 _ rfl).2)
  subst hA
  have h := Rel.push (kd := (2, L)) hR hS (by rw [z1, hR.1]) (by rw [hR.1]; exact o1) (by
    rw [cE_boo (by rw [mK_nw, if_pos rfl])]
    show H1[gB g + mN σ]? = some (vp_cell _ _)
    rw [e1, vp_cell_i, mK_nw, if_pos rfl, mD_nw, if_pos rfl]
    rfl)
  exact kk H1 h.1 h.2
theorem x_newq {n : Int32} {L t : Nat} (E : En g own cc maxL ret ini p s m args meth c) (hR : Rel g σ H) (hS : va_S (aA g) s.heap H locs) (ht : (t = 3 ∧ C = "BorderProofs$Pairs") ∨ (t = 4 ∧ C = "BorderProofs$Slot")) (hlk : Cond.classLink own idx C ∈ bigG) (hn : ¬ n < 0) (hL : n.toNatClampNeg = L) (hb4 : L ≤ 100000)
    (hcells : cells + 1 ≤ rm.cells) (hslots : slots + L ≤ rm.slots) (hdg : decode cc pc = .ok (.anewarray idx, 3))
    (kk : ∀ (H1 : Heap), Rel g (nw σ (t, L)) H1 → va_S (aA g) s.heap H1 locs → W p (gl g) e rm s m args below meth c H1 locs (cells + 1) (slots + L) Q (F0 m (pc + 3) ls (.ref (gB g + mN σ) :: rest))) : W p (gl g) e rm s m args below meth c H locs cells slots Q (F0 m pc ls (.int n :: rest)) := by
  obtain ⟨hx, hb, hml, hr, hlocks, hown, hts, hinn, hT⟩ := id E
  subst hL
  have hover : va_AO C s := by rcases ht with ⟨-, rfl⟩ | ⟨-, rfl⟩; exact hT.2.2.1; exact hT.2.2.2.1
  refine W.anew hx hb hown (hts _ hlk) (va_AO.use hover) rfl hdg rfl hn (by omega) hcells hslots fun cA kA comp f1 f2 f3 f4 => ?_
  have hat : cE g (nw σ (t, n.toNatClampNeg)) (mN σ) = .inl (cA, n.toNatClampNeg, .inr (.inr (.inr (.inr (fun _ => none))))) := by
    have hrr : rE g (nw σ (t, n.toNatClampNeg)) (mN σ) = fun _ => none := by funext k; simp [rE, mR_nw]
    rcases ht with ⟨rfl, rfl⟩ | ⟨rfl, rfl⟩
    · obtain ⟨k1, c1, r1, r2, r3, r4⟩ := (hT.1.2 2 _ rfl).2
      rw [cE_prs (by rw [mK_nw, if_pos rfl]), hrr, mK_nw, if_pos rfl, Option.some.inj (f1.symm.trans r4)]
    · obtain ⟨k1, c1, r1, r2, r3, r4⟩ := (hT.1.2 3 _ rfl).2
      rw [cE_slt (by rw [mK_nw, if_pos rfl]), hrr, mK_nw, if_pos rfl, Option.some.inj (f1.symm.trans r4)]
  generalize hH1 : H.push ({ cls := cA, slots := Array.replicate n.toNatClampNeg .null, vm := .none } : Cell) = H1
  have z1 : H1.size = H.size + 1 := by rw [← hH1, Array.size_push]
  have e1 : H1[H.size]? = some (arrV cA n.toNatClampNeg (fun _ => .null)) := by rw [← hH1, Array.getElem?_push_size, ← arrV_new]
  have o1 : ∀ q : Nat, q < H.size → H1[q]? = H[q]? := fun q hq => by rw [← hH1, Array.getElem?_push, if_neg (Nat.ne_of_lt hq)]
  have h := Rel.push (kd := (t, n.toNatClampNeg)) hR hS z1 o1 (by
    rw [hat]
    show H1[gB g + mN σ]? = some (vp_cell _ _)
    rw [← hR.1, e1, vp_cell_q]
    rfl)
  rw [hR.1]
  exact kk H1 h.1 h.2
theorem x_ast {i : Int32} {t v : Nat} (E : En g own cc maxL ret ini p s m args meth c) (hR : Rel g σ H) (hS : va_S (aA g) s.heap H locs) (ht : (t = 3 ∧ ci = 2) ∨ (t = 4 ∧ ci = 6)) (hk : kA σ t a i = true) (hv : kO σ v ci = true) (hdg : decode cc pc = .ok (.aastore, 1))
    (kk : ∀ (H1 : Heap) (locs1 : List Loc), Rel g (sR σ a (ix i) v) H1 → va_S (aA g) s.heap H1 locs1 → W p (gl g) e rm s m args below meth c H1 locs1 cells slots Q (F0 m (pc + 1) ls rest)) : W p (gl g) e rm s m args below meth c H locs cells slots Q (F0 m pc ls (.ref (gB g + v) :: .int i :: .ref (gB g + a) :: rest)) := by
  obtain ⟨hx, hb, hml, hr, hlocks, hown, hts, hinn, hT⟩ := id E
  obtain ⟨ha, hkk, hi⟩ := kA_spec hk
  obtain ⟨hva, hvk⟩ := kO_spec hv
  have hlt : i.toNatClampNeg < (mK σ a).2 := Nat.not_le.mp fun q => hi (Or.inr q)
  have h0 : ¬ i < 0 := fun q => hi (Or.inl q)
  obtain ⟨C, T, N, cA, t0, hc, htt, he⟩ : ∃ (C : String) (T : u_T) (N : Nat) (cA : ClassId) (t0 : Nat), vwCl[ci]? = some (C, T, N) ∧ (tysG g)[t0]? = some (cA, .object C) ∧ cE g σ a = .inl (cA, (mK σ a).2, .inr (.inr (.inr (.inr (rE g σ a))))) ∧ ∀ σ' : Mm, mK σ' = mK σ → cE g σ' a = .inl (cA, (mK σ a).2, .inr (.inr (.inr (.inr (rE g σ' a))))) := by
    rcases ht with ⟨rfl, rfl⟩ | ⟨rfl, rfl⟩
    · exact ⟨RX2, TX2, 2, gcP g, 2, rfl, rfl, cE_prs hkk, fun σ' h => by rw [cE_prs (by rw [h]; exact hkk), h]⟩
    · exact ⟨RX6, TX6, 2, gcS g, 3, rfl, rfl, cE_slt hkk, fun σ' h => by rw [cE_slt (by rw [h]; exact hkk), h]⟩
  obtain ⟨he, he'⟩ := he
  have hea : (hw g σ)[a]? = some (gB g + a, .inl (cA, (mK σ a).2, .inr (.inr (.inr (.inr (rE g σ a)))))) := by rw [hw_get ha, he]
  obtain ⟨r', hr', cellV, g1, g2, g3, -⟩ := hR.2 v _ (show (hw g σ)[v]? = some (gB g + v, .inr (ci, fE g σ ci v)) by rw [hw_get hva, cE_obj hvk])
  have hcls := (hT.1.1 ci _ hc).2
  obtain ⟨kA', comp, k1, k2, k3, -⟩ := (hT.1.2 t0 _ htt).2
  have hcomp : comp = (gG g).1 ci := Option.some.inj (k3.symm.trans hcls.1)
  subst hcomp
  obtain ⟨kC, hkC, -⟩ := hcls.2
  refine W.aast hx hb (hR.2 a _ hea) (fun q h => by cases h) (fun h => by cases h) k1 k2 rfl hkC ⟨h0, by show _ < (arrV _ _ _).slots.size; rw [arrV_size]; exact hlt⟩ g1 (fun q h => by rw [g3] at h; cases h) (by rw [g2]; exact hkC) (by rw [g2]; exact va_assign hcls) rfl rfl hdg fun H1 e1 z oq => ?_
  have hset : (hw g σ).set a (gB g + a, cE g (sR σ a (ix i) v) a) = hw g (sR σ a (ix i) v) := hw_set rfl (fun j hj => cE_same rfl (by rw [mR_sR, if_neg hj]) rfl)
  refine kk H1 _ ⟨by rw [z, hR.1]; rfl, ?_⟩ (hS.put z oq (Nat.le_add_right _ _))
  rw [← hset, he' (sR σ a (ix i) v) rfl]
  refine hR.2.set (hw_D g σ) hea ?_ oq
  show H1[gB g + a]? = some (vp_cell _ _)
  rw [e1]
  simp only [vp_cell_q, arrV_store]
  congr 2
  funext q
  by_cases hq : q = i.toNatClampNeg
  · subst hq
    simp [updV, va_up, va_rf, rE, mR_sR, ix]
  · simp [updV, va_up, hq, rE, mR_sR, ix]
theorem x_obj (E : En g own cc maxL ret ini p s m args meth c) (hl : lv_has ls maxL lv) (h1 : Cond.methodLink own idx Lib.objectInit ∈ bigG) (h2 : Cond.instanceMethod Lib.objectInit ∈ bigG) (h3 : Cond.code Lib.objectInit ⟨#[0xb1]⟩ 1 none ∈ bigG) (hf : 1 ≤ rm.frames) (hlo : (rest.map fun v => v.category).sum + 12 ≤ rm.locals) (hdg : decode cc pc = .ok (.invokespecial idx, 3))
    (kk : W p (gl g) e rm s m args below meth c H locs cells slots Q (F0 m (pc + 3) ls rest)) : W p (gl g) e rm s m args below meth c H locs cells slots Q (F0 m pc ls (.ref a :: rest)) := by
  obtain ⟨hx, hb, hml, hr, hlocks, hown, hts, hinn, hT⟩ := id E
  exact W.objInit hx hb hown (hts _ h1) (hts _ h2) (hts _ h3) rfl (hl.1.trans hml.symm) rfl hdg hf (by show 2 * 0 + _ + _ ≤ _; omega) kk
def kC (σ : Mm) (a0 a : Nat) (sp dp n : Int32) : Bool := decide (a0 < mN σ) && decide ((mK σ a0).1 = 1) && decide (a < mN σ) && decide ((mK σ a).1 = 1) && decide (¬ sp < 0) && decide (¬ dp < 0) && decide (¬ n < 0) && decide (ix sp + ix n ≤ (mK σ a0).2) && decide (ix dp + ix n ≤ (mK σ a).2)
def sC (σ : Mm) (a0 a : Nat) (sp dp n : Int32) : Mm := sA σ a (va_cpy (mD σ a0) (mD σ a) (ix sp) (ix dp) (ix n))
set_option maxHeartbeats 1000000 in
theorem x_copy {a0 : Nat} {sp dp n : Int32} (E : En g own cc maxL ret ini p s m args meth c) (hR : Rel g σ H) (hS : va_S (aA g) s.heap H locs) (hl : lv_has ls maxL lv) (hk : kC σ a0 a sp dp n = true) (hlink : Cond.methodLink own idx arraycopyName ∈ bigG) (hnat : Cond.native arraycopyName ∈ bigG) (hstat : Cond.static arraycopyName ∈ bigG) (hini : Cond.initialized "java/lang/System" ∈ bigG)
    (hframes : 1 ≤ rm.frames) (hlocals : (rest.map fun v => v.category).sum + (nativeFrameWords "java/lang/System" "arraycopy" 5 + 11) ≤ rm.locals) (hdg : decode cc pc = .ok (.invokestatic idx, 3))
    (kk : ∀ (H1 : Heap) (locs1 : List Loc), Rel g (sC σ a0 a sp dp n) H1 → va_S (aA g) s.heap H1 locs1 → W p (gl g) e rm s m args below meth c H1 locs1 cells slots Q (F0 m (pc + 3) ls rest)) : W p (gl g) e rm s m args below meth c H locs cells slots Q (F0 m pc ls (.int n :: .int dp :: .ref (gB g + a) :: .int sp :: .ref (gB g + a0) :: rest)) := by
  obtain ⟨hx, hb, hml, hr, hlocks, hown, hts, hinn, hT⟩ := id E
  simp only [kC, Bool.and_eq_true, decide_eq_true_eq] at hk
  obtain ⟨⟨⟨⟨⟨⟨⟨⟨ha0, hk0⟩, ha⟩, hk1⟩, h1⟩, h2⟩, h3⟩, h4⟩, h5⟩ := hk
  have nn : ∀ z : Int32, ¬ z < 0 → z.toInt = (z.toNatClampNeg : Int) := by
    intro z hz
    have hz0 : (0 : Int) ≤ z.toInt := by
      have := Int32.not_lt.mp hz
      simpa using Int32.le_iff_toInt_le.mp this
    show z.toInt = ((z.toInt.toNat : Nat) : Int)
    omega
  have he0 : (hw g σ)[a0]? = some (gB g + a0, .inl (gcI g, (mK σ a0).2, .inl (mD σ a0))) := by rw [hw_get ha0, cE_int hk0]
  have he1 : (hw g σ)[a]? = some (gB g + a, .inl (gcI g, (mK σ a).2, .inl (mD σ a))) := by rw [hw_get ha, cE_int hk1]
  have hc0 : H[gB g + a0]? = some (vp_cell (gcI g) ((mK σ a0).2, .inl (mD σ a0))) := hR.2 a0 _ he0
  have hc1 : H[gB g + a]? = some (vp_cell (gcI g) ((mK σ a).2, .inl (mD σ a))) := hR.2 a _ he1
  intro T hT' X
  obtain ⟨-, k0, hkc0, cm0, hkk0⟩ := (hT.1.2 0 _ rfl).1 (mK σ a0).2 (fun j => .int (mD σ a0 j))
  obtain ⟨-, k1, hkc1, cm1, hkk1⟩ := (hT.1.2 0 _ rfl).1 (mK σ a).2 (fun j => .int (mD σ a j))
  obtain ⟨vm', X', step⟩ := X.arraycopy hx hown (hts _ hlink) (hts _ hnat) (hts _ hstat) (hts _ hini) (src := gB g + a0) (dst := gB g + a) (cs := vp_cell (gcI g) ((mK σ a0).2, .inl (mD σ a0))) (cd := vp_cell (gcI g) ((mK σ a).2, .inl (mD σ a))) (srcPos := sp) (destPos := dp) (n := n) (by rw [hT']; exact hc0) (by rw [hT']; exact hc1)
    (fun _ h => by cases h) (fun _ h => by cases h) (fun h => by cases h) (fun h => by cases h) hkc0 hkc1 hkk0 hkk1 (by rfl) h1 h2 h3
    (by rw [nn sp h1, nn n h3]; show ¬ _ > ((arrV _ (mK σ a0).2 (fun j => .int (mD σ a0 j))).slots.size : Int); rw [arrV_size]; unfold ix at h4; omega)
    (by rw [nn dp h2, nn n h3]; show ¬ _ > ((arrV _ (mK σ a).2 (fun j => .int (mD σ a j))).slots.size : Int); rw [arrV_size]; unfold ix at h5; omega)
    (fun vm₁ _ i hi => by
      have e1 : (vp_cell (gcI g) ((mK σ a0).2, .inl (mD σ a0))).slots.getD (sp.toNatClampNeg + i) .null = .int (mD σ a0 (sp.toNatClampNeg + i)) := by
        show (arrV _ (mK σ a0).2 (fun j => .int (mD σ a0 j))).slots.getD _ _ = _
        rw [Array.getD_eq_getD_getElem?, arrV_read _ _ (by unfold ix at h4; omega)]
        rfl
      exact ⟨by rw [e1]; rfl, by rw [e1]; exact trivial⟩)
    (g := F0 m pc ls (.int n :: .int dp :: .ref (gB g + a) :: .int sp :: .ref (gB g + a0) :: rest)) rfl (by rw [hml]; exact hl.1) (rest := rest) rfl (by rw [hb]; exact hdg) hframes (by show 2 * 0 + _ + _ ≤ _; omega)
  have e1 : copied (vp_cell (gcI g) ((mK σ a0).2, .inl (mD σ a0))) (vp_cell (gcI g) ((mK σ a).2, .inl (mD σ a))) sp dp n = vp_cell (gcI g) ((mK σ a).2, .inl (va_cpy (mD σ a0) (mD σ a) sp.toNatClampNeg dp.toNatClampNeg n.toNatClampNeg)) := va_copied (fun z => .int z) _ _ (mD σ a0) (mD σ a) h4
  rw [e1] at X' step
  have hl : gB g + a < H.size := (Array.getElem?_eq_some_iff.mp hc1).1
  generalize hcell : vp_cell (gcI g) ((mK σ a).2, .inl (va_cpy (mD σ a0) (mD σ a) sp.toNatClampNeg dp.toNatClampNeg n.toNatClampNeg)) = cell at X' step
  have hheap : ((T.setVm vm').setCell (gB g + a) cell).heap = H.setIfInBounds (gB g + a) cell := by rw [← hT']; rfl
  have oq : ∀ q : Nat, q ≠ gB g + a → (H.setIfInBounds (gB g + a) cell)[q]? = H[q]? := fun q hq => by simp [Array.getElem?_setIfInBounds, Ne.symm hq]
  have hz : (H.setIfInBounds (gB g + a) cell).size = H.size := by simp
  have hP1 : va_P (gG g) vwCl (hw g (sC σ a0 a sp dp n)) (H.setIfInBounds (gB g + a) cell) := by
    show va_P (gG g) vwCl (hw g (sA σ a _)) _
    rw [← sA_set hk1]
    refine hR.2.set (hw_D g σ) he1 ?_ oq
    show (H.setIfInBounds (gB g + a) cell)[gB g + a]? = some (vp_cell _ _)
    rw [Array.getElem?_setIfInBounds, if_pos rfl, if_pos hl, ← hcell]
    rfl
  obtain ⟨t, a1, b1⟩ := kk _ _ ⟨by rw [hz, hR.1]; rfl, hP1⟩ ⟨by rw [hz]; exact hS.1, fun q g1 g2 => by
      rw [oq q (fun h => g2 (by rw [h]; exact Nat.le_add_right _ _))]
      exact hS.2.1 q g1 g2, fun q hq => by
      rcases List.mem_append.mp hq with h | h
      · exact hS.2.2 q h
      · obtain ⟨z, -, hz⟩ := List.mem_map.mp h
        rw [← hz]
        exact Nat.le_add_right _ _⟩ _ hheap X'
  exact ⟨t, step t a1, b1⟩
end MAKES
/-! ===== how the numbers of a run are told: checks, calls, references, memories ===== -/
def zck {α : Type} (c : Bool) (x : Option α) : Option α := if c = true then x else none
def zcb {α β : Type} (o : Option (α × Mm)) (f : α → Mm → Option β) : Option β := match o with
  | none => none
  | some q => f q.1 q.2
def zrb {β : Type} (o : Option Nat) (f : Nat → Option β) : Option β := match o with
  | none => none
  | some b => f b
def zlt {β : Type} (x : Mm) (f : Mm → Option β) : Option β := f x
theorem zc_s {α : Type} {c : Bool} {x : Option α} {y : α} (h : zck c x = some y) : c = true ∧ x = some y := by
  unfold zck at h
  split at h
  · exact ⟨by assumption, h⟩
  · cases h
theorem zq_s {α β : Type} {o : Option (α × Mm)} {f : α → Mm → Option β} {y : β} (h : zcb o f = some y) : ∃ (r : α) (σ1 : Mm), o = some (r, σ1) ∧ f r σ1 = some y := by
  cases o with
  | none => cases h
  | some q => exact ⟨q.1, q.2, rfl, h⟩
theorem zr_s {β : Type} {o : Option Nat} {f : Nat → Option β} {y : β} (h : zrb o f = some y) : ∃ b : Nat, o = some b ∧ f b = some y := by
  cases o with
  | none => cases h
  | some q => exact ⟨q, rfl, h⟩
theorem zl_s {β : Type} {x : Mm} {f : Mm → Option β} {y : β} (h : zlt x f = some y) : ∃ σ1 : Mm, σ1 = x ∧ f σ1 = some y := ⟨x, rfl, h⟩
theorem ite_p {α : Type} {c : Prop} {d : Decidable c} {A B y : α} (hc : c) (h : @ite α c d A B = y) : A = y := by rw [if_pos hc] at h; exact h
theorem ite_n {α : Type} {c : Prop} {d : Decidable c} {A B y : α} (hc : ¬ c) (h : @ite α c d A B = y) : B = y := by rw [if_neg hc] at h; exact h
def zb (v : Int32) : Bool := decide (vp_nar .boolean v = v)
theorem zb_s {v : Int32} (h : zb v = true) : vp_nar .boolean v = v := of_decide_eq_true h
theorem sw_out {x : Int32} {lo hi : Int} (h : ∀ j : Int, lo ≤ j → j ≤ hi → x ≠ Int32.ofInt j) : x.toInt < lo ∨ hi < x.toInt := by
  by_cases h1 : x.toInt < lo
  · exact Or.inl h1
  · by_cases h2 : hi < x.toInt
    · exact Or.inr h2
    · exact absurd (Int32.ofInt_toInt x).symm (h x.toInt (by omega) (by omega))
