/-! ===== the tables' words that every method carries ===== -/
def bigG : List Cond := lw_tbl.filter goodWord
theorem inG {w : Cond} (i : Nat) (h : lw_tbl[i]? = some w) (hg : goodWord w = true) : w ∈ bigG := List.mem_filter.mpr ⟨List.mem_of_getElem? h, hg⟩
theorem bigG_good {w : Cond} (h : w ∈ bigG) : (w.onTables && w.keeps) = true ∨ ∃ ty, w = .arrayClass ty := good_of_word (List.mem_filter.mp h).2
theorem all_inG {ws : List Cond} (ps : List Nat) (hp : ws = ps.filterMap (fun i => lw_tbl[i]?)) (h : ws.all goodWord = true) : ∀ w ∈ ws, w ∈ bigG := by
  intro w hw
  have h1 := List.all_eq_true.mp h w hw
  rw [hp] at hw
  obtain ⟨i, -, hi⟩ := List.mem_filterMap.mp hw
  exact inG i hi h1
def ClsOk (ci : Nat) (C : String) (T : u_T) (N : Nat) (ty : Nat → FieldType) : Prop :=
  vwCl[ci]? = some (C, T, N) ∧ (∀ w ∈ u_ws C T N, w ∈ bigG) ∧ (∀ k, k < N → parseFieldDescriptor (T k).2.2.1 = some (ty k)) ∧ (∀ a, a < N → ∀ b, b < N → a ≠ b → (T a).2.1 ≠ (T b).2.1) ∧ (fT ci).length = N
/-- links between private members of classes of one nest -/
def nwL : List (String × Nat × MethodName × String) := [
  (RX8, 18, yX7_init, "BorderProofs"),
  (RX7, 33, yX3_init, "BorderProofs"),
  (RX8, 32, yX5_init, "BorderProofs"),
  (RX5, 11, yX1_init, "BorderProofs"),
  (RX5, 31, yX7_init, "BorderProofs"),
  (RX5, 38, yX3_init, "BorderProofs"),
  (RX8, 51, yX1_init, "BorderProofs"),
  (RX8, 56, yX6_init, "BorderProofs"),
  (RX2, 25, yX8_isNumber, "BorderProofs"),
  (RX7, 42, yX8_isNumber, "BorderProofs"),
  (RX7, 64, yX8_isAbove, "BorderProofs"),
  (RX7, 72, yX8_digestOfNode, "BorderProofs"),
  (RX7, 114, yX8_nodeItem, "BorderProofs"),
  (RX5, 88, yX8_keyOfItem, "BorderProofs"),
  (RX5, 122, yX8_isNumber, "BorderProofs"),
  (RX5, 125, yX8_isAbove, "BorderProofs"),
  (RX5, 99, yX8_valueOfItem, "BorderProofs")]
def Nws (U : State) : Prop := ∀ q ∈ nwL, va_Nw (.methodLinkNest q.1 q.2.1 q.2.2.1 q.2.2.2) U
theorem Nws.warm {s U : State} (hW : s.WarmedH U.vm) (h : Nws s) : Nws U := fun q hq => va_Nw.warmM hW (h q hq)
theorem Nws.same {s U : State} (hv : s.vm = U.vm) (h : Nws s) : Nws U := fun q hq => va_Nw.same rfl hv (h q hq)
/-- what the tables say at a state, beside the words -/
def Tb (g : GG) (U : State) : Prop := va_K (gG g) vwCl (tysG g) U ∧ Nws U ∧ va_AO "BorderProofs$Pairs" U ∧ va_AO "BorderProofs$Slot" U ∧ gB g ≤ U.heap.size
theorem Tb.warm {g : GG} {s U : State} (hW : s.WarmedH U.vm) (hz : gB g ≤ U.heap.size) (h : Tb g s) : Tb g U := ⟨va_K.moved hW.alike h.1, h.2.1.warm hW, va_AO.moved hW.alike h.2.2.1, va_AO.moved hW.alike h.2.2.2.1, hz⟩
def Pre0 (g : GG) (σ : Mm) (U : State) : Prop := Rel g σ U.heap ∧ Tb g U
def Qg (g : GG) (o : Option Value) (σ' : Mm) : Array Value → State → Outcome → State → Prop := fun _ st oc t => oc = .returned o ∧ Rel g σ' t.heap ∧ va_F (aA g) st t
def Ct (g : GG) (y : MethodName) (cc : ByteArray) (maxL : Nat) (ret : Option FieldType) (rm : Room) (av : List Value) (σ : Mm) (o : Option Value) (σ' : Mm) : Prop :=
  Met (gl g) y (Cond.code y cc maxL ret :: bigG) rm (va_Pc av (Pre0 g σ)) (Qg g o σ') rm.cells rm.slots (aA g)
def En (g : GG) (own : String) (cc : ByteArray) (maxL : Nat) (ret : Option FieldType) (ini : Bool) (p : Program) (s : State) (m : MethodId) (args : Array Value) (meth : Method) (c : Code) : Prop :=
  p.tables.exec = Jvm.exec ∧ c.code = cc ∧ c.maxLocals = maxL ∧ meth.sig.returnType = ret ∧ meth.locks = false ∧ s.vm.findClass own = some m.cls ∧ (∀ w ∈ bigG, w.before args s = true) ∧ (ini = true → meth.name = "<init>") ∧ Tb g s
def VJ (g : GG) (own : String) (cc : ByteArray) (maxL : Nat) (ret : Option FieldType) (ini : Bool) (rm : Room) (o : Option Value) (σ' : Mm) (kc ks pc : Nat) (lv : List (Nat × Value)) (st : List Value) (σ : Mm) : Prop :=
  ∀ (p : Program) (e : Env) (s : State) (m : MethodId) (args : Array Value) (below : List Frame) (meth : Method) (c : Code) (H : Heap) (locs : List Loc) (cells slots : Nat) (ls : Array Slot),
    En g own cc maxL ret ini p s m args meth c → Rel g σ H → va_S (aA g) s.heap H locs → lv_has ls maxL lv → cells + kc ≤ rm.cells → slots + ks ≤ rm.slots →
    W p (gl g) e rm s m args below meth c H locs cells slots (MQ below (Qg g o σ') args s rm.cells rm.slots (aA g)) (F0 m pc ls st)
set_option maxHeartbeats 4000000 in
theorem Ct.of {g : GG} {y : MethodName} {cc : ByteArray} {maxL : Nat} {ret : Option FieldType} {rm : Room} {av : List Value} {σ σ' : Mm} {o : Option Value} (ini : Bool) (hy : plainFor y = true) (hini : ini = true → y.name = "<init>") (hlen : (lg_sl av).length ≤ maxL)
    (h : VJ g y.cls cc maxL ret ini rm o σ' rm.cells rm.slots 0 (lv_args 0 av) [] σ) : Ct g y cc maxL ret rm av σ o σ' := by
  unfold Ct Met
  refine MetFree.of_bodySF (code := cc) (maxLocals := maxL) (ret := ret) hy ?_ ?_
  · intro args s m h hn
    obtain ⟨meth, c, h1, h2, h3, h4, h5, h6, -, -⟩ := Cond.code_spec hn (atoms_spec (ws := Cond.code y cc maxL ret :: bigG) h _ List.mem_cons_self)
    exact ⟨meth, c, h1, h2, h3, h4, h5, h6⟩
  intro p e s m args below meth c s₁ B hml hv _
  obtain ⟨rfl, hR, hT⟩ := hv
  have hh0 : s₁.heap = s.heap := by rw [B.state]; rfl
  have hts := atoms_spec (ws := Cond.code y cc maxL ret :: bigG) B.pre
  have hl := lv_entry av (n := maxL) hlen
  rw [lg_entry_eq]
  obtain ⟨t, a1, o, b1, b2, b3⟩ := h p e s m _ below meth c s.heap [] 0 0 _ ⟨B.exec, B.bytes, hml, B.returns, B.notSynchronized, findClass_of_methodNamed B.named, fun w hw => hts w (List.mem_cons_of_mem _ hw), fun hi => (name_of_methodNamed B.named B.method).1.trans (hini hi), hT⟩ hR va_S.rf hl (Nat.le_of_eq (Nat.zero_add _)) (Nat.le_of_eq (Nat.zero_add _)) s₁ hh0 (Stand.of_body B)
  exact ⟨t, o, a1, b1, b2, ⟨b3.1, b3.2⟩⟩
theorem wsGood {y : MethodName} {cc : ByteArray} {maxL : Nat} {ret : Option FieldType} (h : Cond.code y cc maxL ret ∈ bigG) : GoodIn bigG (Cond.code y cc maxL ret :: bigG) := by
  intro w hw
  rcases List.mem_cons.mp hw with rfl | hw
  · exact ⟨h, bigG_good h⟩
  · exact ⟨hw, bigG_good hw⟩
section CALLS
variable {p : Program} {e : Env} {rm : Room} {s : State} {m : MethodId} {args : Array Value} {below : List Frame} {meth : Method} {c : Code} {H : Heap} {locs : List Loc} {cells slots : Nat} {Q : State → Prop} {g : GG} {own : String} {cc : ByteArray} {maxL : Nat} {ret : Option FieldType} {ini : Bool} {σ : Mm} {ls : Array Slot} {pc : Nat} {rest st0 : List Value} {lv : List (Nat × Value)}
theorem Tb.U (E : En g own cc maxL ret ini p s m args meth c) (hR : Rel g σ H) {U : State} (hU : U.heap = H) (hW : s.WarmedH U.vm) : Pre0 g σ U :=
  ⟨by rw [hU]; exact hR, E.2.2.2.2.2.2.2.2.warm hW (by rw [hU, hR.1]; exact Nat.le_add_right _ _)⟩
theorem blind (av : List Value) : FrameBlind (va_Pc av (Pre0 g σ)) := fun a U f mk q =>
  ⟨q.1, q.2.1, va_K.moved (u := U) (U := U.calling f mk a) (Vm.Alike.refl U.vm) q.2.2.1, Nws.same (s := U) (U := U.calling f mk a) rfl q.2.2.2.1, va_AO.moved (u := U) (U := U.calling f mk a) (Vm.Alike.refl U.vm) q.2.2.2.2.1, va_AO.moved (u := U) (U := U.calling f mk a) (Vm.Alike.refl U.vm) q.2.2.2.2.2.1, q.2.2.2.2.2.2⟩
/-- what a call needs of the tables: 0 virtual, 1 static, 2 special; nest mates have another link -/
def LkB (y : MethodName) (cc' : ByteArray) (maxL' : Nat) (ret' : Option FieldType) (n : Nat) : Prop :=
  Cond.code y cc' maxL' ret' ∈ bigG ∧ Cond.initialized y.cls ∈ bigG ∧ (y.cls ≠ "java/lang/invoke/MethodHandle" ∧ y.cls ≠ "java/lang/invoke/VarHandle" ∧ (parseMethodDescriptor y.desc).map (fun d => d.parameters.length) = some n)
def LkV (y : MethodName) : Prop := Cond.instanceMethod y ∈ bigG ∧ Cond.selects y.cls y y ∈ bigG
theorem goesOn {rm' : Room} {a : Array Value} {o : Option Value} {σ1 : Mm} {st1 : List Value} (hst1 : o.toList ++ rest = st1)
    (hr : va_Run p (gl g) e rm s m args below meth c H locs cells slots rm'.cells rm'.slots (F0 m pc ls st0) rest (Qg g o σ1 a) (aA g)) (hS : va_S (aA g) s.heap H locs)
    (kk : ∀ (H1 : Heap) (locs1 : List Loc), Rel g σ1 H1 → va_S (aA g) s.heap H1 locs1 → W p (gl g) e rm s m args below meth c H1 locs1 (cells + rm'.cells) (slots + rm'.slots) Q (F0 m (pc + 3) ls st1)) : W p (gl g) e rm s m args below meth c H locs cells slots Q (F0 m pc ls st0) := by
  intro T hT X
  obtain ⟨v, st₀, t, T', L, h0, X', hL, e1, e2, ⟨hv, hR1, hz, hk⟩, st⟩ := hr T hT X
  cases hv
  subst hst1
  rw [h0] at hz hk
  obtain ⟨t2, a1, b1⟩ := kk T'.heap (locs ++ L) (by rw [e1]; exact hR1)
    ⟨Nat.le_trans hS.1 (by rw [e1]; exact hz), fun q h1 h2 => by rw [e1, hk q (Nat.lt_of_lt_of_le h1 hS.1) h2]; exact hS.2.1 q h1 h2, fun q hq => by
      rcases List.mem_append.mp hq with h | h
      · exact hS.2.2 q h
      · exact hL q h⟩ T' rfl X'
  exact ⟨t2, st t2 a1, b1⟩
variable {st1 : List Value} {y : MethodName} {cc' : ByteArray} {maxL' n idx : Nat} {ret' : Option FieldType} {rm' : Room} {As : List Value} {o : Option Value} {σ1 : Mm} {a : Nat} {ci : Nat} {C : String} {T : u_T} {N : Nat} {ty : Nat → FieldType} {host : String}
theorem xV (E : En g own cc maxL ret ini p s m args meth c) (hR : Rel g σ H) (hS : va_S (aA g) s.heap H locs) (hl : lv_has ls maxL lv)
    (hM : Ct g y cc' maxL' ret' rm' (.ref (gB g + a) :: As) σ o σ1) (hk : kO σ a ci = true) (hok : ClsOk ci y.cls T N ty) (hB : LkB y cc' maxL' ret' n) (hV : LkV y) (hlk : Cond.methodLink own idx y ∈ bigG)
    (hroom : rm'.frames + 1 ≤ rm.frames ∧ 8 + (maxL' + 11) + rm'.locals ≤ rm.locals) (hn : As.length = n) (hst : st0 = As.reverse ++ .ref (gB g + a) :: rest) (hst1 : o.toList ++ rest = st1) (hrest : (rest.map fun v => v.category).sum ≤ 8) (hdg : decode cc pc = .ok (.invokevirtual idx, 3)) (hf : cells + rm'.cells ≤ rm.cells ∧ slots + rm'.slots ≤ rm.slots)
    (kk : ∀ (H1 : Heap) (locs1 : List Loc), Rel g σ1 H1 → va_S (aA g) s.heap H1 locs1 → W p (gl g) e rm s m args below meth c H1 locs1 (cells + rm'.cells) (slots + rm'.slots) Q (F0 m (pc + 3) ls st1)) : W p (gl g) e rm s m args below meth c H locs cells slots Q (F0 m pc ls st0) := by
  obtain ⟨hx, hb, hml, hr, hlocks, hown, hts, hin, hT⟩ := id E
  obtain ⟨ha, hkk⟩ := kO_spec hk
  refine goesOn hst1 (a := (Value.ref (gB g + a) :: As).toArray) (va_runV (C := y.cls) (n := n) (As := As) (rest := rest) ⟨hx, hb, hml, hown, hts⟩ hM ⟨callB_of n hts (wsGood hB.1) rfl rfl rfl (hts _ hB.2.1) (hts _ hlk) hB.2.2 hroom, hts _ hV.1, hts _ hV.2⟩ ⟨blind _, va_recv hT.1 hR.2 hok.1 (by rw [hw_get ha, cE_obj hkk]), fun U hU hW => ⟨rfl, Tb.U E hR hU hW⟩⟩ rfl hn hl.1 hst (lv_room hrest) hdg hf) hS kk
theorem xS (E : En g own cc maxL ret ini p s m args meth c) (hR : Rel g σ H) (hS : va_S (aA g) s.heap H locs) (hl : lv_has ls maxL lv)
    (hM : Ct g y cc' maxL' ret' rm' As σ o σ1) (hB : LkB y cc' maxL' ret' n) (hV : Cond.static y ∈ bigG) (hlk : Cond.methodLink own idx y ∈ bigG)
    (hroom : rm'.frames + 1 ≤ rm.frames ∧ 8 + (maxL' + 11) + rm'.locals ≤ rm.locals) (hn : As.length = n) (hst : st0 = As.reverse ++ rest) (hst1 : o.toList ++ rest = st1) (hrest : (rest.map fun v => v.category).sum ≤ 8) (hdg : decode cc pc = .ok (.invokestatic idx, 3)) (hf : cells + rm'.cells ≤ rm.cells ∧ slots + rm'.slots ≤ rm.slots)
    (kk : ∀ (H1 : Heap) (locs1 : List Loc), Rel g σ1 H1 → va_S (aA g) s.heap H1 locs1 → W p (gl g) e rm s m args below meth c H1 locs1 (cells + rm'.cells) (slots + rm'.slots) Q (F0 m (pc + 3) ls st1)) : W p (gl g) e rm s m args below meth c H locs cells slots Q (F0 m pc ls st0) := by
  obtain ⟨hx, hb, hml, hr, hlocks, hown, hts, hin, hT⟩ := id E
  refine goesOn hst1 (a := As.toArray) (va_runS (n := n) (As := As) (rest := rest) ⟨hx, hb, hml, hown, hts⟩ hM ⟨callB_of n hts (wsGood hB.1) rfl rfl rfl (hts _ hB.2.1) (hts _ hlk) hB.2.2 hroom, hts _ hV⟩ ⟨blind _, fun U hU hW => ⟨rfl, Tb.U E hR hU hW⟩⟩ rfl hn hl.1 hst (lv_room hrest) hdg hf) hS kk
theorem xSN (E : En g own cc maxL ret ini p s m args meth c) (hR : Rel g σ H) (hS : va_S (aA g) s.heap H locs) (hl : lv_has ls maxL lv)
    (hM : Ct g y cc' maxL' ret' rm' As σ o σ1) (hB : LkB y cc' maxL' ret' n) (hV : Cond.static y ∈ bigG) (hlk : (own, idx, y, host) ∈ nwL)
    (hroom : rm'.frames + 1 ≤ rm.frames ∧ 8 + (maxL' + 11) + rm'.locals ≤ rm.locals) (hn : As.length = n) (hst : st0 = As.reverse ++ rest) (hst1 : o.toList ++ rest = st1) (hrest : (rest.map fun v => v.category).sum ≤ 8) (hdg : decode cc pc = .ok (.invokestatic idx, 3)) (hf : cells + rm'.cells ≤ rm.cells ∧ slots + rm'.slots ≤ rm.slots)
    (kk : ∀ (H1 : Heap) (locs1 : List Loc), Rel g σ1 H1 → va_S (aA g) s.heap H1 locs1 → W p (gl g) e rm s m args below meth c H1 locs1 (cells + rm'.cells) (slots + rm'.slots) Q (F0 m (pc + 3) ls st1)) : W p (gl g) e rm s m args below meth c H locs cells slots Q (F0 m pc ls st0) := by
  obtain ⟨hx, hb, hml, hr, hlocks, hown, hts, hin, hT⟩ := id E
  refine goesOn hst1 (a := As.toArray) (va_runSN (n := n) (As := As) (rest := rest) ⟨hx, hb, hml, hown, hts⟩ hM ⟨va_cnB n hts (wsGood hB.1) rfl rfl rfl (hT.2.1 _ hlk) (hts _ hB.2.1) hB.2.2 hroom, hts _ hV, trivial⟩ ⟨blind _, fun U hU hW => ⟨rfl, Tb.U E hR hU hW⟩⟩ rfl hn hl.1 hst (lv_room hrest) hdg hf) hS kk
theorem xI (E : En g own cc maxL ret ini p s m args meth c) (hR : Rel g σ H) (hS : va_S (aA g) s.heap H locs) (hl : lv_has ls maxL lv)
    (hM : Ct g y cc' maxL' none rm' (.ref (gB g + a) :: As) σ o σ1) (hB : LkB y cc' maxL' none n) (hV : y.name = "<init>" ∧ Cond.instanceMethod y ∈ bigG) (hlk : Cond.methodLink own idx y ∈ bigG)
    (hroom : rm'.frames + 1 ≤ rm.frames ∧ 8 + (maxL' + 11) + rm'.locals ≤ rm.locals) (hn : As.length = n) (hst : st0 = As.reverse ++ .ref (gB g + a) :: rest) (hst1 : o.toList ++ rest = st1) (hrest : (rest.map fun v => v.category).sum ≤ 8) (hdg : decode cc pc = .ok (.invokespecial idx, 3)) (hf : cells + rm'.cells ≤ rm.cells ∧ slots + rm'.slots ≤ rm.slots)
    (kk : ∀ (H1 : Heap) (locs1 : List Loc), Rel g σ1 H1 → va_S (aA g) s.heap H1 locs1 → W p (gl g) e rm s m args below meth c H1 locs1 (cells + rm'.cells) (slots + rm'.slots) Q (F0 m (pc + 3) ls st1)) : W p (gl g) e rm s m args below meth c H locs cells slots Q (F0 m pc ls st0) := by
  obtain ⟨hx, hb, hml, hr, hlocks, hown, hts, hin, hT⟩ := id E
  refine goesOn hst1 (a := (Value.ref (gB g + a) :: As).toArray) (va_runI (n := n) (As := As) (rest := rest) ⟨hx, hb, hml, hown, hts⟩ hM ⟨callB_of n hts (wsGood hB.1) rfl rfl rfl (hts _ hB.2.1) (hts _ hlk) hB.2.2 hroom, hV.1, hts _ hV.2⟩ ⟨blind _, fun U hU hW => ⟨rfl, Tb.U E hR hU hW⟩⟩ rfl hn hl.1 hst (lv_room hrest) hdg hf) hS kk
theorem xIN (E : En g own cc maxL ret ini p s m args meth c) (hR : Rel g σ H) (hS : va_S (aA g) s.heap H locs) (hl : lv_has ls maxL lv)
    (hM : Ct g y cc' maxL' none rm' (.ref (gB g + a) :: As) σ o σ1) (hB : LkB y cc' maxL' none n) (hV : y.name = "<init>" ∧ Cond.instanceMethod y ∈ bigG) (hlk : (own, idx, y, host) ∈ nwL)
    (hroom : rm'.frames + 1 ≤ rm.frames ∧ 8 + (maxL' + 11) + rm'.locals ≤ rm.locals) (hn : As.length = n) (hst : st0 = As.reverse ++ .ref (gB g + a) :: rest) (hst1 : o.toList ++ rest = st1) (hrest : (rest.map fun v => v.category).sum ≤ 8) (hdg : decode cc pc = .ok (.invokespecial idx, 3)) (hf : cells + rm'.cells ≤ rm.cells ∧ slots + rm'.slots ≤ rm.slots)
    (kk : ∀ (H1 : Heap) (locs1 : List Loc), Rel g σ1 H1 → va_S (aA g) s.heap H1 locs1 → W p (gl g) e rm s m args below meth c H1 locs1 (cells + rm'.cells) (slots + rm'.slots) Q (F0 m (pc + 3) ls st1)) : W p (gl g) e rm s m args below meth c H locs cells slots Q (F0 m pc ls st0) := by
  obtain ⟨hx, hb, hml, hr, hlocks, hown, hts, hin, hT⟩ := id E
  refine goesOn hst1 (a := (Value.ref (gB g + a) :: As).toArray) (va_runIN (n := n) (As := As) (rest := rest) ⟨hx, hb, hml, hown, hts⟩ hM ⟨va_cnB n hts (wsGood hB.1) rfl rfl rfl (hT.2.1 _ hlk) (hts _ hB.2.1) hB.2.2 hroom, hV.1, hts _ hV.2⟩ ⟨blind _, fun U hU hW => ⟨rfl, Tb.U E hR hU hW⟩⟩ rfl hn hl.1 hst (lv_room hrest) hdg hf) hS kk
end CALLS
