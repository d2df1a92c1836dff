/-- the memory at the law's beginning: nothing yet -/
def m0 : Mm := (0, fun _ => (0, 0), fun _ _ => none, fun _ _ => 0)
theorem aO_get {s : State} {C : String} {A : Array Value} (h : (Cond.arrayOver (.object C)).before A s = true) : ∃ cA : ClassId, ArrOfT s cA (.object C) ∧ va_RA s cA (.object C) := by
  obtain ⟨comp, c, k, h1, h2, h3, h4, h5⟩ := Cond.arrayOver_spec h
  exact ⟨c, fun n z => ⟨(fun k h => by cases h), k, h3, comp, h4⟩, k, comp, h3, h4, h1, h5⟩
theorem aC_get {s : State} {ty : FieldType} {A : Array Value} (hnr : ∀ C, ty ≠ .object C) (h : (Cond.arrayClass ty).before A s = true) : ∃ cA : ClassId, ArrOfT s cA ty ∧ va_RA s cA ty := by
  obtain ⟨c, k, comp, h1, h2, h3⟩ := Cond.arrayClass_spec h
  refine ⟨c, fun n z => ⟨(fun k h => by cases h), k, h2, comp, h3⟩, ?_⟩
  cases ty with
  | object C => exact absurd rfl (hnr C)
  | _ => exact h1
set_option maxHeartbeats 4000000 in
set_option maxRecDepth 100000 in
theorem whole_start {p : Program} {e : Env} {s : State} {m : MethodId} {below : List Frame} {meth : Method} {c : Code} (l : Launch) (hflags : l.flags = flags0) {b L : Nat} {xs : Nat → Int32} (hL : L ≤ 2048) (C0 : lw_At p s m meth c b L xs) : W p l e room_1 s m #[Value.ref b] below meth c s.heap [] 0 0 (lw_Z below #[Value.ref b] s) (entryFrame m ([Value.ref b] : List Value).toArray 4) := by
  obtain ⟨hx, hb, hr, hml, hown, hts, hX, hbl, hlocks, hgv⟩ := id C0
  have htG : ∀ w ∈ bigG, w.before #[Value.ref b] s = true := fun w h => hts w (List.mem_filter.mp h).1
  obtain ⟨c0, iS0, hKn0⟩ := u_known (C := RX0) (T := TX0) (N := 3) (n := 3) htG ok0.2.1 (htG _ cn0)
  obtain ⟨c1, iS1, hKn1⟩ := u_known (C := RX1) (T := TX1) (N := 2) (n := 2) htG ok1.2.1 (htG _ cn1)
  obtain ⟨c2, iS2, hKn2⟩ := u_known (C := RX2) (T := TX2) (N := 2) (n := 2) htG ok2.2.1 (htG _ cn2)
  obtain ⟨c3, iS3, hKn3⟩ := u_known (C := RX3) (T := TX3) (N := 5) (n := 5) htG ok3.2.1 (htG _ cn3)
  obtain ⟨c4, iS4, hKn4⟩ := u_known (C := RX4) (T := TX4) (N := 4) (n := 4) htG ok4.2.1 (htG _ cn4)
  obtain ⟨c5, iS5, hKn5⟩ := u_known (C := RX5) (T := TX5) (N := 7) (n := 7) htG ok5.2.1 (htG _ cn5)
  obtain ⟨c6, iS6, hKn6⟩ := u_known (C := RX6) (T := TX6) (N := 2) (n := 2) htG ok6.2.1 (htG _ cn6)
  obtain ⟨c7, iS7, hKn7⟩ := u_known (C := RX7) (T := TX7) (N := 8) (n := 8) htG ok7.2.1 (htG _ cn7)
  obtain ⟨c8, iS8, hKn8⟩ := u_known (C := RX8) (T := TX8) (N := 8) (n := 8) htG ok8.2.1 (htG _ cn8)
  obtain ⟨c9, iS9, hKn9⟩ := u_known (C := RX9) (T := TX9) (N := 46) (n := 46) htG ok9.2.1 (htG _ cn9)
  obtain ⟨dC, dI, hKc⟩ : ∃ (dC : Nat → ClassId) (dI : Nat → Nat → Nat), ∀ (k : Nat) (q : vw_C), vwCl[k]? = some q → u_Kn s q.1 q.2.1 q.2.2 (dC k) (dI k) := by
    refine ⟨fun k => match k with
      | 0 => c0
      | 1 => c1
      | 2 => c2
      | 3 => c3
      | 4 => c4
      | 5 => c5
      | 6 => c6
      | 7 => c7
      | 8 => c8
      | _ => c9, fun k => match k with
      | 0 => iS0
      | 1 => iS1
      | 2 => iS2
      | 3 => iS3
      | 4 => iS4
      | 5 => iS5
      | 6 => iS6
      | 7 => iS7
      | 8 => iS8
      | _ => iS9, ?_⟩
    intro k q hq
    match k, hq with
    | 0, hq => cases hq; exact hKn0
    | 1, hq => cases hq; exact hKn1
    | 2, hq => cases hq; exact hKn2
    | 3, hq => cases hq; exact hKn3
    | 4, hq => cases hq; exact hKn4
    | 5, hq => cases hq; exact hKn5
    | 6, hq => cases hq; exact hKn6
    | 7, hq => cases hq; exact hKn7
    | 8, hq => cases hq; exact hKn8
    | 9, hq => cases hq; exact hKn9
    | k + 10, hq => simp [vwCl] at hq
  obtain ⟨cI, hI1, hI2⟩ := aC_get (ty := .int) (fun C h => by cases h) (htG _ caI)
  obtain ⟨cZ, hZ1, hZ2⟩ := aC_get (ty := .boolean) (fun C h => by cases h) (htG _ caZ)
  have hoP : (Cond.arrayOver (.object "BorderProofs$Pairs")).before #[Value.ref b] s = true := hts _ (List.mem_of_getElem? (i := 138) (by decide +kernel))
  have hoS : (Cond.arrayOver (.object "BorderProofs$Slot")).before #[Value.ref b] s = true := hts _ (List.mem_of_getElem? (i := 198) (by decide +kernel))
  obtain ⟨cP, hP1, hP2⟩ := aO_get hoP
  obtain ⟨cS, hS1, hS2⟩ := aO_get hoS
  obtain ⟨σ', hf⟩ := law_pure L xs hL
  have hnw : ∀ q ∈ nwL, (Cond.methodLinkNest q.1 q.2.1 q.2.2.1 q.2.2.2) ∈ lw_tbl := by
    intro q hq
    have hq2 : Cond.methodLinkNest q.1 q.2.1 q.2.2.1 q.2.2.2 ∈ nwL.map (fun q => Cond.methodLinkNest q.1 q.2.1 q.2.2.1 q.2.2.2) := List.mem_map.mpr ⟨q, hq, rfl⟩
    have hps : nwL.map (fun q => Cond.methodLinkNest q.1 q.2.1 q.2.2.1 q.2.2.2) = [80, 86, 152, 158, 172, 174, 200, 202, 259, 293, 294, 308, 467, 592, 598, 599, 603].filterMap (fun i => lw_tbl[i]?) := by decide +kernel
    rw [hps] at hq2
    obtain ⟨i, -, hi⟩ := List.mem_filterMap.mp hq2
    exact List.mem_of_getElem? hi
  have hTb : Tb (l, dC, dI, cI, cZ, cP, cS, s.heap.size) s := by
    refine ⟨⟨hKc, fun k q hq => ?_⟩, fun q hq => va_Nw.of rfl (hts _ (hnw q hq)), va_AO.of hoP, va_AO.of hoS, Nat.le_refl _⟩
    match k, hq with
    | 0, hq => cases hq; exact ⟨hI1, hI2⟩
    | 1, hq => cases hq; exact ⟨hZ1, hZ2⟩
    | 2, hq => cases hq; exact ⟨hP1, hP2⟩
    | 3, hq => cases hq; exact ⟨hS1, hS2⟩
    | k + 4, hq => simp at hq
  have hl := lv_entry ([.ref b]) (n := 4) (Nat.le_of_ble_eq_true rfl)
  rw [lg_entry_eq]
  exact V_L_law_0 (g := (l, dC, dI, cI, cZ, cP, cS, s.heap.size)) m0 σ' hf 600000 7302250 ⟨Nat.le_of_ble_eq_true rfl, Nat.le_of_ble_eq_true rfl⟩ p e s m below meth c s.heap [] 0 0 _ ⟨⟨hx, hb, hml, hr, hlocks, hown, htG, (fun h => by cases h), hTb⟩, rfl, hX, hbl⟩
    ⟨(Nat.add_zero _).symm, fun k q h => by simp [hw, mN, m0] at h⟩ va_S.rf hl (Nat.le_of_ble_eq_true rfl) (Nat.le_of_ble_eq_true rfl)
