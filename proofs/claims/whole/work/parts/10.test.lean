abbrev rm_J7_fill_53178 : Room := { frames := 0, cells := 0, slots := 0, locals := 0 }
set_option maxRecDepth 100000 in
def f_J7_fill_53178_5 : Nat → Nat → Int32 → Int32 → Int32 → Mm → Option (Unit × Mm)
  | 0, _, _, _, _, _ => none
  | n + 1, v0, v1, v2, v3, σ =>
    if v3 ≤ v2 then (some ((), σ)) else (zck (kA σ 1 v0 v2) (zlt (sD σ v0 (ix v2) v1) (fun σ3 => f_J7_fill_53178_5 n v0 v1 (v2 + (1 : Int32)) v3 σ3)))
set_option maxRecDepth 100000 in
set_option maxHeartbeats 4000000 in
theorem V_J7_fill_53178_5 {g : GG} : ∀ (n : Nat) (v0 : Nat) (v1 : Int32) (v2 : Int32) (v3 : Int32) (σ : Mm) (r : Unit) (σ' : Mm), f_J7_fill_53178_5 n v0 v1 v2 v3 σ = some (r, σ') → VJ g RJ7 cJ7_fill_53178 4 none false rm_J7_fill_53178 none σ' (0) (0) 5 [(0, .ref (gB g + v0)), (1, .int v1), (2, .int v2), (3, .int v3)] [] σ := by
  intro n
  induction n with
  | zero =>
    intro v0 v1 v2 v3 σ r σ' hf
    unfold f_J7_fill_53178_5 at hf
    cases hf
  | succ n ih =>
    intro v0 v1 v2 v3 σ r σ' hf p e s m args below meth c H locs cells slots ls E hR hS hl hc hs
    obtain ⟨hx, hb, hml, hr, hlocks, hown, hts, hin, hT⟩ := id E
    unfold f_J7_fill_53178_5 at hf
    refine lv_iload_n hx hb dJ7_fill_53178_5 rfl (lv_at hl 2 rfl) ?_
    refine lv_iload_n hx hb dJ7_fill_53178_6 rfl (lv_at hl 3 rfl) ?_
    refine lv_icmp_ge (tgt := 20) hx hb dJ7_fill_53178_7 (by decide) (fun hq1 => ?_) (fun hq1 => ?_)
    · have hf := ite_p hq1 hf
      obtain ⟨hr1, hs1⟩ := Prod.mk.inj (Option.some.inj hf)
      exact xr_v E hR hS rfl rfl hs1.symm hc hs dJ7_fill_53178_20
    · have hf := ite_n hq1 hf
      refine lv_aload_n hx hb dJ7_fill_53178_10 rfl (lv_at hl 0 rfl) ?_
      refine lv_iload_n hx hb dJ7_fill_53178_11 rfl (lv_at hl 2 rfl) ?_
      refine lv_iload_n hx hb dJ7_fill_53178_12 rfl (lv_at hl 1 rfl) ?_
      obtain ⟨hk2, hf⟩ := zc_s hf
      obtain ⟨σ3, eσ3, hf⟩ := zl_s hf
      refine x_ist E hR hS hk2 dJ7_fill_53178_13 (fun H locs hR hS => ?_)
      rw [← eσ3] at hR
      refine lv_iinc (v := (v2 + (1 : Int32))) (lv' := [(2, .int (v2 + (1 : Int32))), (0, .ref (gB g + v0)), (1, .int v1), (3, .int v3)]) hx hb dJ7_fill_53178_14 hl (k := 2) rfl rfl (Nat.le_of_ble_eq_true rfl) rfl (fun ls hl => ?_)
      refine lv_goto (tgt := 5) hx hb dJ7_fill_53178_17 (by decide) ?_
      exact ih _ _ _ _ _ _ _ hf p e s m args below meth c _ _ _ _ _ E hR hS (lv_sub hl [1, 2, 0, 3] rfl) hc hs
set_option maxRecDepth 100000 in
def f_J7_fill_53178 (v0 : Nat) (v1 : Int32) (σ : Mm) : Option (Unit × Mm) :=
  zck (kL σ v0) (f_J7_fill_53178_5 1000 v0 v1 (0 : Int32) (Int32.ofNat (mK σ v0).2) σ)
set_option maxRecDepth 100000 in
set_option maxHeartbeats 4000000 in
theorem V_J7_fill_53178_0 {g : GG} (v0 : Nat) (v1 : Int32) (σ : Mm) (r : Unit) (σ' : Mm) (hf : f_J7_fill_53178 v0 v1 σ = some (r, σ')) : VJ g RJ7 cJ7_fill_53178 4 none false rm_J7_fill_53178 none σ' (0) (0) 0 [(0, .ref (gB g + v0)), (1, .int v1)] [] σ := by
  intro p e s m args below meth c H locs cells slots ls E hR hS hl hc hs
  obtain ⟨hx, hb, hml, hr, hlocks, hown, hts, hin, hT⟩ := id E
  unfold f_J7_fill_53178 at hf
  refine lv_iconst (v := (0 : Int32)) hx hb dJ7_fill_53178_0 rfl ?_
  refine lv_istore_n (lv' := [(2, .int (0 : Int32)), (0, .ref (gB g + v0)), (1, .int v1)]) hx hb dJ7_fill_53178_1 rfl hl (Nat.le_of_ble_eq_true rfl) rfl (fun ls hl => ?_)
  refine lv_aload_n hx hb dJ7_fill_53178_2 rfl (lv_at hl 1 rfl) ?_
  obtain ⟨hk4, hf⟩ := zc_s hf
  refine x_alen E hR hk4 dJ7_fill_53178_3 ?_
  refine lv_istore_n (lv' := [(3, .int (Int32.ofNat (mK σ v0).2)), (2, .int (0 : Int32)), (0, .ref (gB g + v0)), (1, .int v1)]) hx hb dJ7_fill_53178_4 rfl hl (Nat.le_of_ble_eq_true rfl) rfl (fun ls hl => ?_)
  exact V_J7_fill_53178_5  1000 _ _ _ _ _ _ _ hf p e s m args below meth c _ _ _ _ _ E hR hS (lv_sub hl [2, 3, 1, 0] rfl) hc hs
theorem C_J7_fill_53178 {g : GG} {v0 : Nat} {v1 : Int32} {σ : Mm} {r : Unit} {σ' : Mm} (hf : f_J7_fill_53178 v0 v1 σ = some (r, σ')) : Ct g yJ7_fill_53178 cJ7_fill_53178 4 none rm_J7_fill_53178 [.ref (gB g + v0), .int v1] σ none σ' :=
  Ct.of false (by decide) (fun h => by cases h) (Nat.le_of_ble_eq_true rfl) (V_J7_fill_53178_0 _ _ _ _ _ hf)
abbrev rm_X2_init : Room := { frames := 1, cells := 1, slots := 100, locals := 23 }
set_option maxRecDepth 100000 in
def f_X2_init (v0 : Nat) (σ : Mm) : Option (Unit × Mm) :=
  zlt (nw σ (1, 100)) (fun σ1 => zck (kO σ1 v0 2) (zlt (sR σ1 v0 0 (mN σ)) (fun σ3 => zrb (mR σ3 v0 0) (fun b4 => zcb (f_J7_fill_53178 b4 (-9 : Int32) σ3) (fun r5 σ6 => some ((), σ6))))))
set_option maxRecDepth 100000 in
set_option maxHeartbeats 4000000 in
theorem V_X2_init_0 {g : GG} (v0 : Nat) (σ : Mm) (r : Unit) (σ' : Mm) (hf : f_X2_init v0 σ = some (r, σ')) (kc ks : Nat) (hqe : 1 ≤ kc ∧ 100 ≤ ks) : VJ g RX2 cX2_init 1 none true rm_X2_init none σ' (kc) (ks) 0 [(0, .ref (gB g + v0))] [] σ := by
  intro p e s m args below meth c H locs cells slots ls E hR hS hl hc hs
  have hc : cells + kc ≤ 1 := hc
  have hs : slots + ks ≤ 100 := hs
  obtain ⟨hx, hb, hml, hr, hlocks, hown, hts, hin, hT⟩ := id E
  unfold f_X2_init at hf
  refine lv_aload_n hx hb dX2_init_0 rfl (lv_at hl 0 rfl) ?_
  refine x_obj (rest := []) E hl ob_X2_3 obI obC (Nat.le_of_ble_eq_true rfl) (Nat.le_of_ble_eq_true rfl) dX2_init_1 ?_
  refine lv_aload_n hx hb dX2_init_4 rfl (lv_at hl 0 rfl) ?_
  refine lv_bipush (v := (100 : Int32)) hx hb dX2_init_5 rfl ?_
  obtain ⟨σ1, eσ1, hf⟩ := zl_s hf
  refine x_newI (L := 100) E hR hS caI (by decide) (by decide) (Nat.le_of_ble_eq_true rfl) (show cells + 1 ≤ 1 by omega) (show slots + 100 ≤ 100 by omega) dX2_init_7 (fun H hR hS => ?_)
  rw [← eσ1] at hR
  obtain ⟨hk2, hf⟩ := zc_s hf
  obtain ⟨σ3, eσ3, hf⟩ := zl_s hf
  refine x_putR E hR hS hk2 ok2 0 (Nat.le_of_ble_eq_true rfl) rfl fl_X2_9 (Or.inr ⟨rfl, rfl, rfl⟩) (fun _ => rfl) (fun _ => rfl) dX2_init_9 (fun H locs hR hS => ?_)
  rw [← eσ3] at hR
  refine lv_aload_n hx hb dX2_init_12 rfl (lv_at hl 0 rfl) ?_
  obtain ⟨b4, hb4, hf⟩ := zr_s hf
  refine x_getR E hR (by rw [eσ3]; exact hk2) hb4 ok2 (Nat.le_of_ble_eq_true rfl) rfl fl_X2_9 dX2_init_13 ?_
  refine lv_bipush (v := (-9 : Int32)) hx hb dX2_init_16 rfl ?_
  obtain ⟨r5, σ6, hcr5, hf⟩ := zq_s hf
  refine xS (As := [.ref (gB g + b4), .int (-9 : Int32)]) (rest := []) (st1 := []) E hR hS hl (C_J7_fill_53178 hcr5) lb_J7_fill_53178 ls_J7_fill_53178 ml_X2_15 ⟨Nat.le_of_ble_eq_true rfl, Nat.le_of_ble_eq_true rfl⟩ rfl rfl rfl (Nat.le_of_ble_eq_true rfl) dX2_init_18 ⟨show cells + 1 + 0 ≤ 1 by omega, show slots + 100 + 0 ≤ 100 by omega⟩ (fun H locs hR hS => ?_)
  obtain ⟨hr1, hs1⟩ := Prod.mk.inj (Option.some.inj hf)
  exact xr_v E hR hS rfl rfl hs1.symm (show cells + 1 + 0 ≤ 1 by omega) (show slots + 100 + 0 ≤ 100 by omega) dX2_init_21
theorem C_X2_init {g : GG} {v0 : Nat} {σ : Mm} {r : Unit} {σ' : Mm} (hf : f_X2_init v0 σ = some (r, σ')) : Ct g yX2_init cX2_init 1 none rm_X2_init [.ref (gB g + v0)] σ none σ' :=
  Ct.of true (by decide) (fun _ => rfl) (Nat.le_of_ble_eq_true rfl) (V_X2_init_0 _ _ _ _ hf 1 100 ⟨Nat.le_of_ble_eq_true rfl, Nat.le_of_ble_eq_true rfl⟩)
abbrev rm_X8_isNumber : Room := { frames := 0, cells := 0, slots := 0, locals := 0 }
set_option maxRecDepth 100000 in
def f_X8_isNumber (v0 : Int32) (σ : Mm) : Option (Int32 × Mm) :=
  if v0 < 0 then (some ((0 : Int32), σ)) else (if (100 : Int32) ≤ v0 then (some ((0 : Int32), σ)) else (some ((1 : Int32), σ)))
set_option maxRecDepth 100000 in
set_option maxHeartbeats 4000000 in
theorem V_X8_isNumber_0 {g : GG} (v0 : Int32) (σ : Mm) (r : Int32) (σ' : Mm) (hf : f_X8_isNumber v0 σ = some (r, σ')) : VJ g RX8 cX8_isNumber 1 (some .boolean) false rm_X8_isNumber (some (.int r)) σ' (0) (0) 0 [(0, .int v0)] [] σ := by
  intro p e s m args below meth c H locs cells slots ls E hR hS hl hc hs
  obtain ⟨hx, hb, hml, hr, hlocks, hown, hts, hin, hT⟩ := id E
  unfold f_X8_isNumber at hf
  refine lv_iload_n hx hb dX8_isNumber_0 rfl (lv_at hl 0 rfl) ?_
  refine lv_if_lt (tgt := 14) hx hb dX8_isNumber_1 (by decide) (fun hq1 => ?_) (fun hq1 => ?_)
  · have hf := ite_p hq1 hf
    refine lv_iconst (v := (0 : Int32)) hx hb dX8_isNumber_14 rfl ?_
    obtain ⟨hr1, hs1⟩ := Prod.mk.inj (Option.some.inj hf)
    exact xr_z E hR hS rfl rfl (by rw [hr1]) hs1.symm hc hs dX8_isNumber_15
  · have hf := ite_n hq1 hf
    refine lv_iload_n hx hb dX8_isNumber_4 rfl (lv_at hl 0 rfl) ?_
    refine lv_bipush (v := (100 : Int32)) hx hb dX8_isNumber_5 rfl ?_
    refine lv_icmp_ge (tgt := 14) hx hb dX8_isNumber_7 (by decide) (fun hq2 => ?_) (fun hq2 => ?_)
    · have hf := ite_p hq2 hf
      refine lv_iconst (v := (0 : Int32)) hx hb dX8_isNumber_14 rfl ?_
      obtain ⟨hr1, hs1⟩ := Prod.mk.inj (Option.some.inj hf)
      exact xr_z E hR hS rfl rfl (by rw [hr1]) hs1.symm hc hs dX8_isNumber_15
    · have hf := ite_n hq2 hf
      refine lv_iconst (v := (1 : Int32)) hx hb dX8_isNumber_10 rfl ?_
      refine lv_goto (tgt := 15) hx hb dX8_isNumber_11 (by decide) ?_
      obtain ⟨hr1, hs1⟩ := Prod.mk.inj (Option.some.inj hf)
      exact xr_z E hR hS rfl rfl (by rw [hr1]) hs1.symm hc hs dX8_isNumber_15
theorem C_X8_isNumber {g : GG} {v0 : Int32} {σ : Mm} {r : Int32} {σ' : Mm} (hf : f_X8_isNumber v0 σ = some (r, σ')) : Ct g yX8_isNumber cX8_isNumber 1 (some .boolean) rm_X8_isNumber [.int v0] σ (some (.int r)) σ' :=
  Ct.of false (by decide) (fun h => by cases h) (Nat.le_of_ble_eq_true rfl) (V_X8_isNumber_0 _ _ _ _ hf)
abbrev rm_X2_valueOf : Room := { frames := 1, cells := 0, slots := 0, locals := 20 }
set_option maxRecDepth 100000 in
def f_X2_valueOf (v0 : Nat) (v1 : Int32) (σ : Mm) : Option (Int32 × Mm) :=
  zcb (f_X8_isNumber v1 σ) (fun r1 σ2 => if r1 = 0 then (some ((-9 : Int32), σ2)) else (zck (kO σ2 v0 2) (zrb (mR σ2 v0 0) (fun b5 => zck (kA σ2 1 b5 v1) (some ((mD σ2 b5 (ix v1)), σ2))))))
set_option maxRecDepth 100000 in
set_option maxHeartbeats 4000000 in
theorem V_X2_valueOf_0 {g : GG} (v0 : Nat) (v1 : Int32) (σ : Mm) (r : Int32) (σ' : Mm) (hf : f_X2_valueOf v0 v1 σ = some (r, σ')) : VJ g RX2 cX2_valueOf 2 (some .int) false rm_X2_valueOf (some (.int r)) σ' (0) (0) 0 [(0, .ref (gB g + v0)), (1, .int v1)] [] σ := by
  intro p e s m args below meth c H locs cells slots ls E hR hS hl hc hs
  obtain ⟨hx, hb, hml, hr, hlocks, hown, hts, hin, hT⟩ := id E
  unfold f_X2_valueOf at hf
  refine lv_iload_n hx hb dX2_valueOf_0 rfl (lv_at hl 1 rfl) ?_
  obtain ⟨r1, σ2, hcr1, hf⟩ := zq_s hf
  refine xSN (As := [.int v1]) (rest := []) (st1 := [.int r1]) E hR hS hl (C_X8_isNumber hcr1) lb_X8_isNumber ls_X8_isNumber nl_X2_25 ⟨Nat.le_of_ble_eq_true rfl, Nat.le_of_ble_eq_true rfl⟩ rfl rfl rfl (Nat.le_of_ble_eq_true rfl) dX2_valueOf_1 ⟨hc, hs⟩ (fun H locs hR hS => ?_)
  refine lv_if_eq (tgt := 16) hx hb dX2_valueOf_4 (by decide) (fun hq3 => ?_) (fun hq3 => ?_)
  · have hf := ite_p hq3 hf
    refine lv_bipush (v := (-9 : Int32)) hx hb dX2_valueOf_16 rfl ?_
    obtain ⟨hr1, hs1⟩ := Prod.mk.inj (Option.some.inj hf)
    exact xr_i E hR hS rfl (by rw [hr1]) hs1.symm hc hs dX2_valueOf_18
  · have hf := ite_n hq3 hf
    refine lv_aload_n hx hb dX2_valueOf_7 rfl (lv_at hl 0 rfl) ?_
    obtain ⟨hk4, hf⟩ := zc_s hf
    obtain ⟨b5, hb5, hf⟩ := zr_s hf
    refine x_getR E hR hk4 hb5 ok2 (Nat.le_of_ble_eq_true rfl) rfl fl_X2_9 dX2_valueOf_8 ?_
    refine lv_iload_n hx hb dX2_valueOf_11 rfl (lv_at hl 1 rfl) ?_
    obtain ⟨hk6, hf⟩ := zc_s hf
    refine x_ild E hR hk6 dX2_valueOf_12 ?_
    refine lv_goto (tgt := 18) hx hb dX2_valueOf_13 (by decide) ?_
    obtain ⟨hr1, hs1⟩ := Prod.mk.inj (Option.some.inj hf)
    exact xr_i E hR hS rfl (by rw [hr1]) hs1.symm hc hs dX2_valueOf_18
theorem C_X2_valueOf {g : GG} {v0 : Nat} {v1 : Int32} {σ : Mm} {r : Int32} {σ' : Mm} (hf : f_X2_valueOf v0 v1 σ = some (r, σ')) : Ct g yX2_valueOf cX2_valueOf 2 (some .int) rm_X2_valueOf [.ref (gB g + v0), .int v1] σ (some (.int r)) σ' :=
  Ct.of false (by decide) (fun h => by cases h) (Nat.le_of_ble_eq_true rfl) (V_X2_valueOf_0 _ _ _ _ _ hf)
abbrev rm_X2_has : Room := { frames := 2, cells := 0, slots := 0, locals := 41 }
set_option maxRecDepth 100000 in
def f_X2_has (v0 : Nat) (v1 : Int32) (σ : Mm) : Option (Int32 × Mm) :=
  zck (kO σ v0 2) (zcb (f_X2_valueOf v0 v1 σ) (fun r2 σ3 => if r2 = (-9 : Int32) then (some ((0 : Int32), σ3)) else (some ((1 : Int32), σ3))))
set_option maxRecDepth 100000 in
set_option maxHeartbeats 4000000 in
theorem V_X2_has_0 {g : GG} (v0 : Nat) (v1 : Int32) (σ : Mm) (r : Int32) (σ' : Mm) (hf : f_X2_has v0 v1 σ = some (r, σ')) : VJ g RX2 cX2_has 2 (some .boolean) false rm_X2_has (some (.int r)) σ' (0) (0) 0 [(0, .ref (gB g + v0)), (1, .int v1)] [] σ := by
  intro p e s m args below meth c H locs cells slots ls E hR hS hl hc hs
  obtain ⟨hx, hb, hml, hr, hlocks, hown, hts, hin, hT⟩ := id E
  unfold f_X2_has at hf
  refine lv_aload_n hx hb dX2_has_0 rfl (lv_at hl 0 rfl) ?_
  refine lv_iload_n hx hb dX2_has_1 rfl (lv_at hl 1 rfl) ?_
  obtain ⟨hk1, hf⟩ := zc_s hf
  obtain ⟨r2, σ3, hcr2, hf⟩ := zq_s hf
  refine xV (As := [.int v1]) (rest := []) (st1 := [.int r2]) E hR hS hl (C_X2_valueOf hcr2) hk1 ok2 lb_X2_valueOf lv_X2_valueOf ml_X2_29 ⟨Nat.le_of_ble_eq_true rfl, Nat.le_of_ble_eq_true rfl⟩ rfl rfl rfl (Nat.le_of_ble_eq_true rfl) dX2_has_2 ⟨hc, hs⟩ (fun H locs hR hS => ?_)
  refine lv_bipush (v := (-9 : Int32)) hx hb dX2_has_5 rfl ?_
  refine lv_icmp_eq (tgt := 14) hx hb dX2_has_7 (by decide) (fun hq4 => ?_) (fun hq4 => ?_)
  · have hf := ite_p hq4 hf
    refine lv_iconst (v := (0 : Int32)) hx hb dX2_has_14 rfl ?_
    obtain ⟨hr1, hs1⟩ := Prod.mk.inj (Option.some.inj hf)
    exact xr_z E hR hS rfl rfl (by rw [hr1]) hs1.symm hc hs dX2_has_15
  · have hf := ite_n hq4 hf
    refine lv_iconst (v := (1 : Int32)) hx hb dX2_has_10 rfl ?_
    refine lv_goto (tgt := 15) hx hb dX2_has_11 (by decide) ?_
    obtain ⟨hr1, hs1⟩ := Prod.mk.inj (Option.some.inj hf)
    exact xr_z E hR hS rfl rfl (by rw [hr1]) hs1.symm hc hs dX2_has_15
theorem C_X2_has {g : GG} {v0 : Nat} {v1 : Int32} {σ : Mm} {r : Int32} {σ' : Mm} (hf : f_X2_has v0 v1 σ = some (r, σ')) : Ct g yX2_has cX2_has 2 (some .boolean) rm_X2_has [.ref (gB g + v0), .int v1] σ (some (.int r)) σ' :=
  Ct.of false (by decide) (fun h => by cases h) (Nat.le_of_ble_eq_true rfl) (V_X2_has_0 _ _ _ _ _ hf)
abbrev rm_X2_countWithin : Room := { frames := 3, cells := 0, slots := 0, locals := 62 }
set_option maxRecDepth 100000 in
def f_X2_countWithin_36 (k_5 : Nat → Int32 → Int32 → Int32 → Int32 → Mm → Option (Int32 × Mm)) (v0 : Nat) (v1 : Int32) (v2 : Int32) (v3 : Int32) (v4 : Int32) (σ : Mm) : Option (Int32 × Mm) :=
  k_5 v0 v1 v2 v3 (v4 + (1 : Int32)) σ
set_option maxRecDepth 100000 in
set_option maxHeartbeats 4000000 in
theorem V_X2_countWithin_36 {g : GG} (k_5 : Nat → Int32 → Int32 → Int32 → Int32 → Mm → Option (Int32 × Mm)) (hk_5 : ∀ (v0 : Nat) (v1 : Int32) (v2 : Int32) (v3 : Int32) (v4 : Int32) (σ : Mm) (r : Int32) (σ' : Mm), k_5 v0 v1 v2 v3 v4 σ = some (r, σ') → VJ g RX2 cX2_countWithin 5 (some .int) false rm_X2_countWithin (some (.int r)) σ' (0) (0) 5 [(0, .ref (gB g + v0)), (1, .int v1), (2, .int v2), (3, .int v3), (4, .int v4)] [] σ) (v0 : Nat) (v1 : Int32) (v2 : Int32) (v3 : Int32) (v4 : Int32) (σ : Mm) (r : Int32) (σ' : Mm) (hf : f_X2_countWithin_36 k_5 v0 v1 v2 v3 v4 σ = some (r, σ')) : VJ g RX2 cX2_countWithin 5 (some .int) false rm_X2_countWithin (some (.int r)) σ' (0) (0) 36 [(0, .ref (gB g + v0)), (1, .int v1), (2, .int v2), (3, .int v3), (4, .int v4)] [] σ := by
  intro p e s m args below meth c H locs cells slots ls E hR hS hl hc hs
  obtain ⟨hx, hb, hml, hr, hlocks, hown, hts, hin, hT⟩ := id E
  unfold f_X2_countWithin_36 at hf
  refine lv_iinc (v := (v4 + (1 : Int32))) (lv' := [(4, .int (v4 + (1 : Int32))), (0, .ref (gB g + v0)), (1, .int v1), (2, .int v2), (3, .int v3)]) hx hb dX2_countWithin_36 hl (k := 4) rfl rfl (Nat.le_of_ble_eq_true rfl) rfl (fun ls hl => ?_)
  refine lv_goto (tgt := 5) hx hb dX2_countWithin_39 (by decide) ?_
  exact hk_5 _ _ _ _ _ _ _ _ hf p e s m args below meth c _ _ _ _ _ E hR hS (lv_sub hl [1, 2, 3, 4, 0] rfl) hc hs
set_option maxRecDepth 100000 in
def f_X2_countWithin_5 : Nat → Nat → Int32 → Int32 → Int32 → Int32 → Mm → Option (Int32 × Mm)
  | 0, _, _, _, _, _, _ => none
  | n + 1, v0, v1, v2, v3, v4, σ =>
    if (100 : Int32) ≤ v4 then (some (v3, σ)) else (if v4 < v1 then (f_X2_countWithin_36 (f_X2_countWithin_5 n) v0 v1 v2 v3 v4 σ) else (if v2 < v4 then (f_X2_countWithin_36 (f_X2_countWithin_5 n) v0 v1 v2 v3 v4 σ) else (zck (kO σ v0 2) (zcb (f_X2_has v0 v4 σ) (fun r5 σ6 => if r5 = 0 then (f_X2_countWithin_36 (f_X2_countWithin_5 n) v0 v1 v2 v3 v4 σ6) else (f_X2_countWithin_36 (f_X2_countWithin_5 n) v0 v1 v2 (v3 + (1 : Int32)) v4 σ6))))))
set_option maxRecDepth 100000 in
set_option maxHeartbeats 4000000 in
theorem V_X2_countWithin_5 {g : GG} : ∀ (n : Nat) (v0 : Nat) (v1 : Int32) (v2 : Int32) (v3 : Int32) (v4 : Int32) (σ : Mm) (r : Int32) (σ' : Mm), f_X2_countWithin_5 n v0 v1 v2 v3 v4 σ = some (r, σ') → VJ g RX2 cX2_countWithin 5 (some .int) false rm_X2_countWithin (some (.int r)) σ' (0) (0) 5 [(0, .ref (gB g + v0)), (1, .int v1), (2, .int v2), (3, .int v3), (4, .int v4)] [] σ := by
  intro n
  induction n with
  | zero =>
    intro v0 v1 v2 v3 v4 σ r σ' hf
    unfold f_X2_countWithin_5 at hf
    cases hf
  | succ n ih =>
    intro v0 v1 v2 v3 v4 σ r σ' hf p e s m args below meth c H locs cells slots ls E hR hS hl hc hs
    obtain ⟨hx, hb, hml, hr, hlocks, hown, hts, hin, hT⟩ := id E
    unfold f_X2_countWithin_5 at hf
    refine lv_iload hx hb dX2_countWithin_5 (lv_at hl 4 rfl) ?_
    refine lv_bipush (v := (100 : Int32)) hx hb dX2_countWithin_7 rfl ?_
    refine lv_icmp_ge (tgt := 42) hx hb dX2_countWithin_9 (by decide) (fun hq1 => ?_) (fun hq1 => ?_)
    · have hf := ite_p hq1 hf
      refine lv_iload_n hx hb dX2_countWithin_42 rfl (lv_at hl 3 rfl) ?_
      obtain ⟨hr1, hs1⟩ := Prod.mk.inj (Option.some.inj hf)
      exact xr_i E hR hS rfl (by rw [hr1]) hs1.symm hc hs dX2_countWithin_43
    · have hf := ite_n hq1 hf
      refine lv_iload_n hx hb dX2_countWithin_12 rfl (lv_at hl 1 rfl) ?_
      refine lv_iload hx hb dX2_countWithin_13 (lv_at hl 4 rfl) ?_
      refine lv_icmp_gt (tgt := 36) hx hb dX2_countWithin_15 (by decide) (fun hq2 => ?_) (fun hq2 => ?_)
      · have hf := ite_p hq2 hf
        exact V_X2_countWithin_36 _ ih _ _ _ _ _ _ _ _ hf p e s m args below meth c _ _ _ _ _ E hR hS (lv_sub hl [0, 1, 2, 3, 4] rfl) hc hs
      · have hf := ite_n hq2 hf
        refine lv_iload hx hb dX2_countWithin_18 (lv_at hl 4 rfl) ?_
        refine lv_iload_n hx hb dX2_countWithin_20 rfl (lv_at hl 2 rfl) ?_
        refine lv_icmp_gt (tgt := 36) hx hb dX2_countWithin_21 (by decide) (fun hq3 => ?_) (fun hq3 => ?_)
        · have hf := ite_p hq3 hf
          exact V_X2_countWithin_36 _ ih _ _ _ _ _ _ _ _ hf p e s m args below meth c _ _ _ _ _ E hR hS (lv_sub hl [0, 1, 2, 3, 4] rfl) hc hs
        · have hf := ite_n hq3 hf
          refine lv_aload_n hx hb dX2_countWithin_24 rfl (lv_at hl 0 rfl) ?_
          refine lv_iload hx hb dX2_countWithin_25 (lv_at hl 4 rfl) ?_
          obtain ⟨hk4, hf⟩ := zc_s hf
          obtain ⟨r5, σ6, hcr5, hf⟩ := zq_s hf
          refine xV (As := [.int v4]) (rest := []) (st1 := [.int r5]) E hR hS hl (C_X2_has hcr5) hk4 ok2 lb_X2_has lv_X2_has ml_X2_33 ⟨Nat.le_of_ble_eq_true rfl, Nat.le_of_ble_eq_true rfl⟩ rfl rfl rfl (Nat.le_of_ble_eq_true rfl) dX2_countWithin_27 ⟨hc, hs⟩ (fun H locs hR hS => ?_)
          refine lv_if_eq (tgt := 36) hx hb dX2_countWithin_30 (by decide) (fun hq7 => ?_) (fun hq7 => ?_)
          · have hf := ite_p hq7 hf
            exact V_X2_countWithin_36 _ ih _ _ _ _ _ _ _ _ hf p e s m args below meth c _ _ _ _ _ E hR hS (lv_sub hl [0, 1, 2, 3, 4] rfl) hc hs
          · have hf := ite_n hq7 hf
            refine lv_iinc (v := (v3 + (1 : Int32))) (lv' := [(3, .int (v3 + (1 : Int32))), (0, .ref (gB g + v0)), (1, .int v1), (2, .int v2), (4, .int v4)]) hx hb dX2_countWithin_33 hl (k := 3) rfl rfl (Nat.le_of_ble_eq_true rfl) rfl (fun ls hl => ?_)
            exact V_X2_countWithin_36 _ ih _ _ _ _ _ _ _ _ hf p e s m args below meth c _ _ _ _ _ E hR hS (lv_sub hl [1, 2, 3, 0, 4] rfl) hc hs
set_option maxRecDepth 100000 in
def f_X2_countWithin (v0 : Nat) (v1 : Int32) (v2 : Int32) (σ : Mm) : Option (Int32 × Mm) :=
  f_X2_countWithin_5 1000 v0 v1 v2 (0 : Int32) (0 : Int32) σ
set_option maxRecDepth 100000 in
set_option maxHeartbeats 4000000 in
theorem V_X2_countWithin_0 {g : GG} (v0 : Nat) (v1 : Int32) (v2 : Int32) (σ : Mm) (r : Int32) (σ' : Mm) (hf : f_X2_countWithin v0 v1 v2 σ = some (r, σ')) : VJ g RX2 cX2_countWithin 5 (some .int) false rm_X2_countWithin (some (.int r)) σ' (0) (0) 0 [(0, .ref (gB g + v0)), (1, .int v1), (2, .int v2)] [] σ := by
  intro p e s m args below meth c H locs cells slots ls E hR hS hl hc hs
  obtain ⟨hx, hb, hml, hr, hlocks, hown, hts, hin, hT⟩ := id E
  unfold f_X2_countWithin at hf
  refine lv_iconst (v := (0 : Int32)) hx hb dX2_countWithin_0 rfl ?_
  refine lv_istore_n (lv' := [(3, .int (0 : Int32)), (0, .ref (gB g + v0)), (1, .int v1), (2, .int v2)]) hx hb dX2_countWithin_1 rfl hl (Nat.le_of_ble_eq_true rfl) rfl (fun ls hl => ?_)
  refine lv_iconst (v := (0 : Int32)) hx hb dX2_countWithin_2 rfl ?_
  refine lv_istore (lv' := [(4, .int (0 : Int32)), (3, .int (0 : Int32)), (0, .ref (gB g + v0)), (1, .int v1), (2, .int v2)]) hx hb dX2_countWithin_3 hl (Nat.le_of_ble_eq_true rfl) rfl (fun ls hl => ?_)
  exact V_X2_countWithin_5  1000 _ _ _ _ _ _ _ _ hf p e s m args below meth c _ _ _ _ _ E hR hS (lv_sub hl [2, 3, 4, 1, 0] rfl) hc hs
theorem C_X2_countWithin {g : GG} {v0 : Nat} {v1 : Int32} {v2 : Int32} {σ : Mm} {r : Int32} {σ' : Mm} (hf : f_X2_countWithin v0 v1 v2 σ = some (r, σ')) : Ct g yX2_countWithin cX2_countWithin 5 (some .int) rm_X2_countWithin [.ref (gB g + v0), .int v1, .int v2] σ (some (.int r)) σ' :=
  Ct.of false (by decide) (fun h => by cases h) (Nat.le_of_ble_eq_true rfl) (V_X2_countWithin_0 _ _ _ _ _ _ hf)
abbrev rm_X2_give : Room := { frames := 1, cells := 0, slots := 0, locals := 20 }
set_option maxRecDepth 100000 in
def f_X2_give_28 (v0 : Nat) (v1 : Int32) (v2 : Int32) (σ : Mm) : Option (Unit × Mm) :=
  zck (kO σ v0 2) (zrb (mR σ v0 0) (fun b2 => zck (kA σ 1 b2 v1) (zlt (sD σ b2 (ix v1) v2) (fun σ4 => some ((), σ4)))))
set_option maxRecDepth 100000 in
set_option maxHeartbeats 4000000 in
theorem V_X2_give_28 {g : GG} (v0 : Nat) (v1 : Int32) (v2 : Int32) (σ : Mm) (r : Unit) (σ' : Mm) (hf : f_X2_give_28 v0 v1 v2 σ = some (r, σ')) : VJ g RX2 cX2_give 3 none false rm_X2_give none σ' (0) (0) 28 [(0, .ref (gB g + v0)), (1, .int v1), (2, .int v2)] [] σ := by
  intro p e s m args below meth c H locs cells slots ls E hR hS hl hc hs
  obtain ⟨hx, hb, hml, hr, hlocks, hown, hts, hin, hT⟩ := id E
  unfold f_X2_give_28 at hf
  refine lv_aload_n hx hb dX2_give_28 rfl (lv_at hl 0 rfl) ?_
  obtain ⟨hk1, hf⟩ := zc_s hf
  obtain ⟨b2, hb2, hf⟩ := zr_s hf
  refine x_getR E hR hk1 hb2 ok2 (Nat.le_of_ble_eq_true rfl) rfl fl_X2_9 dX2_give_29 ?_
  refine lv_iload_n hx hb dX2_give_32 rfl (lv_at hl 1 rfl) ?_
  refine lv_iload_n hx hb dX2_give_33 rfl (lv_at hl 2 rfl) ?_
  obtain ⟨hk3, hf⟩ := zc_s hf
  obtain ⟨σ4, eσ4, hf⟩ := zl_s hf
  refine x_ist E hR hS hk3 dX2_give_34 (fun H locs hR hS => ?_)
  rw [← eσ4] at hR
  obtain ⟨hr1, hs1⟩ := Prod.mk.inj (Option.some.inj hf)
  exact xr_v E hR hS rfl rfl hs1.symm hc hs dX2_give_35
set_option maxRecDepth 100000 in
def f_X2_give (v0 : Nat) (v1 : Int32) (v2 : Int32) (σ : Mm) : Option (Unit × Mm) :=
  zcb (f_X8_isNumber v1 σ) (fun r5 σ6 => if r5 = 0 then (some ((), σ6)) else (zck (kO σ6 v0 2) (zrb (mR σ6 v0 0) (fun b9 => zck (kA σ6 1 b9 v1) (if (mD σ6 b9 (ix v1)) = (-9 : Int32) then (zlt (sD σ6 v0 1 ((mD σ6 v0 1) + (1 : Int32))) (fun σ12 => f_X2_give_28 v0 v1 v2 σ12)) else (f_X2_give_28 v0 v1 v2 σ6))))))
set_option maxRecDepth 100000 in
set_option maxHeartbeats 4000000 in
theorem V_X2_give_0 {g : GG} (v0 : Nat) (v1 : Int32) (v2 : Int32) (σ : Mm) (r : Unit) (σ' : Mm) (hf : f_X2_give v0 v1 v2 σ = some (r, σ')) : VJ g RX2 cX2_give 3 none false rm_X2_give none σ' (0) (0) 0 [(0, .ref (gB g + v0)), (1, .int v1), (2, .int v2)] [] σ := by
  intro p e s m args below meth c H locs cells slots ls E hR hS hl hc hs
  obtain ⟨hx, hb, hml, hr, hlocks, hown, hts, hin, hT⟩ := id E
  unfold f_X2_give at hf
  refine lv_iload_n hx hb dX2_give_0 rfl (lv_at hl 1 rfl) ?_
  obtain ⟨r5, σ6, hcr5, hf⟩ := zq_s hf
  refine xSN (As := [.int v1]) (rest := []) (st1 := [.int r5]) E hR hS hl (C_X8_isNumber hcr5) lb_X8_isNumber ls_X8_isNumber nl_X2_25 ⟨Nat.le_of_ble_eq_true rfl, Nat.le_of_ble_eq_true rfl⟩ rfl rfl rfl (Nat.le_of_ble_eq_true rfl) dX2_give_1 ⟨hc, hs⟩ (fun H locs hR hS => ?_)
  refine lv_if_eq (tgt := 35) hx hb dX2_give_4 (by decide) (fun hq7 => ?_) (fun hq7 => ?_)
  · have hf := ite_p hq7 hf
    obtain ⟨hr1, hs1⟩ := Prod.mk.inj (Option.some.inj hf)
    exact xr_v E hR hS rfl rfl hs1.symm hc hs dX2_give_35
  · have hf := ite_n hq7 hf
    refine lv_aload_n hx hb dX2_give_7 rfl (lv_at hl 0 rfl) ?_
    obtain ⟨hk8, hf⟩ := zc_s hf
    obtain ⟨b9, hb9, hf⟩ := zr_s hf
    refine x_getR E hR hk8 hb9 ok2 (Nat.le_of_ble_eq_true rfl) rfl fl_X2_9 dX2_give_8 ?_
    refine lv_iload_n hx hb dX2_give_11 rfl (lv_at hl 1 rfl) ?_
    obtain ⟨hk10, hf⟩ := zc_s hf
    refine x_ild E hR hk10 dX2_give_12 ?_
    refine lv_bipush (v := (-9 : Int32)) hx hb dX2_give_13 rfl ?_
    refine lv_icmp_ne (tgt := 28) hx hb dX2_give_15 (by decide) (fun hq11 => ?_) (fun hq11 => ?_)
    · have hf := ite_n hq11 hf
      exact V_X2_give_28  _ _ _ _ _ _ hf p e s m args below meth c _ _ _ _ _ E hR hS (lv_sub hl [0, 1, 2] rfl) hc hs
    · have hf := ite_p hq11 hf
      refine lv_aload_n hx hb dX2_give_18 rfl (lv_at hl 0 rfl) ?_
      refine lv_dup hx hb dX2_give_19 rfl ?_
      refine x_getI E hR hk8 ok2 1 (Nat.le_of_ble_eq_true rfl) rfl fl_X2_21 dX2_give_20 ?_
      refine lv_iconst (v := (1 : Int32)) hx hb dX2_give_23 rfl ?_
      refine lv_iadd hx hb dX2_give_24 ?_
      obtain ⟨σ12, eσ12, hf⟩ := zl_s hf
      refine x_putI E hR hS hk8 ok2 1 (Nat.le_of_ble_eq_true rfl) rfl fl_X2_21 (Or.inl rfl) rfl rfl dX2_give_25 (fun H locs hR hS => ?_)
      rw [← eσ12] at hR
      exact V_X2_give_28  _ _ _ _ _ _ hf p e s m args below meth c _ _ _ _ _ E hR hS (lv_sub hl [0, 1, 2] rfl) hc hs
theorem C_X2_give {g : GG} {v0 : Nat} {v1 : Int32} {v2 : Int32} {σ : Mm} {r : Unit} {σ' : Mm} (hf : f_X2_give v0 v1 v2 σ = some (r, σ')) : Ct g yX2_give cX2_give 3 none rm_X2_give [.ref (gB g + v0), .int v1, .int v2] σ none σ' :=
  Ct.of false (by decide) (fun h => by cases h) (Nat.le_of_ble_eq_true rfl) (V_X2_give_0 _ _ _ _ _ _ hf)
abbrev rm_X2_become : Room := { frames := 1, cells := 0, slots := 0, locals := 18 }
set_option maxRecDepth 100000 in
def f_X2_become (v0 : Nat) (v1 : Nat) (σ : Mm) : Option (Unit × Mm) :=
  zck (kO σ v1 2) (zrb (mR σ v1 0) (fun b2 => zck (kO σ v0 2) (zrb (mR σ v0 0) (fun b4 => zck (kC σ b2 b4 (0 : Int32) (0 : Int32) (100 : Int32)) (zlt (sC σ b2 b4 (0 : Int32) (0 : Int32) (100 : Int32)) (fun σ6 => zlt (sD σ6 v0 1 (mD σ6 v1 1)) (fun σ7 => some ((), σ7))))))))
set_option maxRecDepth 100000 in
set_option maxHeartbeats 4000000 in
theorem V_X2_become_0 {g : GG} (v0 : Nat) (v1 : Nat) (σ : Mm) (r : Unit) (σ' : Mm) (hf : f_X2_become v0 v1 σ = some (r, σ')) : VJ g RX2 cX2_become 2 none false rm_X2_become none σ' (0) (0) 0 [(0, .ref (gB g + v0)), (1, .ref (gB g + v1))] [] σ := by
  intro p e s m args below meth c H locs cells slots ls E hR hS hl hc hs
  obtain ⟨hx, hb, hml, hr, hlocks, hown, hts, hin, hT⟩ := id E
  unfold f_X2_become at hf
  refine lv_aload_n hx hb dX2_become_0 rfl (lv_at hl 1 rfl) ?_
  obtain ⟨hk1, hf⟩ := zc_s hf
  obtain ⟨b2, hb2, hf⟩ := zr_s hf
  refine x_getR E hR hk1 hb2 ok2 (Nat.le_of_ble_eq_true rfl) rfl fl_X2_9 dX2_become_1 ?_
  refine lv_iconst (v := (0 : Int32)) hx hb dX2_become_4 rfl ?_
  refine lv_aload_n hx hb dX2_become_5 rfl (lv_at hl 0 rfl) ?_
  obtain ⟨hk3, hf⟩ := zc_s hf
  obtain ⟨b4, hb4, hf⟩ := zr_s hf
  refine x_getR E hR hk3 hb4 ok2 (Nat.le_of_ble_eq_true rfl) rfl fl_X2_9 dX2_become_6 ?_
  refine lv_iconst (v := (0 : Int32)) hx hb dX2_become_9 rfl ?_
  refine lv_bipush (v := (100 : Int32)) hx hb dX2_become_10 rfl ?_
  obtain ⟨hk5, hf⟩ := zc_s hf
  obtain ⟨σ6, eσ6, hf⟩ := zl_s hf
  refine x_copy E hR hS hl hk5 ac_X2_36 acN acS acI (Nat.le_of_ble_eq_true rfl) (Nat.le_of_ble_eq_true rfl) dX2_become_12 (fun H locs hR hS => ?_)
  rw [← eσ6] at hR
  refine lv_aload_n hx hb dX2_become_15 rfl (lv_at hl 0 rfl) ?_
  refine lv_aload_n hx hb dX2_become_16 rfl (lv_at hl 1 rfl) ?_
  refine x_getI E hR (by rw [eσ6]; exact hk1) ok2 1 (Nat.le_of_ble_eq_true rfl) rfl fl_X2_21 dX2_become_17 ?_
  obtain ⟨σ7, eσ7, hf⟩ := zl_s hf
  refine x_putI E hR hS (by rw [eσ6]; exact hk3) ok2 1 (Nat.le_of_ble_eq_true rfl) rfl fl_X2_21 (Or.inl rfl) rfl rfl dX2_become_20 (fun H locs hR hS => ?_)
  rw [← eσ7] at hR
  obtain ⟨hr1, hs1⟩ := Prod.mk.inj (Option.some.inj hf)
  exact xr_v E hR hS rfl rfl hs1.symm hc hs dX2_become_23
theorem C_X2_become {g : GG} {v0 : Nat} {v1 : Nat} {σ : Mm} {r : Unit} {σ' : Mm} (hf : f_X2_become v0 v1 σ = some (r, σ')) : Ct g yX2_become cX2_become 2 none rm_X2_become [.ref (gB g + v0), .ref (gB g + v1)] σ none σ' :=
  Ct.of false (by decide) (fun h => by cases h) (Nat.le_of_ble_eq_true rfl) (V_X2_become_0 _ _ _ _ _ hf)
