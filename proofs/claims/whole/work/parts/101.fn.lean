abbrev rm_X3_init : Room := { frames := 1, cells := 2, slots := 200, locals := 12 }
set_option maxRecDepth 100000 in
def f_X3_init (v0 : Nat) (σ : Mm) : Option (Unit × Mm) :=
  zlt (nw σ (1, 100)) (fun σ1 => zck (kO σ1 v0 3) (zlt (sR σ1 v0 0 (mN σ)) (fun σ3 => zlt (nw σ3 (1, 100)) (fun σ4 => zck (kO σ4 v0 3) (zlt (sR σ4 v0 1 (mN σ3)) (fun σ6 => some ((), σ6)))))))
set_option maxRecDepth 100000 in
set_option maxHeartbeats 4000000 in
theorem V_X3_init_0 {g : GG} (v0 : Nat) (σ : Mm) (r : Unit) (σ' : Mm) (hf : f_X3_init v0 σ = some (r, σ')) (kc ks : Nat) (hqe : 2 ≤ kc ∧ 200 ≤ ks) : VJ g RX3 cX3_init 1 none true rm_X3_init none σ' (kc) (ks) 0 [(0, .ref (gB g + v0))] [] σ := by
  intro p e s m args below meth c H locs cells slots ls E hR hS hl hc hs
  have hc : cells + kc ≤ 2 := hc
  have hs : slots + ks ≤ 200 := hs
  obtain ⟨hx, hb, hml, hr, hlocks, hown, hts, hin, hT⟩ := id E
  unfold f_X3_init at hf
  refine lv_aload_n hx hb dX3_init_0 rfl (lv_at hl 0 rfl) ?_
  refine x_obj (rest := []) E hl ob_X3_3 obI obC (Nat.le_of_ble_eq_true rfl) (Nat.le_of_ble_eq_true rfl) dX3_init_1 ?_
  refine lv_aload_n hx hb dX3_init_4 rfl (lv_at hl 0 rfl) ?_
  refine lv_bipush (v := (100 : Int32)) hx hb dX3_init_5 rfl ?_
  obtain ⟨σ1, eσ1, hf⟩ := zl_s hf
  refine x_newI (L := 100) E hR hS caI (by decide) (by decide) (Nat.le_of_ble_eq_true rfl) (show cells + 1 ≤ 2 by omega) (show slots + 100 ≤ 200 by omega) dX3_init_7 (fun H hR hS => ?_)
  rw [← eσ1] at hR
  obtain ⟨hk2, hf⟩ := zc_s hf
  obtain ⟨σ3, eσ3, hf⟩ := zl_s hf
  refine x_putR E hR hS hk2 ok3 0 (Nat.le_of_ble_eq_true rfl) rfl fl_X3_9 (Or.inr ⟨rfl, rfl, rfl⟩) (fun _ => rfl) (fun _ => rfl) dX3_init_9 (fun H locs hR hS => ?_)
  rw [← eσ3] at hR
  refine lv_aload_n hx hb dX3_init_12 rfl (lv_at hl 0 rfl) ?_
  refine lv_bipush (v := (100 : Int32)) hx hb dX3_init_13 rfl ?_
  obtain ⟨σ4, eσ4, hf⟩ := zl_s hf
  refine x_newI (L := 100) E hR hS caI (by decide) (by decide) (Nat.le_of_ble_eq_true rfl) (show cells + 1 + 1 ≤ 2 by omega) (show slots + 100 + 100 ≤ 200 by omega) dX3_init_15 (fun H hR hS => ?_)
  rw [← eσ4] at hR
  obtain ⟨hk5, hf⟩ := zc_s hf
  obtain ⟨σ6, eσ6, hf⟩ := zl_s hf
  refine x_putR E hR hS hk5 ok3 1 (Nat.le_of_ble_eq_true rfl) rfl fl_X3_15 (Or.inr ⟨rfl, rfl, rfl⟩) (fun _ => rfl) (fun _ => rfl) dX3_init_17 (fun H locs hR hS => ?_)
  rw [← eσ6] at hR
  obtain ⟨hr1, hs1⟩ := Prod.mk.inj (Option.some.inj hf)
  exact xr_v E hR hS rfl rfl hs1.symm (show cells + 1 + 1 ≤ 2 by omega) (show slots + 100 + 100 ≤ 200 by omega) dX3_init_20
theorem C_X3_init {g : GG} {v0 : Nat} {σ : Mm} {r : Unit} {σ' : Mm} (hf : f_X3_init v0 σ = some (r, σ')) : Ct g yX3_init cX3_init 1 none rm_X3_init [.ref (gB g + v0)] σ none σ' :=
  Ct.of true (by decide +kernel) (fun _ => rfl) (Nat.le_of_ble_eq_true rfl) (V_X3_init_0 _ _ _ _ hf 2 200 ⟨Nat.le_of_ble_eq_true rfl, Nat.le_of_ble_eq_true rfl⟩)
abbrev rm_X3_clear : Room := { frames := 0, cells := 0, slots := 0, locals := 0 }
set_option maxRecDepth 100000 in
def f_X3_clear (v0 : Nat) (σ : Mm) : Option (Unit × Mm) :=
  zck (kO σ v0 3) (zlt (sD σ v0 2 (0 : Int32)) (fun σ2 => some ((), σ2)))
set_option maxRecDepth 100000 in
set_option maxHeartbeats 4000000 in
theorem V_X3_clear_0 {g : GG} (v0 : Nat) (σ : Mm) (r : Unit) (σ' : Mm) (hf : f_X3_clear v0 σ = some (r, σ')) : VJ g RX3 cX3_clear 1 none false rm_X3_clear none σ' (0) (0) 0 [(0, .ref (gB g + v0))] [] σ := by
  intro p e s m args below meth c H locs cells slots ls E hR hS hl hc hs
  obtain ⟨hx, hb, hml, hr, hlocks, hown, hts, hin, hT⟩ := id E
  unfold f_X3_clear at hf
  refine lv_aload_n hx hb dX3_clear_0 rfl (lv_at hl 0 rfl) ?_
  refine lv_iconst (v := (0 : Int32)) hx hb dX3_clear_1 rfl ?_
  obtain ⟨hk1, hf⟩ := zc_s hf
  obtain ⟨σ2, eσ2, hf⟩ := zl_s hf
  refine x_putI E hR hS hk1 ok3 2 (Nat.le_of_ble_eq_true rfl) rfl fl_X3_18 (Or.inl rfl) rfl rfl dX3_clear_2 (fun H locs hR hS => ?_)
  rw [← eσ2] at hR
  obtain ⟨hr1, hs1⟩ := Prod.mk.inj (Option.some.inj hf)
  exact xr_v E hR hS rfl rfl hs1.symm hc hs dX3_clear_5
theorem C_X3_clear {g : GG} {v0 : Nat} {σ : Mm} {r : Unit} {σ' : Mm} (hf : f_X3_clear v0 σ = some (r, σ')) : Ct g yX3_clear cX3_clear 1 none rm_X3_clear [.ref (gB g + v0)] σ none σ' :=
  Ct.of false (by decide +kernel) (fun h => by cases h) (Nat.le_of_ble_eq_true rfl) (V_X3_clear_0 _ _ _ _ hf)
abbrev rm_X3_push : Room := { frames := 0, cells := 0, slots := 0, locals := 0 }
set_option maxRecDepth 100000 in
def f_X3_push (v0 : Nat) (v1 : Int32) (v2 : Int32) (σ : Mm) : Option (Unit × Mm) :=
  zck (kO σ v0 3) (if (100 : Int32) ≤ (mD σ v0 2) then (some ((), σ)) else (zrb (mR σ v0 0) (fun b3 => zck (kA σ 1 b3 (mD σ v0 2)) (zlt (sD σ b3 (ix (mD σ v0 2)) v1) (fun σ5 => zrb (mR σ5 v0 1) (fun b6 => zck (kA σ5 1 b6 (mD σ5 v0 2)) (zlt (sD σ5 b6 (ix (mD σ5 v0 2)) v2) (fun σ8 => zlt (sD σ8 v0 2 ((mD σ8 v0 2) + (1 : Int32))) (fun σ9 => some ((), σ9))))))))))
set_option maxRecDepth 100000 in
set_option maxHeartbeats 4000000 in
theorem V_X3_push_0 {g : GG} (v0 : Nat) (v1 : Int32) (v2 : Int32) (σ : Mm) (r : Unit) (σ' : Mm) (hf : f_X3_push v0 v1 v2 σ = some (r, σ')) : VJ g RX3 cX3_push 3 none false rm_X3_push none σ' (0) (0) 0 [(0, .ref (gB g + v0)), (1, .int v1), (2, .int v2)] [] σ := by
  intro p e s m args below meth c H locs cells slots ls E hR hS hl hc hs
  obtain ⟨hx, hb, hml, hr, hlocks, hown, hts, hin, hT⟩ := id E
  unfold f_X3_push at hf
  refine lv_aload_n hx hb dX3_push_0 rfl (lv_at hl 0 rfl) ?_
  obtain ⟨hk1, hf⟩ := zc_s hf
  refine x_getI E hR hk1 ok3 2 (Nat.le_of_ble_eq_true rfl) rfl fl_X3_18 dX3_push_1 ?_
  refine lv_bipush (v := (100 : Int32)) hx hb dX3_push_4 rfl ?_
  refine lv_icmp_ge (tgt := 39) hx hb dX3_push_6 (by decide) (fun hq2 => ?_) (fun hq2 => ?_)
  · have hf := ite_p hq2 hf
    obtain ⟨hr1, hs1⟩ := Prod.mk.inj (Option.some.inj hf)
    exact xr_v E hR hS rfl rfl hs1.symm hc hs dX3_push_39
  · have hf := ite_n hq2 hf
    refine lv_aload_n hx hb dX3_push_9 rfl (lv_at hl 0 rfl) ?_
    obtain ⟨b3, hb3, hf⟩ := zr_s hf
    refine x_getR E hR hk1 hb3 ok3 (Nat.le_of_ble_eq_true rfl) rfl fl_X3_9 dX3_push_10 ?_
    refine lv_aload_n hx hb dX3_push_13 rfl (lv_at hl 0 rfl) ?_
    refine x_getI E hR hk1 ok3 2 (Nat.le_of_ble_eq_true rfl) rfl fl_X3_18 dX3_push_14 ?_
    refine lv_iload_n hx hb dX3_push_17 rfl (lv_at hl 1 rfl) ?_
    obtain ⟨hk4, hf⟩ := zc_s hf
    obtain ⟨σ5, eσ5, hf⟩ := zl_s hf
    refine x_ist E hR hS hk4 dX3_push_18 (fun H locs hR hS => ?_)
    rw [← eσ5] at hR
    refine lv_aload_n hx hb dX3_push_19 rfl (lv_at hl 0 rfl) ?_
    obtain ⟨b6, hb6, hf⟩ := zr_s hf
    refine x_getR E hR (by rw [eσ5]; exact hk1) hb6 ok3 (Nat.le_of_ble_eq_true rfl) rfl fl_X3_15 dX3_push_20 ?_
    refine lv_aload_n hx hb dX3_push_23 rfl (lv_at hl 0 rfl) ?_
    refine x_getI E hR (by rw [eσ5]; exact hk1) ok3 2 (Nat.le_of_ble_eq_true rfl) rfl fl_X3_18 dX3_push_24 ?_
    refine lv_iload_n hx hb dX3_push_27 rfl (lv_at hl 2 rfl) ?_
    obtain ⟨hk7, hf⟩ := zc_s hf
    obtain ⟨σ8, eσ8, hf⟩ := zl_s hf
    refine x_ist E hR hS hk7 dX3_push_28 (fun H locs hR hS => ?_)
    rw [← eσ8] at hR
    refine lv_aload_n hx hb dX3_push_29 rfl (lv_at hl 0 rfl) ?_
    refine lv_dup hx hb dX3_push_30 rfl ?_
    refine x_getI E hR (by rw [eσ8, eσ5]; exact hk1) ok3 2 (Nat.le_of_ble_eq_true rfl) rfl fl_X3_18 dX3_push_31 ?_
    refine lv_iconst (v := (1 : Int32)) hx hb dX3_push_34 rfl ?_
    refine lv_iadd hx hb dX3_push_35 ?_
    obtain ⟨σ9, eσ9, hf⟩ := zl_s hf
    refine x_putI E hR hS (by rw [eσ8, eσ5]; exact hk1) ok3 2 (Nat.le_of_ble_eq_true rfl) rfl fl_X3_18 (Or.inl rfl) rfl rfl dX3_push_36 (fun H locs hR hS => ?_)
    rw [← eσ9] at hR
    obtain ⟨hr1, hs1⟩ := Prod.mk.inj (Option.some.inj hf)
    exact xr_v E hR hS rfl rfl hs1.symm hc hs dX3_push_39
theorem C_X3_push {g : GG} {v0 : Nat} {v1 : Int32} {v2 : Int32} {σ : Mm} {r : Unit} {σ' : Mm} (hf : f_X3_push v0 v1 v2 σ = some (r, σ')) : Ct g yX3_push cX3_push 3 none rm_X3_push [.ref (gB g + v0), .int v1, .int v2] σ none σ' :=
  Ct.of false (by decide +kernel) (fun h => by cases h) (Nat.le_of_ble_eq_true rfl) (V_X3_push_0 _ _ _ _ _ _ hf)
abbrev rm_X3_pop : Room := { frames := 0, cells := 0, slots := 0, locals := 0 }
set_option maxRecDepth 100000 in
def f_X3_pop (v0 : Nat) (σ : Mm) : Option (Int32 × Mm) :=
  zck (kO σ v0 3) (if 0 < (mD σ v0 2) then (zlt (sD σ v0 2 ((mD σ v0 2) - (1 : Int32))) (fun σ3 => zrb (mR σ3 v0 0) (fun b4 => zck (kA σ3 1 b4 (mD σ3 v0 2)) (zlt (sD σ3 v0 3 (mD σ3 b4 (ix (mD σ3 v0 2)))) (fun σ6 => zrb (mR σ6 v0 1) (fun b7 => zck (kA σ6 1 b7 (mD σ6 v0 2)) (zlt (sD σ6 v0 4 (mD σ6 b7 (ix (mD σ6 v0 2)))) (fun σ9 => some ((1 : Int32), σ9))))))))) else (some ((0 : Int32), σ)))
set_option maxRecDepth 100000 in
set_option maxHeartbeats 4000000 in
theorem V_X3_pop_0 {g : GG} (v0 : Nat) (σ : Mm) (r : Int32) (σ' : Mm) (hf : f_X3_pop v0 σ = some (r, σ')) : VJ g RX3 cX3_pop 1 (some .boolean) false rm_X3_pop (some (.int r)) σ' (0) (0) 0 [(0, .ref (gB g + v0))] [] σ := by
  intro p e s m args below meth c H locs cells slots ls E hR hS hl hc hs
  obtain ⟨hx, hb, hml, hr, hlocks, hown, hts, hin, hT⟩ := id E
  unfold f_X3_pop at hf
  refine lv_aload_n hx hb dX3_pop_0 rfl (lv_at hl 0 rfl) ?_
  obtain ⟨hk1, hf⟩ := zc_s hf
  refine x_getI E hR hk1 ok3 2 (Nat.le_of_ble_eq_true rfl) rfl fl_X3_18 dX3_pop_1 ?_
  refine lv_if_gt (tgt := 9) hx hb dX3_pop_4 (by decide) (fun hq2 => ?_) (fun hq2 => ?_)
  · have hf := ite_p hq2 hf
    refine lv_aload_n hx hb dX3_pop_9 rfl (lv_at hl 0 rfl) ?_
    refine lv_dup hx hb dX3_pop_10 rfl ?_
    refine x_getI E hR hk1 ok3 2 (Nat.le_of_ble_eq_true rfl) rfl fl_X3_18 dX3_pop_11 ?_
    refine lv_iconst (v := (1 : Int32)) hx hb dX3_pop_14 rfl ?_
    refine lv_isub hx hb dX3_pop_15 ?_
    obtain ⟨σ3, eσ3, hf⟩ := zl_s hf
    refine x_putI E hR hS hk1 ok3 2 (Nat.le_of_ble_eq_true rfl) rfl fl_X3_18 (Or.inl rfl) rfl rfl dX3_pop_16 (fun H locs hR hS => ?_)
    rw [← eσ3] at hR
    refine lv_aload_n hx hb dX3_pop_19 rfl (lv_at hl 0 rfl) ?_
    refine lv_aload_n hx hb dX3_pop_20 rfl (lv_at hl 0 rfl) ?_
    obtain ⟨b4, hb4, hf⟩ := zr_s hf
    refine x_getR E hR (by rw [eσ3]; exact hk1) hb4 ok3 (Nat.le_of_ble_eq_true rfl) rfl fl_X3_9 dX3_pop_21 ?_
    refine lv_aload_n hx hb dX3_pop_24 rfl (lv_at hl 0 rfl) ?_
    refine x_getI E hR (by rw [eσ3]; exact hk1) ok3 2 (Nat.le_of_ble_eq_true rfl) rfl fl_X3_18 dX3_pop_25 ?_
    obtain ⟨hk5, hf⟩ := zc_s hf
    refine x_ild E hR hk5 dX3_pop_28 ?_
    obtain ⟨σ6, eσ6, hf⟩ := zl_s hf
    refine x_putI E hR hS (by rw [eσ3]; exact hk1) ok3 3 (Nat.le_of_ble_eq_true rfl) rfl fl_X3_22 (Or.inl rfl) rfl rfl dX3_pop_29 (fun H locs hR hS => ?_)
    rw [← eσ6] at hR
    refine lv_aload_n hx hb dX3_pop_32 rfl (lv_at hl 0 rfl) ?_
    refine lv_aload_n hx hb dX3_pop_33 rfl (lv_at hl 0 rfl) ?_
    obtain ⟨b7, hb7, hf⟩ := zr_s hf
    refine x_getR E hR (by rw [eσ6, eσ3]; exact hk1) hb7 ok3 (Nat.le_of_ble_eq_true rfl) rfl fl_X3_15 dX3_pop_34 ?_
    refine lv_aload_n hx hb dX3_pop_37 rfl (lv_at hl 0 rfl) ?_
    refine x_getI E hR (by rw [eσ6, eσ3]; exact hk1) ok3 2 (Nat.le_of_ble_eq_true rfl) rfl fl_X3_18 dX3_pop_38 ?_
    obtain ⟨hk8, hf⟩ := zc_s hf
    refine x_ild E hR hk8 dX3_pop_41 ?_
    obtain ⟨σ9, eσ9, hf⟩ := zl_s hf
    refine x_putI E hR hS (by rw [eσ6, eσ3]; exact hk1) ok3 4 (Nat.le_of_ble_eq_true rfl) rfl fl_X3_25 (Or.inl rfl) rfl rfl dX3_pop_42 (fun H locs hR hS => ?_)
    rw [← eσ9] at hR
    refine lv_iconst (v := (1 : Int32)) hx hb dX3_pop_45 rfl ?_
    obtain ⟨hr1, hs1⟩ := Prod.mk.inj (Option.some.inj hf)
    exact xr_z E hR hS rfl rfl (by rw [hr1]) hs1.symm hc hs dX3_pop_46
  · have hf := ite_n hq2 hf
    refine lv_iconst (v := (0 : Int32)) hx hb dX3_pop_7 rfl ?_
    obtain ⟨hr1, hs1⟩ := Prod.mk.inj (Option.some.inj hf)
    exact xr_z E hR hS rfl rfl (by rw [hr1]) hs1.symm hc hs dX3_pop_8
theorem C_X3_pop {g : GG} {v0 : Nat} {σ : Mm} {r : Int32} {σ' : Mm} (hf : f_X3_pop v0 σ = some (r, σ')) : Ct g yX3_pop cX3_pop 1 (some .boolean) rm_X3_pop [.ref (gB g + v0)] σ (some (.int r)) σ' :=
  Ct.of false (by decide +kernel) (fun h => by cases h) (Nat.le_of_ble_eq_true rfl) (V_X3_pop_0 _ _ _ _ hf)
abbrev rm_X3_key : Room := { frames := 0, cells := 0, slots := 0, locals := 0 }
set_option maxRecDepth 100000 in
def f_X3_key (v0 : Nat) (σ : Mm) : Option (Int32 × Mm) :=
  zck (kO σ v0 3) (some ((mD σ v0 3), σ))
set_option maxRecDepth 100000 in
set_option maxHeartbeats 4000000 in
theorem V_X3_key_0 {g : GG} (v0 : Nat) (σ : Mm) (r : Int32) (σ' : Mm) (hf : f_X3_key v0 σ = some (r, σ')) : VJ g RX3 cX3_key 1 (some .int) false rm_X3_key (some (.int r)) σ' (0) (0) 0 [(0, .ref (gB g + v0))] [] σ := by
  intro p e s m args below meth c H locs cells slots ls E hR hS hl hc hs
  obtain ⟨hx, hb, hml, hr, hlocks, hown, hts, hin, hT⟩ := id E
  unfold f_X3_key at hf
  refine lv_aload_n hx hb dX3_key_0 rfl (lv_at hl 0 rfl) ?_
  obtain ⟨hk1, hf⟩ := zc_s hf
  refine x_getI E hR hk1 ok3 3 (Nat.le_of_ble_eq_true rfl) rfl fl_X3_22 dX3_key_1 ?_
  obtain ⟨hr1, hs1⟩ := Prod.mk.inj (Option.some.inj hf)
  exact xr_i E hR hS rfl (by rw [hr1]) hs1.symm hc hs dX3_key_4
theorem C_X3_key {g : GG} {v0 : Nat} {σ : Mm} {r : Int32} {σ' : Mm} (hf : f_X3_key v0 σ = some (r, σ')) : Ct g yX3_key cX3_key 1 (some .int) rm_X3_key [.ref (gB g + v0)] σ (some (.int r)) σ' :=
  Ct.of false (by decide +kernel) (fun h => by cases h) (Nat.le_of_ble_eq_true rfl) (V_X3_key_0 _ _ _ _ hf)
abbrev rm_X3_hi : Room := { frames := 0, cells := 0, slots := 0, locals := 0 }
set_option maxRecDepth 100000 in
def f_X3_hi (v0 : Nat) (σ : Mm) : Option (Int32 × Mm) :=
  zck (kO σ v0 3) (some ((mD σ v0 4), σ))
set_option maxRecDepth 100000 in
set_option maxHeartbeats 4000000 in
theorem V_X3_hi_0 {g : GG} (v0 : Nat) (σ : Mm) (r : Int32) (σ' : Mm) (hf : f_X3_hi v0 σ = some (r, σ')) : VJ g RX3 cX3_hi 1 (some .int) false rm_X3_hi (some (.int r)) σ' (0) (0) 0 [(0, .ref (gB g + v0))] [] σ := by
  intro p e s m args below meth c H locs cells slots ls E hR hS hl hc hs
  obtain ⟨hx, hb, hml, hr, hlocks, hown, hts, hin, hT⟩ := id E
  unfold f_X3_hi at hf
  refine lv_aload_n hx hb dX3_hi_0 rfl (lv_at hl 0 rfl) ?_
  obtain ⟨hk1, hf⟩ := zc_s hf
  refine x_getI E hR hk1 ok3 4 (Nat.le_of_ble_eq_true rfl) rfl fl_X3_25 dX3_hi_1 ?_
  obtain ⟨hr1, hs1⟩ := Prod.mk.inj (Option.some.inj hf)
  exact xr_i E hR hS rfl (by rw [hr1]) hs1.symm hc hs dX3_hi_4
theorem C_X3_hi {g : GG} {v0 : Nat} {σ : Mm} {r : Int32} {σ' : Mm} (hf : f_X3_hi v0 σ = some (r, σ')) : Ct g yX3_hi cX3_hi 1 (some .int) rm_X3_hi [.ref (gB g + v0)] σ (some (.int r)) σ' :=
  Ct.of false (by decide +kernel) (fun h => by cases h) (Nat.le_of_ble_eq_true rfl) (V_X3_hi_0 _ _ _ _ hf)
abbrev rm_X4_init : Room := { frames := 1, cells := 0, slots := 0, locals := 12 }
set_option maxRecDepth 100000 in
def f_X4_init (v0 : Nat) (v1 : Int32) (v2 : Int32) (v3 : Int32) (v4 : Int32) (σ : Mm) : Option (Unit × Mm) :=
  zck (kO σ v0 4) (zlt (sD σ v0 0 v1) (fun σ2 => zlt (sD σ2 v0 1 v2) (fun σ3 => zlt (sD σ3 v0 2 v3) (fun σ4 => zlt (sD σ4 v0 3 v4) (fun σ5 => some ((), σ5))))))
set_option maxRecDepth 100000 in
set_option maxHeartbeats 4000000 in
theorem V_X4_init_0 {g : GG} (v0 : Nat) (v1 : Int32) (v2 : Int32) (v3 : Int32) (v4 : Int32) (σ : Mm) (r : Unit) (σ' : Mm) (hf : f_X4_init v0 v1 v2 v3 v4 σ = some (r, σ')) : VJ g RX4 cX4_init 5 none true rm_X4_init none σ' (0) (0) 0 [(0, .ref (gB g + v0)), (1, .int v1), (2, .int v2), (3, .int v3), (4, .int v4)] [] σ := by
  intro p e s m args below meth c H locs cells slots ls E hR hS hl hc hs
  obtain ⟨hx, hb, hml, hr, hlocks, hown, hts, hin, hT⟩ := id E
  unfold f_X4_init at hf
  refine lv_aload_n hx hb dX4_init_0 rfl (lv_at hl 0 rfl) ?_
  refine x_obj (rest := []) E hl ob_X4_1 obI obC (Nat.le_of_ble_eq_true rfl) (Nat.le_of_ble_eq_true rfl) dX4_init_1 ?_
  refine lv_aload_n hx hb dX4_init_4 rfl (lv_at hl 0 rfl) ?_
  refine lv_iload_n hx hb dX4_init_5 rfl (lv_at hl 1 rfl) ?_
  obtain ⟨hk1, hf⟩ := zc_s hf
  obtain ⟨σ2, eσ2, hf⟩ := zl_s hf
  refine x_putI E hR hS hk1 ok4 0 (Nat.le_of_ble_eq_true rfl) rfl fl_X4_7 (Or.inr ⟨rfl, rfl, rfl⟩) rfl rfl dX4_init_6 (fun H locs hR hS => ?_)
  rw [← eσ2] at hR
  refine lv_aload_n hx hb dX4_init_9 rfl (lv_at hl 0 rfl) ?_
  refine lv_iload_n hx hb dX4_init_10 rfl (lv_at hl 2 rfl) ?_
  obtain ⟨σ3, eσ3, hf⟩ := zl_s hf
  refine x_putI E hR hS (by rw [eσ2]; exact hk1) ok4 1 (Nat.le_of_ble_eq_true rfl) rfl fl_X4_13 (Or.inr ⟨rfl, rfl, rfl⟩) rfl rfl dX4_init_11 (fun H locs hR hS => ?_)
  rw [← eσ3] at hR
  refine lv_aload_n hx hb dX4_init_14 rfl (lv_at hl 0 rfl) ?_
  refine lv_iload_n hx hb dX4_init_15 rfl (lv_at hl 3 rfl) ?_
  obtain ⟨σ4, eσ4, hf⟩ := zl_s hf
  refine x_putI E hR hS (by rw [eσ3, eσ2]; exact hk1) ok4 2 (Nat.le_of_ble_eq_true rfl) rfl fl_X4_16 (Or.inr ⟨rfl, rfl, rfl⟩) rfl rfl dX4_init_16 (fun H locs hR hS => ?_)
  rw [← eσ4] at hR
  refine lv_aload_n hx hb dX4_init_19 rfl (lv_at hl 0 rfl) ?_
  refine lv_iload hx hb dX4_init_20 (lv_at hl 4 rfl) ?_
  obtain ⟨σ5, eσ5, hf⟩ := zl_s hf
  refine x_putI E hR hS (by rw [eσ4, eσ3, eσ2]; exact hk1) ok4 3 (Nat.le_of_ble_eq_true rfl) rfl fl_X4_19 (Or.inr ⟨rfl, rfl, rfl⟩) rfl rfl dX4_init_22 (fun H locs hR hS => ?_)
  rw [← eσ5] at hR
  obtain ⟨hr1, hs1⟩ := Prod.mk.inj (Option.some.inj hf)
  exact xr_v E hR hS rfl rfl hs1.symm hc hs dX4_init_25
theorem C_X4_init {g : GG} {v0 : Nat} {v1 : Int32} {v2 : Int32} {v3 : Int32} {v4 : Int32} {σ : Mm} {r : Unit} {σ' : Mm} (hf : f_X4_init v0 v1 v2 v3 v4 σ = some (r, σ')) : Ct g yX4_init cX4_init 5 none rm_X4_init [.ref (gB g + v0), .int v1, .int v2, .int v3, .int v4] σ none σ' :=
  Ct.of true (by decide +kernel) (fun _ => rfl) (Nat.le_of_ble_eq_true rfl) (V_X4_init_0 _ _ _ _ _ _ _ _ hf)
abbrev rm_X7_init : Room := { frames := 2, cells := 8, slots := 706, locals := 32 }
set_option maxRecDepth 100000 in
def f_X7_init (v0 : Nat) (σ : Mm) : Option (Unit × Mm) :=
  zlt (nw σ (1, 100)) (fun σ1 => zck (kO σ1 v0 7) (zlt (sR σ1 v0 0 (mN σ)) (fun σ3 => zlt (nw σ3 (1, 100)) (fun σ4 => zck (kO σ4 v0 7) (zlt (sR σ4 v0 1 (mN σ3)) (fun σ6 => zlt (nw σ6 (1, 100)) (fun σ7 => zck (kO σ7 v0 7) (zlt (sR σ7 v0 2 (mN σ6)) (fun σ9 => zlt (nw σ9 (1, 101)) (fun σ10 => zck (kO σ10 v0 7) (zlt (sR σ10 v0 3 (mN σ9)) (fun σ12 => zlt (nw σ12 (1, 100)) (fun σ13 => zck (kO σ13 v0 7) (zlt (sR σ13 v0 4 (mN σ12)) (fun σ15 => zlt (sD σ15 v0 6 (-9 : Int32)) (fun σ16 => zlt (nw σ16 (0, 3)) (fun σ17 => zcb (f_X3_init (mN σ16) σ17) (fun r18 σ19 => zck (kO σ19 v0 7) (zlt (sR σ19 v0 7 (mN σ16)) (fun σ21 => some ((), σ21)))))))))))))))))))))
set_option maxRecDepth 100000 in
set_option maxHeartbeats 4000000 in
theorem V_X7_init_0 {g : GG} (v0 : Nat) (σ : Mm) (r : Unit) (σ' : Mm) (hf : f_X7_init v0 σ = some (r, σ')) (kc ks : Nat) (hqe : 8 ≤ kc ∧ 706 ≤ ks) : VJ g RX7 cX7_init 1 none true rm_X7_init none σ' (kc) (ks) 0 [(0, .ref (gB g + v0))] [] σ := by
  intro p e s m args below meth c H locs cells slots ls E hR hS hl hc hs
  have hc : cells + kc ≤ 8 := hc
  have hs : slots + ks ≤ 706 := hs
  obtain ⟨hx, hb, hml, hr, hlocks, hown, hts, hin, hT⟩ := id E
  unfold f_X7_init at hf
  refine lv_aload_n hx hb dX7_init_0 rfl (lv_at hl 0 rfl) ?_
  refine x_obj (rest := []) E hl ob_X7_3 obI obC (Nat.le_of_ble_eq_true rfl) (Nat.le_of_ble_eq_true rfl) dX7_init_1 ?_
  refine lv_aload_n hx hb dX7_init_4 rfl (lv_at hl 0 rfl) ?_
  refine lv_bipush (v := (100 : Int32)) hx hb dX7_init_5 rfl ?_
  obtain ⟨σ1, eσ1, hf⟩ := zl_s hf
  refine x_newI (L := 100) E hR hS caI (by decide) (by decide) (Nat.le_of_ble_eq_true rfl) (show cells + 1 ≤ 8 by omega) (show slots + 100 ≤ 706 by omega) dX7_init_7 (fun H hR hS => ?_)
  rw [← eσ1] at hR
  obtain ⟨hk2, hf⟩ := zc_s hf
  obtain ⟨σ3, eσ3, hf⟩ := zl_s hf
  refine x_putR E hR hS hk2 ok7 0 (Nat.le_of_ble_eq_true rfl) rfl fl_X7_9 (Or.inr ⟨rfl, rfl, rfl⟩) (fun _ => rfl) (fun _ => rfl) dX7_init_9 (fun H locs hR hS => ?_)
  rw [← eσ3] at hR
  refine lv_aload_n hx hb dX7_init_12 rfl (lv_at hl 0 rfl) ?_
  refine lv_bipush (v := (100 : Int32)) hx hb dX7_init_13 rfl ?_
  obtain ⟨σ4, eσ4, hf⟩ := zl_s hf
  refine x_newI (L := 100) E hR hS caI (by decide) (by decide) (Nat.le_of_ble_eq_true rfl) (show cells + 1 + 1 ≤ 8 by omega) (show slots + 100 + 100 ≤ 706 by omega) dX7_init_15 (fun H hR hS => ?_)
  rw [← eσ4] at hR
  obtain ⟨hk5, hf⟩ := zc_s hf
  obtain ⟨σ6, eσ6, hf⟩ := zl_s hf
  refine x_putR E hR hS hk5 ok7 1 (Nat.le_of_ble_eq_true rfl) rfl fl_X7_15 (Or.inr ⟨rfl, rfl, rfl⟩) (fun _ => rfl) (fun _ => rfl) dX7_init_17 (fun H locs hR hS => ?_)
  rw [← eσ6] at hR
  refine lv_aload_n hx hb dX7_init_20 rfl (lv_at hl 0 rfl) ?_
  refine lv_bipush (v := (100 : Int32)) hx hb dX7_init_21 rfl ?_
  obtain ⟨σ7, eσ7, hf⟩ := zl_s hf
  refine x_newI (L := 100) E hR hS caI (by decide) (by decide) (Nat.le_of_ble_eq_true rfl) (show cells + 1 + 1 + 1 ≤ 8 by omega) (show slots + 100 + 100 + 100 ≤ 706 by omega) dX7_init_23 (fun H hR hS => ?_)
  rw [← eσ7] at hR
  obtain ⟨hk8, hf⟩ := zc_s hf
  obtain ⟨σ9, eσ9, hf⟩ := zl_s hf
  refine x_putR E hR hS hk8 ok7 2 (Nat.le_of_ble_eq_true rfl) rfl fl_X7_18 (Or.inr ⟨rfl, rfl, rfl⟩) (fun _ => rfl) (fun _ => rfl) dX7_init_25 (fun H locs hR hS => ?_)
  rw [← eσ9] at hR
  refine lv_aload_n hx hb dX7_init_28 rfl (lv_at hl 0 rfl) ?_
  refine lv_bipush (v := (101 : Int32)) hx hb dX7_init_29 rfl ?_
  obtain ⟨σ10, eσ10, hf⟩ := zl_s hf
  refine x_newI (L := 101) E hR hS caI (by decide) (by decide) (Nat.le_of_ble_eq_true rfl) (show cells + 1 + 1 + 1 + 1 ≤ 8 by omega) (show slots + 100 + 100 + 100 + 101 ≤ 706 by omega) dX7_init_31 (fun H hR hS => ?_)
  rw [← eσ10] at hR
  obtain ⟨hk11, hf⟩ := zc_s hf
  obtain ⟨σ12, eσ12, hf⟩ := zl_s hf
  refine x_putR E hR hS hk11 ok7 3 (Nat.le_of_ble_eq_true rfl) rfl fl_X7_21 (Or.inr ⟨rfl, rfl, rfl⟩) (fun _ => rfl) (fun _ => rfl) dX7_init_33 (fun H locs hR hS => ?_)
  rw [← eσ12] at hR
  refine lv_aload_n hx hb dX7_init_36 rfl (lv_at hl 0 rfl) ?_
  refine lv_bipush (v := (100 : Int32)) hx hb dX7_init_37 rfl ?_
  obtain ⟨σ13, eσ13, hf⟩ := zl_s hf
  refine x_newI (L := 100) E hR hS caI (by decide) (by decide) (Nat.le_of_ble_eq_true rfl) (show cells + 1 + 1 + 1 + 1 + 1 ≤ 8 by omega) (show slots + 100 + 100 + 100 + 101 + 100 ≤ 706 by omega) dX7_init_39 (fun H hR hS => ?_)
  rw [← eσ13] at hR
  obtain ⟨hk14, hf⟩ := zc_s hf
  obtain ⟨σ15, eσ15, hf⟩ := zl_s hf
  refine x_putR E hR hS hk14 ok7 4 (Nat.le_of_ble_eq_true rfl) rfl fl_X7_24 (Or.inr ⟨rfl, rfl, rfl⟩) (fun _ => rfl) (fun _ => rfl) dX7_init_41 (fun H locs hR hS => ?_)
  rw [← eσ15] at hR
  refine lv_aload_n hx hb dX7_init_44 rfl (lv_at hl 0 rfl) ?_
  refine lv_bipush (v := (-9 : Int32)) hx hb dX7_init_45 rfl ?_
  obtain ⟨σ16, eσ16, hf⟩ := zl_s hf
  refine x_putI E hR hS (by rw [eσ15]; exact hk14) ok7 6 (Nat.le_of_ble_eq_true rfl) rfl fl_X7_27 (Or.inl rfl) rfl rfl dX7_init_47 (fun H locs hR hS => ?_)
  rw [← eσ16] at hR
  refine lv_aload_n hx hb dX7_init_50 rfl (lv_at hl 0 rfl) ?_
  obtain ⟨σ17, eσ17, hf⟩ := zl_s hf
  refine x_new E hR hS ok3 cd3 cl_X7_31 cn3 ci3 (show cells + 1 + 1 + 1 + 1 + 1 + 1 ≤ 8 by omega) (show slots + 100 + 100 + 100 + 101 + 100 + 5 ≤ 706 by omega) dX7_init_51 (fun H hR hS => ?_)
  rw [← eσ17] at hR
  refine lv_dup hx hb dX7_init_54 rfl ?_
  obtain ⟨r18, σ19, hcr18, hf⟩ := zq_s hf
  refine xIN (As := []) (rest := [.ref (gB g + (mN σ16)), .ref (gB g + v0)]) (st1 := [.ref (gB g + (mN σ16)), .ref (gB g + v0)]) E hR hS hl (C_X3_init hcr18) lb_X3_init li_X3_init nl_X7_33 ⟨Nat.le_of_ble_eq_true rfl, Nat.le_of_ble_eq_true rfl⟩ rfl rfl rfl (Nat.le_of_ble_eq_true rfl) dX7_init_55 ⟨show cells + 1 + 1 + 1 + 1 + 1 + 1 + 2 ≤ 8 by omega, show slots + 100 + 100 + 100 + 101 + 100 + 5 + 200 ≤ 706 by omega⟩ (fun H locs hR hS => ?_)
  obtain ⟨hk20, hf⟩ := zc_s hf
  obtain ⟨σ21, eσ21, hf⟩ := zl_s hf
  refine x_putR E hR hS hk20 ok7 7 (Nat.le_of_ble_eq_true rfl) rfl fl_X7_34 (Or.inr ⟨rfl, rfl, rfl⟩) (fun _ => rfl) (fun _ => rfl) dX7_init_58 (fun H locs hR hS => ?_)
  rw [← eσ21] at hR
  obtain ⟨hr1, hs1⟩ := Prod.mk.inj (Option.some.inj hf)
  exact xr_v E hR hS rfl rfl hs1.symm (show cells + 1 + 1 + 1 + 1 + 1 + 1 + 2 ≤ 8 by omega) (show slots + 100 + 100 + 100 + 101 + 100 + 5 + 200 ≤ 706 by omega) dX7_init_61
theorem C_X7_init {g : GG} {v0 : Nat} {σ : Mm} {r : Unit} {σ' : Mm} (hf : f_X7_init v0 σ = some (r, σ')) : Ct g yX7_init cX7_init 1 none rm_X7_init [.ref (gB g + v0)] σ none σ' :=
  Ct.of true (by decide +kernel) (fun _ => rfl) (Nat.le_of_ble_eq_true rfl) (V_X7_init_0 _ _ _ _ hf 8 706 ⟨Nat.le_of_ble_eq_true rfl, Nat.le_of_ble_eq_true rfl⟩)
abbrev rm_X5_init : Room := { frames := 3, cells := 17, slots := 1131, locals := 52 }
set_option maxRecDepth 100000 in
def f_X5_init (v0 : Nat) (σ : Mm) : Option (Unit × Mm) :=
  zlt (nw σ (0, 1)) (fun σ1 => zcb (f_X1_init (mN σ) σ1) (fun r2 σ3 => zck (kO σ3 v0 5) (zlt (sR σ3 v0 0 (mN σ)) (fun σ5 => zlt (nw σ5 (1, 8)) (fun σ6 => zck (kO σ6 v0 5) (zlt (sR σ6 v0 2 (mN σ5)) (fun σ8 => zlt (nw σ8 (0, 2)) (fun σ9 => zcb (f_X2_init (mN σ8) σ9) (fun r10 σ11 => zck (kO σ11 v0 5) (zlt (sR σ11 v0 4 (mN σ8)) (fun σ13 => zlt (nw σ13 (0, 7)) (fun σ14 => zcb (f_X7_init (mN σ13) σ14) (fun r15 σ16 => zck (kO σ16 v0 5) (zlt (sR σ16 v0 5 (mN σ13)) (fun σ18 => zlt (nw σ18 (0, 3)) (fun σ19 => zcb (f_X3_init (mN σ18) σ19) (fun r20 σ21 => zck (kO σ21 v0 5) (zlt (sR σ21 v0 6 (mN σ18)) (fun σ23 => some ((), σ23))))))))))))))))))))
set_option maxRecDepth 100000 in
set_option maxHeartbeats 4000000 in
theorem V_X5_init_0 {g : GG} (v0 : Nat) (σ : Mm) (r : Unit) (σ' : Mm) (hf : f_X5_init v0 σ = some (r, σ')) (kc ks : Nat) (hqe : 17 ≤ kc ∧ 1131 ≤ ks) : VJ g RX5 cX5_init 1 none true rm_X5_init none σ' (kc) (ks) 0 [(0, .ref (gB g + v0))] [] σ := by
  intro p e s m args below meth c H locs cells slots ls E hR hS hl hc hs
  have hc : cells + kc ≤ 17 := hc
  have hs : slots + ks ≤ 1131 := hs
  obtain ⟨hx, hb, hml, hr, hlocks, hown, hts, hin, hT⟩ := id E
  unfold f_X5_init at hf
  refine lv_aload_n hx hb dX5_init_0 rfl (lv_at hl 0 rfl) ?_
  refine x_obj (rest := []) E hl ob_X5_3 obI obC (Nat.le_of_ble_eq_true rfl) (Nat.le_of_ble_eq_true rfl) dX5_init_1 ?_
  refine lv_aload_n hx hb dX5_init_4 rfl (lv_at hl 0 rfl) ?_
  obtain ⟨σ1, eσ1, hf⟩ := zl_s hf
  refine x_new E hR hS ok1 cd1 cl_X5_9 cn1 ci1 (show cells + 1 ≤ 17 by omega) (show slots + 2 ≤ 1131 by omega) dX5_init_5 (fun H hR hS => ?_)
  rw [← eσ1] at hR
  refine lv_dup hx hb dX5_init_8 rfl ?_
  obtain ⟨r2, σ3, hcr2, hf⟩ := zq_s hf
  refine xIN (As := []) (rest := [.ref (gB g + (mN σ)), .ref (gB g + v0)]) (st1 := [.ref (gB g + (mN σ)), .ref (gB g + v0)]) E hR hS hl (C_X1_init hcr2) lb_X1_init li_X1_init nl_X5_11 ⟨Nat.le_of_ble_eq_true rfl, Nat.le_of_ble_eq_true rfl⟩ rfl rfl rfl (Nat.le_of_ble_eq_true rfl) dX5_init_9 ⟨show cells + 1 + 1 ≤ 17 by omega, show slots + 2 + 100 ≤ 1131 by omega⟩ (fun H locs hR hS => ?_)
  obtain ⟨hk4, hf⟩ := zc_s hf
  obtain ⟨σ5, eσ5, hf⟩ := zl_s hf
  refine x_putR E hR hS hk4 ok5 0 (Nat.le_of_ble_eq_true rfl) rfl fl_X5_12 (Or.inr ⟨rfl, rfl, rfl⟩) (fun _ => rfl) (fun _ => rfl) dX5_init_12 (fun H locs hR hS => ?_)
  rw [← eσ5] at hR
  refine lv_aload_n hx hb dX5_init_15 rfl (lv_at hl 0 rfl) ?_
  refine lv_bipush (v := (8 : Int32)) hx hb dX5_init_16 rfl ?_
  obtain ⟨σ6, eσ6, hf⟩ := zl_s hf
  refine x_newI (L := 8) E hR hS caI (by decide) (by decide) (Nat.le_of_ble_eq_true rfl) (show cells + 1 + 1 + 1 ≤ 17 by omega) (show slots + 2 + 100 + 8 ≤ 1131 by omega) dX5_init_18 (fun H hR hS => ?_)
  rw [← eσ6] at hR
  obtain ⟨hk7, hf⟩ := zc_s hf
  obtain ⟨σ8, eσ8, hf⟩ := zl_s hf
  refine x_putR E hR hS hk7 ok5 2 (Nat.le_of_ble_eq_true rfl) rfl fl_X5_18 (Or.inr ⟨rfl, rfl, rfl⟩) (fun _ => rfl) (fun _ => rfl) dX5_init_20 (fun H locs hR hS => ?_)
  rw [← eσ8] at hR
  refine lv_aload_n hx hb dX5_init_23 rfl (lv_at hl 0 rfl) ?_
  obtain ⟨σ9, eσ9, hf⟩ := zl_s hf
  refine x_new E hR hS ok2 cd2 cl_X5_22 cn2 ci2 (show cells + 1 + 1 + 1 + 1 ≤ 17 by omega) (show slots + 2 + 100 + 8 + 2 ≤ 1131 by omega) dX5_init_24 (fun H hR hS => ?_)
  rw [← eσ9] at hR
  refine lv_dup hx hb dX5_init_27 rfl ?_
  obtain ⟨r10, σ11, hcr10, hf⟩ := zq_s hf
  refine xI (As := []) (rest := [.ref (gB g + (mN σ8)), .ref (gB g + v0)]) (st1 := [.ref (gB g + (mN σ8)), .ref (gB g + v0)]) E hR hS hl (C_X2_init hcr10) lb_X2_init li_X2_init ml_X5_24 ⟨Nat.le_of_ble_eq_true rfl, Nat.le_of_ble_eq_true rfl⟩ rfl rfl rfl (Nat.le_of_ble_eq_true rfl) dX5_init_28 ⟨show cells + 1 + 1 + 1 + 1 + 1 ≤ 17 by omega, show slots + 2 + 100 + 8 + 2 + 100 ≤ 1131 by omega⟩ (fun H locs hR hS => ?_)
  obtain ⟨hk12, hf⟩ := zc_s hf
  obtain ⟨σ13, eσ13, hf⟩ := zl_s hf
  refine x_putR E hR hS hk12 ok5 4 (Nat.le_of_ble_eq_true rfl) rfl fl_X5_25 (Or.inr ⟨rfl, rfl, rfl⟩) (fun _ => rfl) (fun _ => rfl) dX5_init_31 (fun H locs hR hS => ?_)
  rw [← eσ13] at hR
  refine lv_aload_n hx hb dX5_init_34 rfl (lv_at hl 0 rfl) ?_
  obtain ⟨σ14, eσ14, hf⟩ := zl_s hf
  refine x_new E hR hS ok7 cd7 cl_X5_29 cn7 ci7 (show cells + 1 + 1 + 1 + 1 + 1 + 1 ≤ 17 by omega) (show slots + 2 + 100 + 8 + 2 + 100 + 8 ≤ 1131 by omega) dX5_init_35 (fun H hR hS => ?_)
  rw [← eσ14] at hR
  refine lv_dup hx hb dX5_init_38 rfl ?_
  obtain ⟨r15, σ16, hcr15, hf⟩ := zq_s hf
  refine xIN (As := []) (rest := [.ref (gB g + (mN σ13)), .ref (gB g + v0)]) (st1 := [.ref (gB g + (mN σ13)), .ref (gB g + v0)]) E hR hS hl (C_X7_init hcr15) lb_X7_init li_X7_init nl_X5_31 ⟨Nat.le_of_ble_eq_true rfl, Nat.le_of_ble_eq_true rfl⟩ rfl rfl rfl (Nat.le_of_ble_eq_true rfl) dX5_init_39 ⟨show cells + 1 + 1 + 1 + 1 + 1 + 1 + 8 ≤ 17 by omega, show slots + 2 + 100 + 8 + 2 + 100 + 8 + 706 ≤ 1131 by omega⟩ (fun H locs hR hS => ?_)
  obtain ⟨hk17, hf⟩ := zc_s hf
  obtain ⟨σ18, eσ18, hf⟩ := zl_s hf
  refine x_putR E hR hS hk17 ok5 5 (Nat.le_of_ble_eq_true rfl) rfl fl_X5_32 (Or.inr ⟨rfl, rfl, rfl⟩) (fun _ => rfl) (fun _ => rfl) dX5_init_42 (fun H locs hR hS => ?_)
  rw [← eσ18] at hR
  refine lv_aload_n hx hb dX5_init_45 rfl (lv_at hl 0 rfl) ?_
  obtain ⟨σ19, eσ19, hf⟩ := zl_s hf
  refine x_new E hR hS ok3 cd3 cl_X5_36 cn3 ci3 (show cells + 1 + 1 + 1 + 1 + 1 + 1 + 8 + 1 ≤ 17 by omega) (show slots + 2 + 100 + 8 + 2 + 100 + 8 + 706 + 5 ≤ 1131 by omega) dX5_init_46 (fun H hR hS => ?_)
  rw [← eσ19] at hR
  refine lv_dup hx hb dX5_init_49 rfl ?_
  obtain ⟨r20, σ21, hcr20, hf⟩ := zq_s hf
  refine xIN (As := []) (rest := [.ref (gB g + (mN σ18)), .ref (gB g + v0)]) (st1 := [.ref (gB g + (mN σ18)), .ref (gB g + v0)]) E hR hS hl (C_X3_init hcr20) lb_X3_init li_X3_init nl_X5_38 ⟨Nat.le_of_ble_eq_true rfl, Nat.le_of_ble_eq_true rfl⟩ rfl rfl rfl (Nat.le_of_ble_eq_true rfl) dX5_init_50 ⟨show cells + 1 + 1 + 1 + 1 + 1 + 1 + 8 + 1 + 2 ≤ 17 by omega, show slots + 2 + 100 + 8 + 2 + 100 + 8 + 706 + 5 + 200 ≤ 1131 by omega⟩ (fun H locs hR hS => ?_)
  obtain ⟨hk22, hf⟩ := zc_s hf
  obtain ⟨σ23, eσ23, hf⟩ := zl_s hf
  refine x_putR E hR hS hk22 ok5 6 (Nat.le_of_ble_eq_true rfl) rfl fl_X5_39 (Or.inr ⟨rfl, rfl, rfl⟩) (fun _ => rfl) (fun _ => rfl) dX5_init_53 (fun H locs hR hS => ?_)
  rw [← eσ23] at hR
  obtain ⟨hr1, hs1⟩ := Prod.mk.inj (Option.some.inj hf)
  exact xr_v E hR hS rfl rfl hs1.symm (show cells + 1 + 1 + 1 + 1 + 1 + 1 + 8 + 1 + 2 ≤ 17 by omega) (show slots + 2 + 100 + 8 + 2 + 100 + 8 + 706 + 5 + 200 ≤ 1131 by omega) dX5_init_56
theorem C_X5_init {g : GG} {v0 : Nat} {σ : Mm} {r : Unit} {σ' : Mm} (hf : f_X5_init v0 σ = some (r, σ')) : Ct g yX5_init cX5_init 1 none rm_X5_init [.ref (gB g + v0)] σ none σ' :=
  Ct.of true (by decide +kernel) (fun _ => rfl) (Nat.le_of_ble_eq_true rfl) (V_X5_init_0 _ _ _ _ hf 17 1131 ⟨Nat.le_of_ble_eq_true rfl, Nat.le_of_ble_eq_true rfl⟩)
abbrev rm_X5_row : Room := { frames := 0, cells := 0, slots := 0, locals := 0 }
set_option maxRecDepth 100000 in
def f_X5_row (v0 : Nat) (σ : Mm) : Option (Nat × Mm) :=
  zck (kO σ v0 5) (zrb (mR σ v0 0) (fun b2 => some (b2, σ)))
set_option maxRecDepth 100000 in
set_option maxHeartbeats 4000000 in
theorem V_X5_row_0 {g : GG} (v0 : Nat) (σ : Mm) (r : Nat) (σ' : Mm) (hf : f_X5_row v0 σ = some (r, σ')) : VJ g RX5 cX5_row 1 (some (.object "BorderProofs$Items")) false rm_X5_row (some (.ref (gB g + r))) σ' (0) (0) 0 [(0, .ref (gB g + v0))] [] σ := by
  intro p e s m args below meth c H locs cells slots ls E hR hS hl hc hs
  obtain ⟨hx, hb, hml, hr, hlocks, hown, hts, hin, hT⟩ := id E
  unfold f_X5_row at hf
  refine lv_aload_n hx hb dX5_row_0 rfl (lv_at hl 0 rfl) ?_
  obtain ⟨hk1, hf⟩ := zc_s hf
  obtain ⟨b2, hb2, hf⟩ := zr_s hf
  refine x_getR E hR hk1 hb2 ok5 (Nat.le_of_ble_eq_true rfl) rfl fl_X5_12 dX5_row_1 ?_
  obtain ⟨hr1, hs1⟩ := Prod.mk.inj (Option.some.inj hf)
  exact xr_a E hR hS rfl (by rw [hr1]) hs1.symm hc hs dX5_row_4
theorem C_X5_row {g : GG} {v0 : Nat} {σ : Mm} {r : Nat} {σ' : Mm} (hf : f_X5_row v0 σ = some (r, σ')) : Ct g yX5_row cX5_row 1 (some (.object "BorderProofs$Items")) rm_X5_row [.ref (gB g + v0)] σ (some (.ref (gB g + r))) σ' :=
  Ct.of false (by decide +kernel) (fun h => by cases h) (Nat.le_of_ble_eq_true rfl) (V_X5_row_0 _ _ _ _ hf)
abbrev rm_X5_shown : Room := { frames := 0, cells := 0, slots := 0, locals := 0 }
set_option maxRecDepth 100000 in
def f_X5_shown (v0 : Nat) (σ : Mm) : Option (Nat × Mm) :=
  zck (kO σ v0 5) (zrb (mR σ v0 4) (fun b2 => some (b2, σ)))
set_option maxRecDepth 100000 in
set_option maxHeartbeats 4000000 in
theorem V_X5_shown_0 {g : GG} (v0 : Nat) (σ : Mm) (r : Nat) (σ' : Mm) (hf : f_X5_shown v0 σ = some (r, σ')) : VJ g RX5 cX5_shown 1 (some (.object "BorderProofs$Pairs")) false rm_X5_shown (some (.ref (gB g + r))) σ' (0) (0) 0 [(0, .ref (gB g + v0))] [] σ := by
  intro p e s m args below meth c H locs cells slots ls E hR hS hl hc hs
  obtain ⟨hx, hb, hml, hr, hlocks, hown, hts, hin, hT⟩ := id E
  unfold f_X5_shown at hf
  refine lv_aload_n hx hb dX5_shown_0 rfl (lv_at hl 0 rfl) ?_
  obtain ⟨hk1, hf⟩ := zc_s hf
  obtain ⟨b2, hb2, hf⟩ := zr_s hf
  refine x_getR E hR hk1 hb2 ok5 (Nat.le_of_ble_eq_true rfl) rfl fl_X5_25 dX5_shown_1 ?_
  obtain ⟨hr1, hs1⟩ := Prod.mk.inj (Option.some.inj hf)
  exact xr_a E hR hS rfl (by rw [hr1]) hs1.symm hc hs dX5_shown_4
theorem C_X5_shown {g : GG} {v0 : Nat} {σ : Mm} {r : Nat} {σ' : Mm} (hf : f_X5_shown v0 σ = some (r, σ')) : Ct g yX5_shown cX5_shown 1 (some (.object "BorderProofs$Pairs")) rm_X5_shown [.ref (gB g + v0)] σ (some (.ref (gB g + r))) σ' :=
  Ct.of false (by decide +kernel) (fun h => by cases h) (Nat.le_of_ble_eq_true rfl) (V_X5_shown_0 _ _ _ _ hf)
abbrev rm_X5_trusted : Room := { frames := 0, cells := 0, slots := 0, locals := 0 }
set_option maxRecDepth 100000 in
def f_X5_trusted (v0 : Nat) (σ : Mm) : Option (Int32 × Mm) :=
  zck (kO σ v0 5) (some ((mD σ v0 1), σ))
set_option maxRecDepth 100000 in
set_option maxHeartbeats 4000000 in
theorem V_X5_trusted_0 {g : GG} (v0 : Nat) (σ : Mm) (r : Int32) (σ' : Mm) (hf : f_X5_trusted v0 σ = some (r, σ')) : VJ g RX5 cX5_trusted 1 (some .int) false rm_X5_trusted (some (.int r)) σ' (0) (0) 0 [(0, .ref (gB g + v0))] [] σ := by
  intro p e s m args below meth c H locs cells slots ls E hR hS hl hc hs
  obtain ⟨hx, hb, hml, hr, hlocks, hown, hts, hin, hT⟩ := id E
  unfold f_X5_trusted at hf
  refine lv_aload_n hx hb dX5_trusted_0 rfl (lv_at hl 0 rfl) ?_
  obtain ⟨hk1, hf⟩ := zc_s hf
  refine x_getI E hR hk1 ok5 1 (Nat.le_of_ble_eq_true rfl) rfl fl_X5_43 dX5_trusted_1 ?_
  obtain ⟨hr1, hs1⟩ := Prod.mk.inj (Option.some.inj hf)
  exact xr_i E hR hS rfl (by rw [hr1]) hs1.symm hc hs dX5_trusted_4
theorem C_X5_trusted {g : GG} {v0 : Nat} {σ : Mm} {r : Int32} {σ' : Mm} (hf : f_X5_trusted v0 σ = some (r, σ')) : Ct g yX5_trusted cX5_trusted 1 (some .int) rm_X5_trusted [.ref (gB g + v0)] σ (some (.int r)) σ' :=
  Ct.of false (by decide +kernel) (fun h => by cases h) (Nat.le_of_ble_eq_true rfl) (V_X5_trusted_0 _ _ _ _ hf)
abbrev rm_X5_formerCount : Room := { frames := 0, cells := 0, slots := 0, locals := 0 }
set_option maxRecDepth 100000 in
def f_X5_formerCount (v0 : Nat) (σ : Mm) : Option (Int32 × Mm) :=
  zck (kO σ v0 5) (some ((mD σ v0 3), σ))
set_option maxRecDepth 100000 in
set_option maxHeartbeats 4000000 in
theorem V_X5_formerCount_0 {g : GG} (v0 : Nat) (σ : Mm) (r : Int32) (σ' : Mm) (hf : f_X5_formerCount v0 σ = some (r, σ')) : VJ g RX5 cX5_formerCount 1 (some .int) false rm_X5_formerCount (some (.int r)) σ' (0) (0) 0 [(0, .ref (gB g + v0))] [] σ := by
  intro p e s m args below meth c H locs cells slots ls E hR hS hl hc hs
  obtain ⟨hx, hb, hml, hr, hlocks, hown, hts, hin, hT⟩ := id E
  unfold f_X5_formerCount at hf
  refine lv_aload_n hx hb dX5_formerCount_0 rfl (lv_at hl 0 rfl) ?_
  obtain ⟨hk1, hf⟩ := zc_s hf
  refine x_getI E hR hk1 ok5 3 (Nat.le_of_ble_eq_true rfl) rfl fl_X5_47 dX5_formerCount_1 ?_
  obtain ⟨hr1, hs1⟩ := Prod.mk.inj (Option.some.inj hf)
  exact xr_i E hR hS rfl (by rw [hr1]) hs1.symm hc hs dX5_formerCount_4
theorem C_X5_formerCount {g : GG} {v0 : Nat} {σ : Mm} {r : Int32} {σ' : Mm} (hf : f_X5_formerCount v0 σ = some (r, σ')) : Ct g yX5_formerCount cX5_formerCount 1 (some .int) rm_X5_formerCount [.ref (gB g + v0)] σ (some (.int r)) σ' :=
  Ct.of false (by decide +kernel) (fun h => by cases h) (Nat.le_of_ble_eq_true rfl) (V_X5_formerCount_0 _ _ _ _ hf)
abbrev rm_X5_formerAt : Room := { frames := 0, cells := 0, slots := 0, locals := 0 }
set_option maxRecDepth 100000 in
def f_X5_formerAt (v0 : Nat) (v1 : Int32) (σ : Mm) : Option (Int32 × Mm) :=
  if v1 < 0 then (some ((0 : Int32), σ)) else (zck (kO σ v0 5) (if (mD σ v0 3) ≤ v1 then (some ((0 : Int32), σ)) else (zrb (mR σ v0 2) (fun b4 => zck (kA σ 1 b4 v1) (some ((mD σ b4 (ix v1)), σ))))))
set_option maxRecDepth 100000 in
set_option maxHeartbeats 4000000 in
theorem V_X5_formerAt_0 {g : GG} (v0 : Nat) (v1 : Int32) (σ : Mm) (r : Int32) (σ' : Mm) (hf : f_X5_formerAt v0 v1 σ = some (r, σ')) : VJ g RX5 cX5_formerAt 2 (some .int) false rm_X5_formerAt (some (.int r)) σ' (0) (0) 0 [(0, .ref (gB g + v0)), (1, .int v1)] [] σ := by
  intro p e s m args below meth c H locs cells slots ls E hR hS hl hc hs
  obtain ⟨hx, hb, hml, hr, hlocks, hown, hts, hin, hT⟩ := id E
  unfold f_X5_formerAt at hf
  refine lv_iload_n hx hb dX5_formerAt_0 rfl (lv_at hl 1 rfl) ?_
  refine lv_if_lt (tgt := 21) hx hb dX5_formerAt_1 (by decide) (fun hq1 => ?_) (fun hq1 => ?_)
  · have hf := ite_p hq1 hf
    refine lv_iconst (v := (0 : Int32)) hx hb dX5_formerAt_21 rfl ?_
    obtain ⟨hr1, hs1⟩ := Prod.mk.inj (Option.some.inj hf)
    exact xr_i E hR hS rfl (by rw [hr1]) hs1.symm hc hs dX5_formerAt_22
  · have hf := ite_n hq1 hf
    refine lv_iload_n hx hb dX5_formerAt_4 rfl (lv_at hl 1 rfl) ?_
    refine lv_aload_n hx hb dX5_formerAt_5 rfl (lv_at hl 0 rfl) ?_
    obtain ⟨hk2, hf⟩ := zc_s hf
    refine x_getI E hR hk2 ok5 3 (Nat.le_of_ble_eq_true rfl) rfl fl_X5_47 dX5_formerAt_6 ?_
    refine lv_icmp_ge (tgt := 21) hx hb dX5_formerAt_9 (by decide) (fun hq3 => ?_) (fun hq3 => ?_)
    · have hf := ite_p hq3 hf
      refine lv_iconst (v := (0 : Int32)) hx hb dX5_formerAt_21 rfl ?_
      obtain ⟨hr1, hs1⟩ := Prod.mk.inj (Option.some.inj hf)
      exact xr_i E hR hS rfl (by rw [hr1]) hs1.symm hc hs dX5_formerAt_22
    · have hf := ite_n hq3 hf
      refine lv_aload_n hx hb dX5_formerAt_12 rfl (lv_at hl 0 rfl) ?_
      obtain ⟨b4, hb4, hf⟩ := zr_s hf
      refine x_getR E hR hk2 hb4 ok5 (Nat.le_of_ble_eq_true rfl) rfl fl_X5_18 dX5_formerAt_13 ?_
      refine lv_iload_n hx hb dX5_formerAt_16 rfl (lv_at hl 1 rfl) ?_
      obtain ⟨hk5, hf⟩ := zc_s hf
      refine x_ild E hR hk5 dX5_formerAt_17 ?_
      refine lv_goto (tgt := 22) hx hb dX5_formerAt_18 (by decide) ?_
      obtain ⟨hr1, hs1⟩ := Prod.mk.inj (Option.some.inj hf)
      exact xr_i E hR hS rfl (by rw [hr1]) hs1.symm hc hs dX5_formerAt_22
theorem C_X5_formerAt {g : GG} {v0 : Nat} {v1 : Int32} {σ : Mm} {r : Int32} {σ' : Mm} (hf : f_X5_formerAt v0 v1 σ = some (r, σ')) : Ct g yX5_formerAt cX5_formerAt 2 (some .int) rm_X5_formerAt [.ref (gB g + v0), .int v1] σ (some (.int r)) σ' :=
  Ct.of false (by decide +kernel) (fun h => by cases h) (Nat.le_of_ble_eq_true rfl) (V_X5_formerAt_0 _ _ _ _ _ hf)
abbrev rm_J9_min_7cf53 : Room := { frames := 0, cells := 0, slots := 0, locals := 0 }
set_option maxRecDepth 100000 in
def f_J9_min_7cf53 (v0 : Int32) (v1 : Int32) (σ : Mm) : Option (Int32 × Mm) :=
  if v1 < v0 then (some (v1, σ)) else (some (v0, σ))
set_option maxRecDepth 100000 in
set_option maxHeartbeats 4000000 in
theorem V_J9_min_7cf53_0 {g : GG} (v0 : Int32) (v1 : Int32) (σ : Mm) (r : Int32) (σ' : Mm) (hf : f_J9_min_7cf53 v0 v1 σ = some (r, σ')) : VJ g RJ9 cJ9_min_7cf53 2 (some .int) false rm_J9_min_7cf53 (some (.int r)) σ' (0) (0) 0 [(0, .int v0), (1, .int v1)] [] σ := by
  intro p e s m args below meth c H locs cells slots ls E hR hS hl hc hs
  obtain ⟨hx, hb, hml, hr, hlocks, hown, hts, hin, hT⟩ := id E
  unfold f_J9_min_7cf53 at hf
  refine lv_iload_n hx hb dJ9_min_7cf53_0 rfl (lv_at hl 0 rfl) ?_
  refine lv_iload_n hx hb dJ9_min_7cf53_1 rfl (lv_at hl 1 rfl) ?_
  refine lv_icmp_gt (tgt := 9) hx hb dJ9_min_7cf53_2 (by decide) (fun hq1 => ?_) (fun hq1 => ?_)
  · have hf := ite_p hq1 hf
    refine lv_iload_n hx hb dJ9_min_7cf53_9 rfl (lv_at hl 1 rfl) ?_
    obtain ⟨hr1, hs1⟩ := Prod.mk.inj (Option.some.inj hf)
    exact xr_i E hR hS rfl (by rw [hr1]) hs1.symm hc hs dJ9_min_7cf53_10
  · have hf := ite_n hq1 hf
    refine lv_iload_n hx hb dJ9_min_7cf53_5 rfl (lv_at hl 0 rfl) ?_
    refine lv_goto (tgt := 10) hx hb dJ9_min_7cf53_6 (by decide) ?_
    obtain ⟨hr1, hs1⟩ := Prod.mk.inj (Option.some.inj hf)
    exact xr_i E hR hS rfl (by rw [hr1]) hs1.symm hc hs dJ9_min_7cf53_10
theorem C_J9_min_7cf53 {g : GG} {v0 : Int32} {v1 : Int32} {σ : Mm} {r : Int32} {σ' : Mm} (hf : f_J9_min_7cf53 v0 v1 σ = some (r, σ')) : Ct g yJ9_min_7cf53 cJ9_min_7cf53 2 (some .int) rm_J9_min_7cf53 [.int v0, .int v1] σ (some (.int r)) σ' :=
  Ct.of false (by decide +kernel) (fun h => by cases h) (Nat.le_of_ble_eq_true rfl) (V_J9_min_7cf53_0 _ _ _ _ _ hf)
abbrev rm_X5_nowTrust : Room := { frames := 1, cells := 0, slots := 0, locals := 21 }
set_option maxRecDepth 100000 in
def f_X5_nowTrust_3 : Nat → Nat → Int32 → Int32 → Mm → Option (Int32 × Mm)
  | 0, _, _, _, _ => none
  | n + 1, v0, v1, v2, σ =>
    if v2 ≤ 0 then (zck (kO σ v0 5) (zrb (mR σ v0 2) (fun b3 => zck (kA σ 1 b3 (0 : Int32)) (zlt (sD σ b3 (ix (0 : Int32)) (mD σ v0 1)) (fun σ5 => zcb (f_J9_min_7cf53 ((mD σ5 v0 3) + (1 : Int32)) (8 : Int32) σ5) (fun r6 σ7 => zck (kO σ7 v0 5) (zlt (sD σ7 v0 3 r6) (fun σ9 => zlt (sD σ9 v0 1 v1) (fun σ10 => some ((mD σ10 v0 3), σ10)))))))))) else (zck (kO σ v0 5) (zrb (mR σ v0 2) (fun b12 => zck (kA σ 1 b12 (v2 - (1 : Int32))) (zck (kA σ 1 b12 v2) (zlt (sD σ b12 (ix v2) (mD σ b12 (ix (v2 - (1 : Int32))))) (fun σ15 => f_X5_nowTrust_3 n v0 v1 (v2 + (-1 : Int32)) σ15))))))
set_option maxRecDepth 100000 in
set_option maxHeartbeats 4000000 in
theorem V_X5_nowTrust_3 {g : GG} : ∀ (n : Nat) (v0 : Nat) (v1 : Int32) (v2 : Int32) (σ : Mm) (r : Int32) (σ' : Mm), f_X5_nowTrust_3 n v0 v1 v2 σ = some (r, σ') → VJ g RX5 cX5_nowTrust 3 (some .int) false rm_X5_nowTrust (some (.int r)) σ' (0) (0) 3 [(0, .ref (gB g + v0)), (1, .int v1), (2, .int v2)] [] σ := by
  intro n
  induction n with
  | zero =>
    intro v0 v1 v2 σ r σ' hf
    unfold f_X5_nowTrust_3 at hf
    cases hf
  | succ n ih =>
    intro v0 v1 v2 σ r σ' hf p e s m args below meth c H locs cells slots ls E hR hS hl hc hs
    obtain ⟨hx, hb, hml, hr, hlocks, hown, hts, hin, hT⟩ := id E
    unfold f_X5_nowTrust_3 at hf
    refine lv_iload_n hx hb dX5_nowTrust_3 rfl (lv_at hl 2 rfl) ?_
    refine lv_if_le (tgt := 27) hx hb dX5_nowTrust_4 (by decide) (fun hq1 => ?_) (fun hq1 => ?_)
    · have hf := ite_p hq1 hf
      refine lv_aload_n hx hb dX5_nowTrust_27 rfl (lv_at hl 0 rfl) ?_
      obtain ⟨hk2, hf⟩ := zc_s hf
      obtain ⟨b3, hb3, hf⟩ := zr_s hf
      refine x_getR E hR hk2 hb3 ok5 (Nat.le_of_ble_eq_true rfl) rfl fl_X5_18 dX5_nowTrust_28 ?_
      refine lv_iconst (v := (0 : Int32)) hx hb dX5_nowTrust_31 rfl ?_
      refine lv_aload_n hx hb dX5_nowTrust_32 rfl (lv_at hl 0 rfl) ?_
      refine x_getI E hR hk2 ok5 1 (Nat.le_of_ble_eq_true rfl) rfl fl_X5_43 dX5_nowTrust_33 ?_
      obtain ⟨hk4, hf⟩ := zc_s hf
      obtain ⟨σ5, eσ5, hf⟩ := zl_s hf
      refine x_ist E hR hS hk4 dX5_nowTrust_36 (fun H locs hR hS => ?_)
      rw [← eσ5] at hR
      refine lv_aload_n hx hb dX5_nowTrust_37 rfl (lv_at hl 0 rfl) ?_
      refine lv_aload_n hx hb dX5_nowTrust_38 rfl (lv_at hl 0 rfl) ?_
      refine x_getI E hR (by rw [eσ5]; exact hk2) ok5 3 (Nat.le_of_ble_eq_true rfl) rfl fl_X5_47 dX5_nowTrust_39 ?_
      refine lv_iconst (v := (1 : Int32)) hx hb dX5_nowTrust_42 rfl ?_
      refine lv_iadd hx hb dX5_nowTrust_43 ?_
      refine lv_bipush (v := (8 : Int32)) hx hb dX5_nowTrust_44 rfl ?_
      obtain ⟨r6, σ7, hcr6, hf⟩ := zq_s hf
      refine xS (As := [.int ((mD σ5 v0 3) + (1 : Int32)), .int (8 : Int32)]) (rest := [.ref (gB g + v0)]) (st1 := [.int r6, .ref (gB g + v0)]) E hR hS hl (C_J9_min_7cf53 hcr6) lb_J9_min_7cf53 ls_J9_min_7cf53 ml_X5_50 ⟨Nat.le_of_ble_eq_true rfl, Nat.le_of_ble_eq_true rfl⟩ rfl rfl rfl (Nat.le_of_ble_eq_true rfl) dX5_nowTrust_46 ⟨hc, hs⟩ (fun H locs hR hS => ?_)
      obtain ⟨hk8, hf⟩ := zc_s hf
      obtain ⟨σ9, eσ9, hf⟩ := zl_s hf
      refine x_putI E hR hS hk8 ok5 3 (Nat.le_of_ble_eq_true rfl) rfl fl_X5_47 (Or.inl rfl) rfl rfl dX5_nowTrust_49 (fun H locs hR hS => ?_)
      rw [← eσ9] at hR
      refine lv_aload_n hx hb dX5_nowTrust_52 rfl (lv_at hl 0 rfl) ?_
      refine lv_iload_n hx hb dX5_nowTrust_53 rfl (lv_at hl 1 rfl) ?_
      obtain ⟨σ10, eσ10, hf⟩ := zl_s hf
      refine x_putI E hR hS (by rw [eσ9]; exact hk8) ok5 1 (Nat.le_of_ble_eq_true rfl) rfl fl_X5_43 (Or.inl rfl) rfl rfl dX5_nowTrust_54 (fun H locs hR hS => ?_)
      rw [← eσ10] at hR
      refine lv_aload_n hx hb dX5_nowTrust_57 rfl (lv_at hl 0 rfl) ?_
      refine x_getI E hR (by rw [eσ10, eσ9]; exact hk8) ok5 3 (Nat.le_of_ble_eq_true rfl) rfl fl_X5_47 dX5_nowTrust_58 ?_
      obtain ⟨hr1, hs1⟩ := Prod.mk.inj (Option.some.inj hf)
      exact xr_i E hR hS rfl (by rw [hr1]) hs1.symm hc hs dX5_nowTrust_61
    · have hf := ite_n hq1 hf
      refine lv_aload_n hx hb dX5_nowTrust_7 rfl (lv_at hl 0 rfl) ?_
      obtain ⟨hk11, hf⟩ := zc_s hf
      obtain ⟨b12, hb12, hf⟩ := zr_s hf
      refine x_getR E hR hk11 hb12 ok5 (Nat.le_of_ble_eq_true rfl) rfl fl_X5_18 dX5_nowTrust_8 ?_
      refine lv_iload_n hx hb dX5_nowTrust_11 rfl (lv_at hl 2 rfl) ?_
      refine lv_aload_n hx hb dX5_nowTrust_12 rfl (lv_at hl 0 rfl) ?_
      refine x_getR E hR hk11 hb12 ok5 (Nat.le_of_ble_eq_true rfl) rfl fl_X5_18 dX5_nowTrust_13 ?_
      refine lv_iload_n hx hb dX5_nowTrust_16 rfl (lv_at hl 2 rfl) ?_
      refine lv_iconst (v := (1 : Int32)) hx hb dX5_nowTrust_17 rfl ?_
      refine lv_isub hx hb dX5_nowTrust_18 ?_
      obtain ⟨hk13, hf⟩ := zc_s hf
      refine x_ild E hR hk13 dX5_nowTrust_19 ?_
      obtain ⟨hk14, hf⟩ := zc_s hf
      obtain ⟨σ15, eσ15, hf⟩ := zl_s hf
      refine x_ist E hR hS hk14 dX5_nowTrust_20 (fun H locs hR hS => ?_)
      rw [← eσ15] at hR
      refine lv_iinc (v := (v2 + (-1 : Int32))) (lv' := [(2, .int (v2 + (-1 : Int32))), (0, .ref (gB g + v0)), (1, .int v1)]) hx hb dX5_nowTrust_21 hl (k := 2) rfl rfl (Nat.le_of_ble_eq_true rfl) rfl (fun ls hl => ?_)
      refine lv_goto (tgt := 3) hx hb dX5_nowTrust_24 (by decide) ?_
      exact ih _ _ _ _ _ _ hf p e s m args below meth c _ _ _ _ _ E hR hS (lv_sub hl [1, 2, 0] rfl) hc hs
set_option maxRecDepth 100000 in
def f_X5_nowTrust (v0 : Nat) (v1 : Int32) (σ : Mm) : Option (Int32 × Mm) :=
  f_X5_nowTrust_3 1000 v0 v1 (7 : Int32) σ
set_option maxRecDepth 100000 in
set_option maxHeartbeats 4000000 in
theorem V_X5_nowTrust_0 {g : GG} (v0 : Nat) (v1 : Int32) (σ : Mm) (r : Int32) (σ' : Mm) (hf : f_X5_nowTrust v0 v1 σ = some (r, σ')) : VJ g RX5 cX5_nowTrust 3 (some .int) false rm_X5_nowTrust (some (.int r)) σ' (0) (0) 0 [(0, .ref (gB g + v0)), (1, .int v1)] [] σ := by
  intro p e s m args below meth c H locs cells slots ls E hR hS hl hc hs
  obtain ⟨hx, hb, hml, hr, hlocks, hown, hts, hin, hT⟩ := id E
  unfold f_X5_nowTrust at hf
  refine lv_bipush (v := (7 : Int32)) hx hb dX5_nowTrust_0 rfl ?_
  refine lv_istore_n (lv' := [(2, .int (7 : Int32)), (0, .ref (gB g + v0)), (1, .int v1)]) hx hb dX5_nowTrust_2 rfl hl (Nat.le_of_ble_eq_true rfl) rfl (fun ls hl => ?_)
  exact V_X5_nowTrust_3  1000 _ _ _ _ _ _ hf p e s m args below meth c _ _ _ _ _ E hR hS (lv_sub hl [1, 2, 0] rfl) hc hs
theorem C_X5_nowTrust {g : GG} {v0 : Nat} {v1 : Int32} {σ : Mm} {r : Int32} {σ' : Mm} (hf : f_X5_nowTrust v0 v1 σ = some (r, σ')) : Ct g yX5_nowTrust cX5_nowTrust 3 (some .int) rm_X5_nowTrust [.ref (gB g + v0), .int v1] σ (some (.int r)) σ' :=
  Ct.of false (by decide +kernel) (fun h => by cases h) (Nat.le_of_ble_eq_true rfl) (V_X5_nowTrust_0 _ _ _ _ _ hf)
abbrev rm_X5_isFormer : Room := { frames := 1, cells := 0, slots := 0, locals := 21 }
set_option maxRecDepth 100000 in
def f_X5_isFormer_2 : Nat → Nat → Int32 → Int32 → Mm → Option (Int32 × Mm)
  | 0, _, _, _, _ => none
  | n + 1, v0, v1, v2, σ =>
    zck (kO σ v0 5) (if (mD σ v0 3) ≤ v2 then (some ((0 : Int32), σ)) else (zcb (f_X5_formerAt v0 v2 σ) (fun r3 σ4 => if r3 = v1 then (some ((1 : Int32), σ4)) else (f_X5_isFormer_2 n v0 v1 (v2 + (1 : Int32)) σ4))))
set_option maxRecDepth 100000 in
set_option maxHeartbeats 4000000 in
theorem V_X5_isFormer_2 {g : GG} : ∀ (n : Nat) (v0 : Nat) (v1 : Int32) (v2 : Int32) (σ : Mm) (r : Int32) (σ' : Mm), f_X5_isFormer_2 n v0 v1 v2 σ = some (r, σ') → VJ g RX5 cX5_isFormer 3 (some .boolean) false rm_X5_isFormer (some (.int r)) σ' (0) (0) 2 [(0, .ref (gB g + v0)), (1, .int v1), (2, .int v2)] [] σ := by
  intro n
  induction n with
  | zero =>
    intro v0 v1 v2 σ r σ' hf
    unfold f_X5_isFormer_2 at hf
    cases hf
  | succ n ih =>
    intro v0 v1 v2 σ r σ' hf p e s m args below meth c H locs cells slots ls E hR hS hl hc hs
    obtain ⟨hx, hb, hml, hr, hlocks, hown, hts, hin, hT⟩ := id E
    unfold f_X5_isFormer_2 at hf
    refine lv_iload_n hx hb dX5_isFormer_2 rfl (lv_at hl 2 rfl) ?_
    refine lv_aload_n hx hb dX5_isFormer_3 rfl (lv_at hl 0 rfl) ?_
    obtain ⟨hk1, hf⟩ := zc_s hf
    refine x_getI E hR hk1 ok5 3 (Nat.le_of_ble_eq_true rfl) rfl fl_X5_47 dX5_isFormer_4 ?_
    refine lv_icmp_ge (tgt := 27) hx hb dX5_isFormer_7 (by decide) (fun hq2 => ?_) (fun hq2 => ?_)
    · have hf := ite_p hq2 hf
      refine lv_iconst (v := (0 : Int32)) hx hb dX5_isFormer_27 rfl ?_
      obtain ⟨hr1, hs1⟩ := Prod.mk.inj (Option.some.inj hf)
      exact xr_z E hR hS rfl rfl (by rw [hr1]) hs1.symm hc hs dX5_isFormer_28
    · have hf := ite_n hq2 hf
      refine lv_aload_n hx hb dX5_isFormer_10 rfl (lv_at hl 0 rfl) ?_
      refine lv_iload_n hx hb dX5_isFormer_11 rfl (lv_at hl 2 rfl) ?_
      obtain ⟨r3, σ4, hcr3, hf⟩ := zq_s hf
      refine xV (As := [.int v2]) (rest := []) (st1 := [.int r3]) E hR hS hl (C_X5_formerAt hcr3) hk1 ok5 lb_X5_formerAt lv_X5_formerAt ml_X5_56 ⟨Nat.le_of_ble_eq_true rfl, Nat.le_of_ble_eq_true rfl⟩ rfl rfl rfl (Nat.le_of_ble_eq_true rfl) dX5_isFormer_12 ⟨hc, hs⟩ (fun H locs hR hS => ?_)
      refine lv_iload_n hx hb dX5_isFormer_15 rfl (lv_at hl 1 rfl) ?_
      refine lv_icmp_ne (tgt := 21) hx hb dX5_isFormer_16 (by decide) (fun hq5 => ?_) (fun hq5 => ?_)
      · have hf := ite_n hq5 hf
        refine lv_iinc (v := (v2 + (1 : Int32))) (lv' := [(2, .int (v2 + (1 : Int32))), (0, .ref (gB g + v0)), (1, .int v1)]) hx hb dX5_isFormer_21 hl (k := 2) rfl rfl (Nat.le_of_ble_eq_true rfl) rfl (fun ls hl => ?_)
        refine lv_goto (tgt := 2) hx hb dX5_isFormer_24 (by decide) ?_
        exact ih _ _ _ _ _ _ hf p e s m args below meth c _ _ _ _ _ E hR hS (lv_sub hl [1, 2, 0] rfl) hc hs
      · have hf := ite_p hq5 hf
        refine lv_iconst (v := (1 : Int32)) hx hb dX5_isFormer_19 rfl ?_
        obtain ⟨hr1, hs1⟩ := Prod.mk.inj (Option.some.inj hf)
        exact xr_z E hR hS rfl rfl (by rw [hr1]) hs1.symm hc hs dX5_isFormer_20
set_option maxRecDepth 100000 in
def f_X5_isFormer (v0 : Nat) (v1 : Int32) (σ : Mm) : Option (Int32 × Mm) :=
  f_X5_isFormer_2 1000 v0 v1 (0 : Int32) σ
set_option maxRecDepth 100000 in
set_option maxHeartbeats 4000000 in
theorem V_X5_isFormer_0 {g : GG} (v0 : Nat) (v1 : Int32) (σ : Mm) (r : Int32) (σ' : Mm) (hf : f_X5_isFormer v0 v1 σ = some (r, σ')) : VJ g RX5 cX5_isFormer 3 (some .boolean) false rm_X5_isFormer (some (.int r)) σ' (0) (0) 0 [(0, .ref (gB g + v0)), (1, .int v1)] [] σ := by
  intro p e s m args below meth c H locs cells slots ls E hR hS hl hc hs
  obtain ⟨hx, hb, hml, hr, hlocks, hown, hts, hin, hT⟩ := id E
  unfold f_X5_isFormer at hf
  refine lv_iconst (v := (0 : Int32)) hx hb dX5_isFormer_0 rfl ?_
  refine lv_istore_n (lv' := [(2, .int (0 : Int32)), (0, .ref (gB g + v0)), (1, .int v1)]) hx hb dX5_isFormer_1 rfl hl (Nat.le_of_ble_eq_true rfl) rfl (fun ls hl => ?_)
  exact V_X5_isFormer_2  1000 _ _ _ _ _ _ hf p e s m args below meth c _ _ _ _ _ E hR hS (lv_sub hl [1, 2, 0] rfl) hc hs
theorem C_X5_isFormer {g : GG} {v0 : Nat} {v1 : Int32} {σ : Mm} {r : Int32} {σ' : Mm} (hf : f_X5_isFormer v0 v1 σ = some (r, σ')) : Ct g yX5_isFormer cX5_isFormer 3 (some .boolean) rm_X5_isFormer [.ref (gB g + v0), .int v1] σ (some (.int r)) σ' :=
  Ct.of false (by decide +kernel) (fun h => by cases h) (Nat.le_of_ble_eq_true rfl) (V_X5_isFormer_0 _ _ _ _ _ hf)
abbrev rm_X7_hideNothing : Room := { frames := 1, cells := 0, slots := 0, locals := 23 }
set_option maxRecDepth 100000 in
def f_X7_hideNothing (v0 : Nat) (σ : Mm) : Option (Unit × Mm) :=
  zck (kO σ v0 7) (zrb (mR σ v0 3) (fun b2 => zcb (f_J7_fill_53178 b2 (0 : Int32) σ) (fun r3 σ4 => some ((), σ4))))
set_option maxRecDepth 100000 in
set_option maxHeartbeats 4000000 in
theorem V_X7_hideNothing_0 {g : GG} (v0 : Nat) (σ : Mm) (r : Unit) (σ' : Mm) (hf : f_X7_hideNothing v0 σ = some (r, σ')) : VJ g RX7 cX7_hideNothing 1 none false rm_X7_hideNothing none σ' (0) (0) 0 [(0, .ref (gB g + v0))] [] σ := by
  intro p e s m args below meth c H locs cells slots ls E hR hS hl hc hs
  obtain ⟨hx, hb, hml, hr, hlocks, hown, hts, hin, hT⟩ := id E
  unfold f_X7_hideNothing at hf
  refine lv_aload_n hx hb dX7_hideNothing_0 rfl (lv_at hl 0 rfl) ?_
  obtain ⟨hk1, hf⟩ := zc_s hf
  obtain ⟨b2, hb2, hf⟩ := zr_s hf
  refine x_getR E hR hk1 hb2 ok7 (Nat.le_of_ble_eq_true rfl) rfl fl_X7_21 dX7_hideNothing_1 ?_
  refine lv_iconst (v := (0 : Int32)) hx hb dX7_hideNothing_4 rfl ?_
  obtain ⟨r3, σ4, hcr3, hf⟩ := zq_s hf
  refine xS (As := [.ref (gB g + b2), .int (0 : Int32)]) (rest := []) (st1 := []) E hR hS hl (C_J7_fill_53178 hcr3) lb_J7_fill_53178 ls_J7_fill_53178 ml_X7_46 ⟨Nat.le_of_ble_eq_true rfl, Nat.le_of_ble_eq_true rfl⟩ rfl rfl rfl (Nat.le_of_ble_eq_true rfl) dX7_hideNothing_5 ⟨hc, hs⟩ (fun H locs hR hS => ?_)
  obtain ⟨hr1, hs1⟩ := Prod.mk.inj (Option.some.inj hf)
  exact xr_v E hR hS rfl rfl hs1.symm hc hs dX7_hideNothing_8
theorem C_X7_hideNothing {g : GG} {v0 : Nat} {σ : Mm} {r : Unit} {σ' : Mm} (hf : f_X7_hideNothing v0 σ = some (r, σ')) : Ct g yX7_hideNothing cX7_hideNothing 1 none rm_X7_hideNothing [.ref (gB g + v0)] σ none σ' :=
  Ct.of false (by decide +kernel) (fun h => by cases h) (Nat.le_of_ble_eq_true rfl) (V_X7_hideNothing_0 _ _ _ _ hf)
abbrev rm_X8_keyOfItem : Room := { frames := 0, cells := 0, slots := 0, locals := 0 }
set_option maxRecDepth 100000 in
def f_X8_keyOfItem (v0 : Int32) (σ : Mm) : Option (Int32 × Mm) :=
  some ((((-100 : Int32) - v0) / (100 : Int32)), σ)
set_option maxRecDepth 100000 in
set_option maxHeartbeats 4000000 in
theorem V_X8_keyOfItem_0 {g : GG} (v0 : Int32) (σ : Mm) (r : Int32) (σ' : Mm) (hf : f_X8_keyOfItem v0 σ = some (r, σ')) : VJ g RX8 cX8_keyOfItem 1 (some .int) false rm_X8_keyOfItem (some (.int r)) σ' (0) (0) 0 [(0, .int v0)] [] σ := by
  intro p e s m args below meth c H locs cells slots ls E hR hS hl hc hs
  obtain ⟨hx, hb, hml, hr, hlocks, hown, hts, hin, hT⟩ := id E
  unfold f_X8_keyOfItem at hf
  refine lv_bipush (v := (-100 : Int32)) hx hb dX8_keyOfItem_0 rfl ?_
  refine lv_iload_n hx hb dX8_keyOfItem_2 rfl (lv_at hl 0 rfl) ?_
  refine lv_isub hx hb dX8_keyOfItem_3 ?_
  refine lv_bipush (v := (100 : Int32)) hx hb dX8_keyOfItem_4 rfl ?_
  refine lv_idiv hx hb dX8_keyOfItem_6 (by decide) ?_
  obtain ⟨hr1, hs1⟩ := Prod.mk.inj (Option.some.inj hf)
  exact xr_i E hR hS rfl (by rw [hr1]) hs1.symm hc hs dX8_keyOfItem_7
theorem C_X8_keyOfItem {g : GG} {v0 : Int32} {σ : Mm} {r : Int32} {σ' : Mm} (hf : f_X8_keyOfItem v0 σ = some (r, σ')) : Ct g yX8_keyOfItem cX8_keyOfItem 1 (some .int) rm_X8_keyOfItem [.int v0] σ (some (.int r)) σ' :=
  Ct.of false (by decide +kernel) (fun h => by cases h) (Nat.le_of_ble_eq_true rfl) (V_X8_keyOfItem_0 _ _ _ _ hf)
abbrev rm_X8_rankOf : Room := { frames := 0, cells := 0, slots := 0, locals := 0 }
set_option maxRecDepth 100000 in
def f_X8_rankOf (v0 : Int32) (σ : Mm) : Option (Int32 × Mm) :=
  some ((((((((4721 : Int64) * (((v0).toInt64) + (3 : Int64))) * (((v0).toInt64) + (3 : Int64))) * (((v0).toInt64) + (3 : Int64))) - ((((4721 : Int64) * (((v0).toInt64) + (3 : Int64))) * (((v0).toInt64) + (3 : Int64))) * (((v0).toInt64) + (3 : Int64))) / (10007 : Int64) * (10007 : Int64))).toInt32), σ)
set_option maxRecDepth 100000 in
set_option maxHeartbeats 4000000 in
theorem V_X8_rankOf_0 {g : GG} (v0 : Int32) (σ : Mm) (r : Int32) (σ' : Mm) (hf : f_X8_rankOf v0 σ = some (r, σ')) : VJ g RX8 cX8_rankOf 3 (some .int) false rm_X8_rankOf (some (.int r)) σ' (0) (0) 0 [(0, .int v0)] [] σ := by
  intro p e s m args below meth c H locs cells slots ls E hR hS hl hc hs
  obtain ⟨hx, hb, hml, hr, hlocks, hown, hts, hin, hT⟩ := id E
  unfold f_X8_rankOf at hf
  refine lv_iload_n hx hb dX8_rankOf_0 rfl (lv_at hl 0 rfl) ?_
  refine lv_i2l (v := (v0).toInt64) hx hb dX8_rankOf_1 rfl ?_
  refine lv_ldc2 (v := (3 : Int64)) hx hb hown (hts _ kl_X8_278) dX8_rankOf_2 ?_
  refine lv_ladd hx hb dX8_rankOf_5 ?_
  refine lv_lstore_n (lv' := [(1, .long (((v0).toInt64) + (3 : Int64))), (0, .int v0)]) hx hb dX8_rankOf_6 rfl hl (Nat.le_of_ble_eq_true rfl) rfl (fun ls hl => ?_)
  refine lv_ldc2 (v := (4721 : Int64)) hx hb hown (hts _ kl_X8_280) dX8_rankOf_7 ?_
  refine lv_lload_n hx hb dX8_rankOf_10 rfl (lv_at hl 0 rfl) ?_
  refine lv_lmul hx hb dX8_rankOf_11 ?_
  refine lv_lload_n hx hb dX8_rankOf_12 rfl (lv_at hl 0 rfl) ?_
  refine lv_lmul hx hb dX8_rankOf_13 ?_
  refine lv_lload_n hx hb dX8_rankOf_14 rfl (lv_at hl 0 rfl) ?_
  refine lv_lmul hx hb dX8_rankOf_15 ?_
  refine lv_ldc2 (v := (10007 : Int64)) hx hb hown (hts _ kl_X8_282) dX8_rankOf_16 ?_
  refine lv_lrem hx hb dX8_rankOf_19 (by decide) ?_
  refine lv_l2i (v := ((((((4721 : Int64) * (((v0).toInt64) + (3 : Int64))) * (((v0).toInt64) + (3 : Int64))) * (((v0).toInt64) + (3 : Int64))) - ((((4721 : Int64) * (((v0).toInt64) + (3 : Int64))) * (((v0).toInt64) + (3 : Int64))) * (((v0).toInt64) + (3 : Int64))) / (10007 : Int64) * (10007 : Int64))).toInt32) hx hb dX8_rankOf_20 rfl ?_
  obtain ⟨hr1, hs1⟩ := Prod.mk.inj (Option.some.inj hf)
  exact xr_i E hR hS rfl (by rw [hr1]) hs1.symm hc hs dX8_rankOf_21
theorem C_X8_rankOf {g : GG} {v0 : Int32} {σ : Mm} {r : Int32} {σ' : Mm} (hf : f_X8_rankOf v0 σ = some (r, σ')) : Ct g yX8_rankOf cX8_rankOf 3 (some .int) rm_X8_rankOf [.int v0] σ (some (.int r)) σ' :=
  Ct.of false (by decide +kernel) (fun h => by cases h) (Nat.le_of_ble_eq_true rfl) (V_X8_rankOf_0 _ _ _ _ hf)
abbrev rm_X8_isAbove : Room := { frames := 1, cells := 0, slots := 0, locals := 22 }
set_option maxRecDepth 100000 in
def f_X8_isAbove (v0 : Int32) (v1 : Int32) (σ : Mm) : Option (Int32 × Mm) :=
  zcb (f_X8_rankOf v0 σ) (fun r1 σ2 => zcb (f_X8_rankOf v1 σ2) (fun r3 σ4 => if r1 = r3 then (if v1 ≤ v0 then (some ((0 : Int32), σ4)) else (some ((1 : Int32), σ4))) else (if r1 ≤ r3 then (some ((0 : Int32), σ4)) else (some ((1 : Int32), σ4)))))
set_option maxRecDepth 100000 in
set_option maxHeartbeats 4000000 in
theorem V_X8_isAbove_0 {g : GG} (v0 : Int32) (v1 : Int32) (σ : Mm) (r : Int32) (σ' : Mm) (hf : f_X8_isAbove v0 v1 σ = some (r, σ')) : VJ g RX8 cX8_isAbove 4 (some .boolean) false rm_X8_isAbove (some (.int r)) σ' (0) (0) 0 [(0, .int v0), (1, .int v1)] [] σ := by
  intro p e s m args below meth c H locs cells slots ls E hR hS hl hc hs
  obtain ⟨hx, hb, hml, hr, hlocks, hown, hts, hin, hT⟩ := id E
  unfold f_X8_isAbove at hf
  refine lv_iload_n hx hb dX8_isAbove_0 rfl (lv_at hl 0 rfl) ?_
  obtain ⟨r1, σ2, hcr1, hf⟩ := zq_s hf
  refine xS (As := [.int v0]) (rest := []) (st1 := [.int r1]) E hR hS hl (C_X8_rankOf hcr1) lb_X8_rankOf ls_X8_rankOf ml_X8_150 ⟨Nat.le_of_ble_eq_true rfl, Nat.le_of_ble_eq_true rfl⟩ rfl rfl rfl (Nat.le_of_ble_eq_true rfl) dX8_isAbove_1 ⟨hc, hs⟩ (fun H locs hR hS => ?_)
  refine lv_istore_n (lv' := [(2, .int r1), (0, .int v0), (1, .int v1)]) hx hb dX8_isAbove_4 rfl hl (Nat.le_of_ble_eq_true rfl) rfl (fun ls hl => ?_)
  refine lv_iload_n hx hb dX8_isAbove_5 rfl (lv_at hl 2 rfl) ?_
  obtain ⟨r3, σ4, hcr3, hf⟩ := zq_s hf
  refine xS (As := [.int v1]) (rest := []) (st1 := [.int r3]) E hR hS hl (C_X8_rankOf hcr3) lb_X8_rankOf ls_X8_rankOf ml_X8_150 ⟨Nat.le_of_ble_eq_true rfl, Nat.le_of_ble_eq_true rfl⟩ rfl rfl rfl (Nat.le_of_ble_eq_true rfl) dX8_isAbove_6 ⟨hc, hs⟩ (fun H locs hR hS => ?_)
  refine lv_istore_n (lv' := [(3, .int r3), (2, .int r1), (0, .int v0), (1, .int v1)]) hx hb dX8_isAbove_9 rfl hl (Nat.le_of_ble_eq_true rfl) rfl (fun ls hl => ?_)
  refine lv_iload_n hx hb dX8_isAbove_10 rfl (lv_at hl 1 rfl) ?_
  refine lv_iload_n hx hb dX8_isAbove_11 rfl (lv_at hl 0 rfl) ?_
  refine lv_icmp_ne (tgt := 28) hx hb dX8_isAbove_12 (by decide) (fun hq5 => ?_) (fun hq5 => ?_)
  · have hf := ite_n hq5 hf
    refine lv_iload_n hx hb dX8_isAbove_28 rfl (lv_at hl 1 rfl) ?_
    refine lv_iload_n hx hb dX8_isAbove_29 rfl (lv_at hl 0 rfl) ?_
    refine lv_icmp_le (tgt := 37) hx hb dX8_isAbove_30 (by decide) (fun hq6 => ?_) (fun hq6 => ?_)
    · have hf := ite_p hq6 hf
      refine lv_iconst (v := (0 : Int32)) hx hb dX8_isAbove_37 rfl ?_
      obtain ⟨hr1, hs1⟩ := Prod.mk.inj (Option.some.inj hf)
      exact xr_z E hR hS rfl rfl (by rw [hr1]) hs1.symm hc hs dX8_isAbove_38
    · have hf := ite_n hq6 hf
      refine lv_iconst (v := (1 : Int32)) hx hb dX8_isAbove_33 rfl ?_
      refine lv_goto (tgt := 38) hx hb dX8_isAbove_34 (by decide) ?_
      obtain ⟨hr1, hs1⟩ := Prod.mk.inj (Option.some.inj hf)
      exact xr_z E hR hS rfl rfl (by rw [hr1]) hs1.symm hc hs dX8_isAbove_38
  · have hf := ite_p hq5 hf
    refine lv_iload_n hx hb dX8_isAbove_15 rfl (lv_at hl 2 rfl) ?_
    refine lv_iload_n hx hb dX8_isAbove_16 rfl (lv_at hl 3 rfl) ?_
    refine lv_icmp_ge (tgt := 24) hx hb dX8_isAbove_17 (by decide) (fun hq7 => ?_) (fun hq7 => ?_)
    · have hf := ite_p hq7 hf
      refine lv_iconst (v := (0 : Int32)) hx hb dX8_isAbove_24 rfl ?_
      refine lv_goto (tgt := 38) hx hb dX8_isAbove_25 (by decide) ?_
      obtain ⟨hr1, hs1⟩ := Prod.mk.inj (Option.some.inj hf)
      exact xr_z E hR hS rfl rfl (by rw [hr1]) hs1.symm hc hs dX8_isAbove_38
    · have hf := ite_n hq7 hf
      refine lv_iconst (v := (1 : Int32)) hx hb dX8_isAbove_20 rfl ?_
      refine lv_goto (tgt := 38) hx hb dX8_isAbove_21 (by decide) ?_
      obtain ⟨hr1, hs1⟩ := Prod.mk.inj (Option.some.inj hf)
      exact xr_z E hR hS rfl rfl (by rw [hr1]) hs1.symm hc hs dX8_isAbove_38
theorem C_X8_isAbove {g : GG} {v0 : Int32} {v1 : Int32} {σ : Mm} {r : Int32} {σ' : Mm} (hf : f_X8_isAbove v0 v1 σ = some (r, σ')) : Ct g yX8_isAbove cX8_isAbove 4 (some .boolean) rm_X8_isAbove [.int v0, .int v1] σ (some (.int r)) σ' :=
  Ct.of false (by decide +kernel) (fun h => by cases h) (Nat.le_of_ble_eq_true rfl) (V_X8_isAbove_0 _ _ _ _ _ hf)
abbrev rm_X5_reasonOfNode : Room := { frames := 2, cells := 0, slots := 0, locals := 45 }
set_option maxRecDepth 100000 in
def f_X5_reasonOfNode (v0 : Int32) (v1 : Int32) (v2 : Int32) (v3 : Int32) (σ : Mm) : Option (Int32 × Mm) :=
  if v0 < v2 then (some ((3 : Int32), σ)) else (if v0 ≤ v3 then (zcb (f_X8_isNumber v1 σ) (fun r3 σ4 => if r3 = 0 then (some ((0 : Int32), σ4)) else (zcb (f_X8_isAbove v1 v0 σ4) (fun r6 σ7 => if r6 = 0 then (some ((4 : Int32), σ7)) else (some ((0 : Int32), σ7)))))) else (some ((3 : Int32), σ)))
set_option maxRecDepth 100000 in
set_option maxHeartbeats 4000000 in
theorem V_X5_reasonOfNode_0 {g : GG} (v0 : Int32) (v1 : Int32) (v2 : Int32) (v3 : Int32) (σ : Mm) (r : Int32) (σ' : Mm) (hf : f_X5_reasonOfNode v0 v1 v2 v3 σ = some (r, σ')) : VJ g RX5 cX5_reasonOfNode 4 (some .int) false rm_X5_reasonOfNode (some (.int r)) σ' (0) (0) 0 [(0, .int v0), (1, .int v1), (2, .int v2), (3, .int v3)] [] σ := by
  intro p e s m args below meth c H locs cells slots ls E hR hS hl hc hs
  obtain ⟨hx, hb, hml, hr, hlocks, hown, hts, hin, hT⟩ := id E
  unfold f_X5_reasonOfNode at hf
  refine lv_iload_n hx hb dX5_reasonOfNode_0 rfl (lv_at hl 0 rfl) ?_
  refine lv_iload_n hx hb dX5_reasonOfNode_1 rfl (lv_at hl 2 rfl) ?_
  refine lv_icmp_lt (tgt := 10) hx hb dX5_reasonOfNode_2 (by decide) (fun hq1 => ?_) (fun hq1 => ?_)
  · have hf := ite_p hq1 hf
    refine lv_iconst (v := (3 : Int32)) hx hb dX5_reasonOfNode_10 rfl ?_
    obtain ⟨hr1, hs1⟩ := Prod.mk.inj (Option.some.inj hf)
    exact xr_i E hR hS rfl (by rw [hr1]) hs1.symm hc hs dX5_reasonOfNode_11
  · have hf := ite_n hq1 hf
    refine lv_iload_n hx hb dX5_reasonOfNode_5 rfl (lv_at hl 0 rfl) ?_
    refine lv_iload_n hx hb dX5_reasonOfNode_6 rfl (lv_at hl 3 rfl) ?_
    refine lv_icmp_le (tgt := 12) hx hb dX5_reasonOfNode_7 (by decide) (fun hq2 => ?_) (fun hq2 => ?_)
    · have hf := ite_p hq2 hf
      refine lv_iload_n hx hb dX5_reasonOfNode_12 rfl (lv_at hl 1 rfl) ?_
      obtain ⟨r3, σ4, hcr3, hf⟩ := zq_s hf
      refine xSN (As := [.int v1]) (rest := []) (st1 := [.int r3]) E hR hS hl (C_X8_isNumber hcr3) lb_X8_isNumber ls_X8_isNumber nl_X5_122 ⟨Nat.le_of_ble_eq_true rfl, Nat.le_of_ble_eq_true rfl⟩ rfl rfl rfl (Nat.le_of_ble_eq_true rfl) dX5_reasonOfNode_13 ⟨hc, hs⟩ (fun H locs hR hS => ?_)
      refine lv_if_eq (tgt := 31) hx hb dX5_reasonOfNode_16 (by decide) (fun hq5 => ?_) (fun hq5 => ?_)
      · have hf := ite_p hq5 hf
        refine lv_iconst (v := (0 : Int32)) hx hb dX5_reasonOfNode_31 rfl ?_
        obtain ⟨hr1, hs1⟩ := Prod.mk.inj (Option.some.inj hf)
        exact xr_i E hR hS rfl (by rw [hr1]) hs1.symm hc hs dX5_reasonOfNode_32
      · have hf := ite_n hq5 hf
        refine lv_iload_n hx hb dX5_reasonOfNode_19 rfl (lv_at hl 1 rfl) ?_
        refine lv_iload_n hx hb dX5_reasonOfNode_20 rfl (lv_at hl 0 rfl) ?_
        obtain ⟨r6, σ7, hcr6, hf⟩ := zq_s hf
        refine xSN (As := [.int v1, .int v0]) (rest := []) (st1 := [.int r6]) E hR hS hl (C_X8_isAbove hcr6) lb_X8_isAbove ls_X8_isAbove nl_X5_125 ⟨Nat.le_of_ble_eq_true rfl, Nat.le_of_ble_eq_true rfl⟩ rfl rfl rfl (Nat.le_of_ble_eq_true rfl) dX5_reasonOfNode_21 ⟨hc, hs⟩ (fun H locs hR hS => ?_)
        refine lv_if_ne (tgt := 31) hx hb dX5_reasonOfNode_24 (by decide) (fun hq8 => ?_) (fun hq8 => ?_)
        · have hf := ite_n hq8 hf
          refine lv_iconst (v := (0 : Int32)) hx hb dX5_reasonOfNode_31 rfl ?_
          obtain ⟨hr1, hs1⟩ := Prod.mk.inj (Option.some.inj hf)
          exact xr_i E hR hS rfl (by rw [hr1]) hs1.symm hc hs dX5_reasonOfNode_32
        · have hf := ite_p hq8 hf
          refine lv_iconst (v := (4 : Int32)) hx hb dX5_reasonOfNode_27 rfl ?_
          refine lv_goto (tgt := 32) hx hb dX5_reasonOfNode_28 (by decide) ?_
          obtain ⟨hr1, hs1⟩ := Prod.mk.inj (Option.some.inj hf)
          exact xr_i E hR hS rfl (by rw [hr1]) hs1.symm hc hs dX5_reasonOfNode_32
    · have hf := ite_n hq2 hf
      refine lv_iconst (v := (3 : Int32)) hx hb dX5_reasonOfNode_10 rfl ?_
      obtain ⟨hr1, hs1⟩ := Prod.mk.inj (Option.some.inj hf)
      exact xr_i E hR hS rfl (by rw [hr1]) hs1.symm hc hs dX5_reasonOfNode_11
theorem C_X5_reasonOfNode {g : GG} {v0 : Int32} {v1 : Int32} {v2 : Int32} {v3 : Int32} {σ : Mm} {r : Int32} {σ' : Mm} (hf : f_X5_reasonOfNode v0 v1 v2 v3 σ = some (r, σ')) : Ct g yX5_reasonOfNode cX5_reasonOfNode 4 (some .int) rm_X5_reasonOfNode [.int v0, .int v1, .int v2, .int v3] σ (some (.int r)) σ' :=
  Ct.of false (by decide +kernel) (fun h => by cases h) (Nat.le_of_ble_eq_true rfl) (V_X5_reasonOfNode_0 _ _ _ _ _ _ _ hf)
abbrev rm_X5_reasonOfLeaf : Room := { frames := 0, cells := 0, slots := 0, locals := 0 }
set_option maxRecDepth 100000 in
def f_X5_reasonOfLeaf (v0 : Int32) (v1 : Int32) (v2 : Int32) (v3 : Int32) (σ : Mm) : Option (Int32 × Mm) :=
  if v0 = 0 then (some ((0 : Int32), σ)) else (if v1 ≤ v2 then (if v3 = 0 then (some ((0 : Int32), σ)) else (some ((5 : Int32), σ))) else (some ((3 : Int32), σ)))
set_option maxRecDepth 100000 in
set_option maxHeartbeats 4000000 in
theorem V_X5_reasonOfLeaf_0 {g : GG} (v0 : Int32) (v1 : Int32) (v2 : Int32) (v3 : Int32) (σ : Mm) (r : Int32) (σ' : Mm) (hf : f_X5_reasonOfLeaf v0 v1 v2 v3 σ = some (r, σ')) : VJ g RX5 cX5_reasonOfLeaf 4 (some .int) false rm_X5_reasonOfLeaf (some (.int r)) σ' (0) (0) 0 [(0, .int v0), (1, .int v1), (2, .int v2), (3, .int v3)] [] σ := by
  intro p e s m args below meth c H locs cells slots ls E hR hS hl hc hs
  obtain ⟨hx, hb, hml, hr, hlocks, hown, hts, hin, hT⟩ := id E
  unfold f_X5_reasonOfLeaf at hf
  refine lv_iload_n hx hb dX5_reasonOfLeaf_0 rfl (lv_at hl 0 rfl) ?_
  refine lv_if_ne (tgt := 6) hx hb dX5_reasonOfLeaf_1 (by decide) (fun hq1 => ?_) (fun hq1 => ?_)
  · have hf := ite_n hq1 hf
    refine lv_iload_n hx hb dX5_reasonOfLeaf_6 rfl (lv_at hl 1 rfl) ?_
    refine lv_iload_n hx hb dX5_reasonOfLeaf_7 rfl (lv_at hl 2 rfl) ?_
    refine lv_icmp_le (tgt := 13) hx hb dX5_reasonOfLeaf_8 (by decide) (fun hq2 => ?_) (fun hq2 => ?_)
    · have hf := ite_p hq2 hf
      refine lv_iload_n hx hb dX5_reasonOfLeaf_13 rfl (lv_at hl 3 rfl) ?_
      refine lv_if_eq (tgt := 21) hx hb dX5_reasonOfLeaf_14 (by decide) (fun hq3 => ?_) (fun hq3 => ?_)
      · have hf := ite_p hq3 hf
        refine lv_iconst (v := (0 : Int32)) hx hb dX5_reasonOfLeaf_21 rfl ?_
        obtain ⟨hr1, hs1⟩ := Prod.mk.inj (Option.some.inj hf)
        exact xr_i E hR hS rfl (by rw [hr1]) hs1.symm hc hs dX5_reasonOfLeaf_22
      · have hf := ite_n hq3 hf
        refine lv_iconst (v := (5 : Int32)) hx hb dX5_reasonOfLeaf_17 rfl ?_
        refine lv_goto (tgt := 22) hx hb dX5_reasonOfLeaf_18 (by decide) ?_
        obtain ⟨hr1, hs1⟩ := Prod.mk.inj (Option.some.inj hf)
        exact xr_i E hR hS rfl (by rw [hr1]) hs1.symm hc hs dX5_reasonOfLeaf_22
    · have hf := ite_n hq2 hf
      refine lv_iconst (v := (3 : Int32)) hx hb dX5_reasonOfLeaf_11 rfl ?_
      obtain ⟨hr1, hs1⟩ := Prod.mk.inj (Option.some.inj hf)
      exact xr_i E hR hS rfl (by rw [hr1]) hs1.symm hc hs dX5_reasonOfLeaf_12
  · have hf := ite_p hq1 hf
    refine lv_iconst (v := (0 : Int32)) hx hb dX5_reasonOfLeaf_4 rfl ?_
    obtain ⟨hr1, hs1⟩ := Prod.mk.inj (Option.some.inj hf)
    exact xr_i E hR hS rfl (by rw [hr1]) hs1.symm hc hs dX5_reasonOfLeaf_5
theorem C_X5_reasonOfLeaf {g : GG} {v0 : Int32} {v1 : Int32} {v2 : Int32} {v3 : Int32} {σ : Mm} {r : Int32} {σ' : Mm} (hf : f_X5_reasonOfLeaf v0 v1 v2 v3 σ = some (r, σ')) : Ct g yX5_reasonOfLeaf cX5_reasonOfLeaf 4 (some .int) rm_X5_reasonOfLeaf [.int v0, .int v1, .int v2, .int v3] σ (some (.int r)) σ' :=
  Ct.of false (by decide +kernel) (fun h => by cases h) (Nat.le_of_ble_eq_true rfl) (V_X5_reasonOfLeaf_0 _ _ _ _ _ _ _ hf)
abbrev rm_X8_valueOfItem : Room := { frames := 0, cells := 0, slots := 0, locals := 0 }
set_option maxRecDepth 100000 in
def f_X8_valueOfItem (v0 : Int32) (σ : Mm) : Option (Int32 × Mm) :=
  some ((((-100 : Int32) - v0) - ((-100 : Int32) - v0) / (100 : Int32) * (100 : Int32)), σ)
set_option maxRecDepth 100000 in
set_option maxHeartbeats 4000000 in
theorem V_X8_valueOfItem_0 {g : GG} (v0 : Int32) (σ : Mm) (r : Int32) (σ' : Mm) (hf : f_X8_valueOfItem v0 σ = some (r, σ')) : VJ g RX8 cX8_valueOfItem 1 (some .int) false rm_X8_valueOfItem (some (.int r)) σ' (0) (0) 0 [(0, .int v0)] [] σ := by
  intro p e s m args below meth c H locs cells slots ls E hR hS hl hc hs
  obtain ⟨hx, hb, hml, hr, hlocks, hown, hts, hin, hT⟩ := id E
  unfold f_X8_valueOfItem at hf
  refine lv_bipush (v := (-100 : Int32)) hx hb dX8_valueOfItem_0 rfl ?_
  refine lv_iload_n hx hb dX8_valueOfItem_2 rfl (lv_at hl 0 rfl) ?_
  refine lv_isub hx hb dX8_valueOfItem_3 ?_
  refine lv_bipush (v := (100 : Int32)) hx hb dX8_valueOfItem_4 rfl ?_
  refine lv_irem hx hb dX8_valueOfItem_6 (by decide) ?_
  obtain ⟨hr1, hs1⟩ := Prod.mk.inj (Option.some.inj hf)
  exact xr_i E hR hS rfl (by rw [hr1]) hs1.symm hc hs dX8_valueOfItem_7
theorem C_X8_valueOfItem {g : GG} {v0 : Int32} {σ : Mm} {r : Int32} {σ' : Mm} (hf : f_X8_valueOfItem v0 σ = some (r, σ')) : Ct g yX8_valueOfItem cX8_valueOfItem 1 (some .int) rm_X8_valueOfItem [.int v0] σ (some (.int r)) σ' :=
  Ct.of false (by decide +kernel) (fun h => by cases h) (Nat.le_of_ble_eq_true rfl) (V_X8_valueOfItem_0 _ _ _ _ hf)
abbrev rm_X7_hide : Room := { frames := 0, cells := 0, slots := 0, locals := 0 }
set_option maxRecDepth 100000 in
def f_X7_hide (v0 : Nat) (v1 : Int32) (v2 : Int32) (σ : Mm) : Option (Unit × Mm) :=
  if v1 < 0 then (some ((), σ)) else (if (100 : Int32) < v1 then (some ((), σ)) else (zck (kO σ v0 7) (zrb (mR σ v0 3) (fun b4 => zck (kA σ 1 b4 v1) (zlt (sD σ b4 (ix v1) v2) (fun σ6 => some ((), σ6)))))))
set_option maxRecDepth 100000 in
set_option maxHeartbeats 4000000 in
theorem V_X7_hide_0 {g : GG} (v0 : Nat) (v1 : Int32) (v2 : Int32) (σ : Mm) (r : Unit) (σ' : Mm) (hf : f_X7_hide v0 v1 v2 σ = some (r, σ')) : VJ g RX7 cX7_hide 3 none false rm_X7_hide none σ' (0) (0) 0 [(0, .ref (gB g + v0)), (1, .int v1), (2, .int v2)] [] σ := by
  intro p e s m args below meth c H locs cells slots ls E hR hS hl hc hs
  obtain ⟨hx, hb, hml, hr, hlocks, hown, hts, hin, hT⟩ := id E
  unfold f_X7_hide at hf
  refine lv_iload_n hx hb dX7_hide_0 rfl (lv_at hl 1 rfl) ?_
  refine lv_if_lt (tgt := 17) hx hb dX7_hide_1 (by decide) (fun hq1 => ?_) (fun hq1 => ?_)
  · have hf := ite_p hq1 hf
    obtain ⟨hr1, hs1⟩ := Prod.mk.inj (Option.some.inj hf)
    exact xr_v E hR hS rfl rfl hs1.symm hc hs dX7_hide_17
  · have hf := ite_n hq1 hf
    refine lv_iload_n hx hb dX7_hide_4 rfl (lv_at hl 1 rfl) ?_
    refine lv_bipush (v := (100 : Int32)) hx hb dX7_hide_5 rfl ?_
    refine lv_icmp_gt (tgt := 17) hx hb dX7_hide_7 (by decide) (fun hq2 => ?_) (fun hq2 => ?_)
    · have hf := ite_p hq2 hf
      obtain ⟨hr1, hs1⟩ := Prod.mk.inj (Option.some.inj hf)
      exact xr_v E hR hS rfl rfl hs1.symm hc hs dX7_hide_17
    · have hf := ite_n hq2 hf
      refine lv_aload_n hx hb dX7_hide_10 rfl (lv_at hl 0 rfl) ?_
      obtain ⟨hk3, hf⟩ := zc_s hf
      obtain ⟨b4, hb4, hf⟩ := zr_s hf
      refine x_getR E hR hk3 hb4 ok7 (Nat.le_of_ble_eq_true rfl) rfl fl_X7_21 dX7_hide_11 ?_
      refine lv_iload_n hx hb dX7_hide_14 rfl (lv_at hl 1 rfl) ?_
      refine lv_iload_n hx hb dX7_hide_15 rfl (lv_at hl 2 rfl) ?_
      obtain ⟨hk5, hf⟩ := zc_s hf
      obtain ⟨σ6, eσ6, hf⟩ := zl_s hf
      refine x_ist E hR hS hk5 dX7_hide_16 (fun H locs hR hS => ?_)
      rw [← eσ6] at hR
      obtain ⟨hr1, hs1⟩ := Prod.mk.inj (Option.some.inj hf)
      exact xr_v E hR hS rfl rfl hs1.symm hc hs dX7_hide_17
theorem C_X7_hide {g : GG} {v0 : Nat} {v1 : Int32} {v2 : Int32} {σ : Mm} {r : Unit} {σ' : Mm} (hf : f_X7_hide v0 v1 v2 σ = some (r, σ')) : Ct g yX7_hide cX7_hide 3 none rm_X7_hide [.ref (gB g + v0), .int v1, .int v2] σ none σ' :=
  Ct.of false (by decide +kernel) (fun h => by cases h) (Nat.le_of_ble_eq_true rfl) (V_X7_hide_0 _ _ _ _ _ _ hf)
abbrev rm_X5_takeIn : Room := { frames := 3, cells := 0, slots := 0, locals := 68 }
set_option maxRecDepth 100000 in
def f_X5_takeIn_221 (k_34 : Nat → Int32 → Int32 → Int32 → Int32 → Int32 → Int32 → Mm → Option (Int32 × Mm)) (v0 : Nat) (v1 : Int32) (v2 : Int32) (v3 : Int32) (v4 : Int32) (v5 : Int32) (v6 : Int32) (σ : Mm) : Option (Int32 × Mm) :=
  k_34 v0 v1 v2 v3 v4 v5 (v6 + (1 : Int32)) σ
set_option maxRecDepth 100000 in
set_option maxHeartbeats 4000000 in
theorem V_X5_takeIn_221 {g : GG} (k_34 : Nat → Int32 → Int32 → Int32 → Int32 → Int32 → Int32 → Mm → Option (Int32 × Mm)) (hk_34 : ∀ (v0 : Nat) (v1 : Int32) (v2 : Int32) (v3 : Int32) (v4 : Int32) (v5 : Int32) (v6 : Int32) (σ : Mm) (r : Int32) (σ' : Mm), k_34 v0 v1 v2 v3 v4 v5 v6 σ = some (r, σ') → VJ g RX5 cX5_takeIn 9 (some .int) false rm_X5_takeIn (some (.int r)) σ' (0) (0) 34 [(0, .ref (gB g + v0)), (1, .int v1), (2, .int v2), (3, .int v3), (4, .int v4), (5, .int v5), (6, .int v6)] [] σ) (v0 : Nat) (v1 : Int32) (v2 : Int32) (v3 : Int32) (v4 : Int32) (v5 : Int32) (v6 : Int32) (σ : Mm) (r : Int32) (σ' : Mm) (hf : f_X5_takeIn_221 k_34 v0 v1 v2 v3 v4 v5 v6 σ = some (r, σ')) : VJ g RX5 cX5_takeIn 9 (some .int) false rm_X5_takeIn (some (.int r)) σ' (0) (0) 221 [(0, .ref (gB g + v0)), (1, .int v1), (2, .int v2), (3, .int v3), (4, .int v4), (5, .int v5), (6, .int v6)] [] σ := by
  intro p e s m args below meth c H locs cells slots ls E hR hS hl hc hs
  obtain ⟨hx, hb, hml, hr, hlocks, hown, hts, hin, hT⟩ := id E
  unfold f_X5_takeIn_221 at hf
  refine lv_iinc (v := (v6 + (1 : Int32))) (lv' := [(6, .int (v6 + (1 : Int32))), (0, .ref (gB g + v0)), (1, .int v1), (2, .int v2), (3, .int v3), (4, .int v4), (5, .int v5)]) hx hb dX5_takeIn_221 hl (k := 6) rfl rfl (Nat.le_of_ble_eq_true rfl) rfl (fun ls hl => ?_)
  refine lv_goto (tgt := 34) hx hb dX5_takeIn_224 (by decide) ?_
  exact hk_34 _ _ _ _ _ _ _ _ _ _ hf p e s m args below meth c _ _ _ _ _ E hR hS (lv_sub hl [1, 2, 3, 4, 5, 6, 0] rfl) hc hs
set_option maxRecDepth 100000 in
def f_X5_takeIn_104 (k_34 : Nat → Int32 → Int32 → Int32 → Int32 → Int32 → Int32 → Mm → Option (Int32 × Mm)) (v0 : Nat) (v1 : Int32) (v2 : Int32) (v4 : Int32) (v5 : Int32) (v6 : Int32) (v7 : Int32) (w0 : Int32) (σ : Mm) : Option (Int32 × Mm) :=
  if w0 = 0 then (if 0 ≤ v7 then (zck (kO σ v0 5) (zrb (mR σ v0 5) (fun b4 => zck (kO σ b4 7) (zcb (f_X7_hide b4 (v5 + (1 : Int32)) v7 σ) (fun r6 σ7 => zck (kO σ7 v0 5) (zrb (mR σ7 v0 6) (fun b9 => zck (kO σ7 b9 3) (zcb (f_X3_pop b9 σ7) (fun r11 σ12 => if r11 = 0 then (zck (kO σ12 v0 5) (zrb (mR σ12 v0 0) (fun b25 => zck (kO σ12 b25 1) (zcb (f_X1_count b25 σ12) (fun r27 σ28 => if r27 ≤ (v6 + (1 : Int32)) then (some ((0 : Int32), σ28)) else (some ((2 : Int32), σ28))))))) else (zck (kO σ12 v0 5) (zrb (mR σ12 v0 6) (fun b15 => zck (kO σ12 b15 3) (zcb (f_X3_key b15 σ12) (fun r17 σ18 => zck (kO σ18 v0 5) (zrb (mR σ18 v0 6) (fun b20 => zck (kO σ18 b20 3) (zcb (f_X3_hi b20 σ18) (fun r22 σ23 => f_X5_takeIn_221 k_34 v0 v1 v2 r17 (r17 + (1 : Int32)) r22 v6 σ23)))))))))))))))))) else (zcb (f_X8_keyOfItem v7 σ) (fun r30 σ31 => zck (kO σ31 v0 5) (zrb (mR σ31 v0 4) (fun b33 => zcb (f_X8_valueOfItem v7 σ31) (fun r34 σ35 => zck (kO σ35 b33 2) (zcb (f_X2_give b33 r30 r34 σ35) (fun r37 σ38 => zck (kO σ38 v0 5) (zrb (mR σ38 v0 6) (fun b40 => zck (kO σ38 b40 3) (zcb (f_X3_push b40 r30 v5 σ38) (fun r42 σ43 => f_X5_takeIn_221 k_34 v0 v1 v2 r30 v4 (r30 - (1 : Int32)) v6 σ43)))))))))))) else (some (w0, σ))
set_option maxRecDepth 100000 in
set_option maxHeartbeats 4000000 in
theorem V_X5_takeIn_104 {g : GG} (k_34 : Nat → Int32 → Int32 → Int32 → Int32 → Int32 → Int32 → Mm → Option (Int32 × Mm)) (hk_34 : ∀ (v0 : Nat) (v1 : Int32) (v2 : Int32) (v3 : Int32) (v4 : Int32) (v5 : Int32) (v6 : Int32) (σ : Mm) (r : Int32) (σ' : Mm), k_34 v0 v1 v2 v3 v4 v5 v6 σ = some (r, σ') → VJ g RX5 cX5_takeIn 9 (some .int) false rm_X5_takeIn (some (.int r)) σ' (0) (0) 34 [(0, .ref (gB g + v0)), (1, .int v1), (2, .int v2), (3, .int v3), (4, .int v4), (5, .int v5), (6, .int v6)] [] σ) (v0 : Nat) (v1 : Int32) (v2 : Int32) (v4 : Int32) (v5 : Int32) (v6 : Int32) (v7 : Int32) (w0 : Int32) (σ : Mm) (r : Int32) (σ' : Mm) (hf : f_X5_takeIn_104 k_34 v0 v1 v2 v4 v5 v6 v7 w0 σ = some (r, σ')) : VJ g RX5 cX5_takeIn 9 (some .int) false rm_X5_takeIn (some (.int r)) σ' (0) (0) 104 [(0, .ref (gB g + v0)), (1, .int v1), (2, .int v2), (4, .int v4), (5, .int v5), (6, .int v6), (7, .int v7)] [.int w0] σ := by
  intro p e s m args below meth c H locs cells slots ls E hR hS hl hc hs
  obtain ⟨hx, hb, hml, hr, hlocks, hown, hts, hin, hT⟩ := id E
  unfold f_X5_takeIn_104 at hf
  refine lv_istore (lv' := [(8, .int w0), (0, .ref (gB g + v0)), (1, .int v1), (2, .int v2), (4, .int v4), (5, .int v5), (6, .int v6), (7, .int v7)]) hx hb dX5_takeIn_104 hl (Nat.le_of_ble_eq_true rfl) rfl (fun ls hl => ?_)
  refine lv_iload hx hb dX5_takeIn_106 (lv_at hl 0 rfl) ?_
  refine lv_if_eq (tgt := 114) hx hb dX5_takeIn_108 (by decide) (fun hq1 => ?_) (fun hq1 => ?_)
  · have hf := ite_p hq1 hf
    refine lv_iload hx hb dX5_takeIn_114 (lv_at hl 7 rfl) ?_
    refine lv_if_ge (tgt := 156) hx hb dX5_takeIn_116 (by decide) (fun hq2 => ?_) (fun hq2 => ?_)
    · have hf := ite_p hq2 hf
      refine lv_aload_n hx hb dX5_takeIn_156 rfl (lv_at hl 1 rfl) ?_
      obtain ⟨hk3, hf⟩ := zc_s hf
      obtain ⟨b4, hb4, hf⟩ := zr_s hf
      refine x_getR E hR hk3 hb4 ok5 (Nat.le_of_ble_eq_true rfl) rfl fl_X5_32 dX5_takeIn_157 ?_
      refine lv_iload hx hb dX5_takeIn_160 (lv_at hl 5 rfl) ?_
      refine lv_iconst (v := (1 : Int32)) hx hb dX5_takeIn_162 rfl ?_
      refine lv_iadd hx hb dX5_takeIn_163 ?_
      refine lv_iload hx hb dX5_takeIn_164 (lv_at hl 7 rfl) ?_
      obtain ⟨hk5, hf⟩ := zc_s hf
      obtain ⟨r6, σ7, hcr6, hf⟩ := zq_s hf
      refine xV (As := [.int (v5 + (1 : Int32)), .int v7]) (rest := []) (st1 := []) E hR hS hl (C_X7_hide hcr6) hk5 ok7 lb_X7_hide lv_X7_hide ml_X5_109 ⟨Nat.le_of_ble_eq_true rfl, Nat.le_of_ble_eq_true rfl⟩ rfl rfl rfl (Nat.le_of_ble_eq_true rfl) dX5_takeIn_166 ⟨hc, hs⟩ (fun H locs hR hS => ?_)
      refine lv_aload_n hx hb dX5_takeIn_169 rfl (lv_at hl 1 rfl) ?_
      obtain ⟨hk8, hf⟩ := zc_s hf
      obtain ⟨b9, hb9, hf⟩ := zr_s hf
      refine x_getR E hR hk8 hb9 ok5 (Nat.le_of_ble_eq_true rfl) rfl fl_X5_39 dX5_takeIn_170 ?_
      obtain ⟨hk10, hf⟩ := zc_s hf
      obtain ⟨r11, σ12, hcr11, hf⟩ := zq_s hf
      refine xV (As := []) (rest := []) (st1 := [.int r11]) E hR hS hl (C_X3_pop hcr11) hk10 ok3 lb_X3_pop lv_X3_pop ml_X5_112 ⟨Nat.le_of_ble_eq_true rfl, Nat.le_of_ble_eq_true rfl⟩ rfl rfl rfl (Nat.le_of_ble_eq_true rfl) dX5_takeIn_173 ⟨hc, hs⟩ (fun H locs hR hS => ?_)
      refine lv_if_ne (tgt := 199) hx hb dX5_takeIn_176 (by decide) (fun hq13 => ?_) (fun hq13 => ?_)
      · have hf := ite_n hq13 hf
        refine lv_aload_n hx hb dX5_takeIn_199 rfl (lv_at hl 1 rfl) ?_
        obtain ⟨hk14, hf⟩ := zc_s hf
        obtain ⟨b15, hb15, hf⟩ := zr_s hf
        refine x_getR E hR hk14 hb15 ok5 (Nat.le_of_ble_eq_true rfl) rfl fl_X5_39 dX5_takeIn_200 ?_
        obtain ⟨hk16, hf⟩ := zc_s hf
        obtain ⟨r17, σ18, hcr17, hf⟩ := zq_s hf
        refine xV (As := []) (rest := []) (st1 := [.int r17]) E hR hS hl (C_X3_key hcr17) hk16 ok3 lb_X3_key lv_X3_key ml_X5_116 ⟨Nat.le_of_ble_eq_true rfl, Nat.le_of_ble_eq_true rfl⟩ rfl rfl rfl (Nat.le_of_ble_eq_true rfl) dX5_takeIn_203 ⟨hc, hs⟩ (fun H locs hR hS => ?_)
        refine lv_istore_n (lv' := [(3, .int r17), (8, .int w0), (0, .ref (gB g + v0)), (1, .int v1), (2, .int v2), (4, .int v4), (5, .int v5), (6, .int v6), (7, .int v7)]) hx hb dX5_takeIn_206 rfl hl (Nat.le_of_ble_eq_true rfl) rfl (fun ls hl => ?_)
        refine lv_iload_n hx hb dX5_takeIn_207 rfl (lv_at hl 0 rfl) ?_
        refine lv_iconst (v := (1 : Int32)) hx hb dX5_takeIn_208 rfl ?_
        refine lv_iadd hx hb dX5_takeIn_209 ?_
        refine lv_istore (lv' := [(4, .int (r17 + (1 : Int32))), (3, .int r17), (8, .int w0), (0, .ref (gB g + v0)), (1, .int v1), (2, .int v2), (5, .int v5), (6, .int v6), (7, .int v7)]) hx hb dX5_takeIn_210 hl (Nat.le_of_ble_eq_true rfl) rfl (fun ls hl => ?_)
        refine lv_aload_n hx hb dX5_takeIn_212 rfl (lv_at hl 3 rfl) ?_
        obtain ⟨hk19, hf⟩ := zc_s hf
        obtain ⟨b20, hb20, hf⟩ := zr_s hf
        refine x_getR E hR hk19 hb20 ok5 (Nat.le_of_ble_eq_true rfl) rfl fl_X5_39 dX5_takeIn_213 ?_
        obtain ⟨hk21, hf⟩ := zc_s hf
        obtain ⟨r22, σ23, hcr22, hf⟩ := zq_s hf
        refine xV (As := []) (rest := []) (st1 := [.int r22]) E hR hS hl (C_X3_hi hcr22) hk21 ok3 lb_X3_hi lv_X3_hi ml_X5_119 ⟨Nat.le_of_ble_eq_true rfl, Nat.le_of_ble_eq_true rfl⟩ rfl rfl rfl (Nat.le_of_ble_eq_true rfl) dX5_takeIn_216 ⟨hc, hs⟩ (fun H locs hR hS => ?_)
        refine lv_istore (lv' := [(5, .int r22), (4, .int (r17 + (1 : Int32))), (3, .int r17), (8, .int w0), (0, .ref (gB g + v0)), (1, .int v1), (2, .int v2), (6, .int v6), (7, .int v7)]) hx hb dX5_takeIn_219 hl (Nat.le_of_ble_eq_true rfl) rfl (fun ls hl => ?_)
        exact V_X5_takeIn_221 _ hk_34 _ _ _ _ _ _ _ _ _ _ hf p e s m args below meth c _ _ _ _ _ E hR hS (lv_sub hl [4, 5, 6, 2, 1, 0, 7] rfl) hc hs
      · have hf := ite_p hq13 hf
        refine lv_iload hx hb dX5_takeIn_179 (lv_at hl 6 rfl) ?_
        refine lv_iconst (v := (1 : Int32)) hx hb dX5_takeIn_181 rfl ?_
        refine lv_iadd hx hb dX5_takeIn_182 ?_
        refine lv_aload_n hx hb dX5_takeIn_183 rfl (lv_at hl 1 rfl) ?_
        obtain ⟨hk24, hf⟩ := zc_s hf
        obtain ⟨b25, hb25, hf⟩ := zr_s hf
        refine x_getR E hR hk24 hb25 ok5 (Nat.le_of_ble_eq_true rfl) rfl fl_X5_12 dX5_takeIn_184 ?_
        obtain ⟨hk26, hf⟩ := zc_s hf
        obtain ⟨r27, σ28, hcr27, hf⟩ := zq_s hf
        refine xV (As := []) (rest := [.int (v6 + (1 : Int32))]) (st1 := [.int r27, .int (v6 + (1 : Int32))]) E hR hS hl (C_X1_count hcr27) hk26 ok1 lb_X1_count lv_X1_count ml_X5_82 ⟨Nat.le_of_ble_eq_true rfl, Nat.le_of_ble_eq_true rfl⟩ rfl rfl rfl (Nat.le_of_ble_eq_true rfl) dX5_takeIn_187 ⟨hc, hs⟩ (fun H locs hR hS => ?_)
        refine lv_icmp_ge (tgt := 197) hx hb dX5_takeIn_190 (by decide) (fun hq29 => ?_) (fun hq29 => ?_)
        · have hf := ite_p hq29 hf
          refine lv_iconst (v := (0 : Int32)) hx hb dX5_takeIn_197 rfl ?_
          obtain ⟨hr1, hs1⟩ := Prod.mk.inj (Option.some.inj hf)
          exact xr_i E hR hS rfl (by rw [hr1]) hs1.symm hc hs dX5_takeIn_198
        · have hf := ite_n hq29 hf
          refine lv_iconst (v := (2 : Int32)) hx hb dX5_takeIn_193 rfl ?_
          refine lv_goto (tgt := 198) hx hb dX5_takeIn_194 (by decide) ?_
          obtain ⟨hr1, hs1⟩ := Prod.mk.inj (Option.some.inj hf)
          exact xr_i E hR hS rfl (by rw [hr1]) hs1.symm hc hs dX5_takeIn_198
    · have hf := ite_n hq2 hf
      refine lv_iload hx hb dX5_takeIn_119 (lv_at hl 7 rfl) ?_
      obtain ⟨r30, σ31, hcr30, hf⟩ := zq_s hf
      refine xSN (As := [.int v7]) (rest := []) (st1 := [.int r30]) E hR hS hl (C_X8_keyOfItem hcr30) lb_X8_keyOfItem ls_X8_keyOfItem nl_X5_88 ⟨Nat.le_of_ble_eq_true rfl, Nat.le_of_ble_eq_true rfl⟩ rfl rfl rfl (Nat.le_of_ble_eq_true rfl) dX5_takeIn_121 ⟨hc, hs⟩ (fun H locs hR hS => ?_)
      refine lv_istore_n (lv' := [(3, .int r30), (8, .int w0), (0, .ref (gB g + v0)), (1, .int v1), (2, .int v2), (4, .int v4), (5, .int v5), (6, .int v6), (7, .int v7)]) hx hb dX5_takeIn_124 rfl hl (Nat.le_of_ble_eq_true rfl) rfl (fun ls hl => ?_)
      refine lv_aload_n hx hb dX5_takeIn_125 rfl (lv_at hl 2 rfl) ?_
      obtain ⟨hk32, hf⟩ := zc_s hf
      obtain ⟨b33, hb33, hf⟩ := zr_s hf
      refine x_getR E hR hk32 hb33 ok5 (Nat.le_of_ble_eq_true rfl) rfl fl_X5_25 dX5_takeIn_126 ?_
      refine lv_iload_n hx hb dX5_takeIn_129 rfl (lv_at hl 0 rfl) ?_
      refine lv_iload hx hb dX5_takeIn_130 (lv_at hl 8 rfl) ?_
      obtain ⟨r34, σ35, hcr34, hf⟩ := zq_s hf
      refine xSN (As := [.int v7]) (rest := [.int r30, .ref (gB g + b33)]) (st1 := [.int r34, .int r30, .ref (gB g + b33)]) E hR hS hl (C_X8_valueOfItem hcr34) lb_X8_valueOfItem ls_X8_valueOfItem nl_X5_99 ⟨Nat.le_of_ble_eq_true rfl, Nat.le_of_ble_eq_true rfl⟩ rfl rfl rfl (Nat.le_of_ble_eq_true rfl) dX5_takeIn_132 ⟨hc, hs⟩ (fun H locs hR hS => ?_)
      obtain ⟨hk36, hf⟩ := zc_s hf
      obtain ⟨r37, σ38, hcr37, hf⟩ := zq_s hf
      refine xV (As := [.int r30, .int r34]) (rest := []) (st1 := []) E hR hS hl (C_X2_give hcr37) hk36 ok2 lb_X2_give lv_X2_give ml_X5_102 ⟨Nat.le_of_ble_eq_true rfl, Nat.le_of_ble_eq_true rfl⟩ rfl rfl rfl (Nat.le_of_ble_eq_true rfl) dX5_takeIn_135 ⟨hc, hs⟩ (fun H locs hR hS => ?_)
      refine lv_aload_n hx hb dX5_takeIn_138 rfl (lv_at hl 2 rfl) ?_
      obtain ⟨hk39, hf⟩ := zc_s hf
      obtain ⟨b40, hb40, hf⟩ := zr_s hf
      refine x_getR E hR hk39 hb40 ok5 (Nat.le_of_ble_eq_true rfl) rfl fl_X5_39 dX5_takeIn_139 ?_
      refine lv_iload_n hx hb dX5_takeIn_142 rfl (lv_at hl 0 rfl) ?_
      refine lv_iload hx hb dX5_takeIn_143 (lv_at hl 6 rfl) ?_
      obtain ⟨hk41, hf⟩ := zc_s hf
      obtain ⟨r42, σ43, hcr42, hf⟩ := zq_s hf
      refine xV (As := [.int r30, .int v5]) (rest := []) (st1 := []) E hR hS hl (C_X3_push hcr42) hk41 ok3 lb_X3_push lv_X3_push ml_X5_106 ⟨Nat.le_of_ble_eq_true rfl, Nat.le_of_ble_eq_true rfl⟩ rfl rfl rfl (Nat.le_of_ble_eq_true rfl) dX5_takeIn_145 ⟨hc, hs⟩ (fun H locs hR hS => ?_)
      refine lv_iload_n hx hb dX5_takeIn_148 rfl (lv_at hl 0 rfl) ?_
      refine lv_iconst (v := (1 : Int32)) hx hb dX5_takeIn_149 rfl ?_
      refine lv_isub hx hb dX5_takeIn_150 ?_
      refine lv_istore (lv' := [(5, .int (r30 - (1 : Int32))), (3, .int r30), (8, .int w0), (0, .ref (gB g + v0)), (1, .int v1), (2, .int v2), (4, .int v4), (6, .int v6), (7, .int v7)]) hx hb dX5_takeIn_151 hl (Nat.le_of_ble_eq_true rfl) rfl (fun ls hl => ?_)
      refine lv_goto (tgt := 221) hx hb dX5_takeIn_153 (by decide) ?_
      exact V_X5_takeIn_221 _ hk_34 _ _ _ _ _ _ _ _ _ _ hf p e s m args below meth c _ _ _ _ _ E hR hS (lv_sub hl [3, 4, 5, 1, 6, 0, 7] rfl) hc hs
  · have hf := ite_n hq1 hf
    refine lv_iload hx hb dX5_takeIn_111 (lv_at hl 0 rfl) ?_
    obtain ⟨hr1, hs1⟩ := Prod.mk.inj (Option.some.inj hf)
    exact xr_i E hR hS rfl (by rw [hr1]) hs1.symm hc hs dX5_takeIn_113
set_option maxRecDepth 100000 in
def f_X5_takeIn_101 (k_34 : Nat → Int32 → Int32 → Int32 → Int32 → Int32 → Int32 → Mm → Option (Int32 × Mm)) (v0 : Nat) (v1 : Int32) (v2 : Int32) (v4 : Int32) (v5 : Int32) (v6 : Int32) (v7 : Int32) (w0 : Int32) (w1 : Int32) (w2 : Int32) (w3 : Int32) (σ : Mm) : Option (Int32 × Mm) :=
  zcb (f_X5_reasonOfLeaf w0 w1 w2 w3 σ) (fun r44 σ45 => f_X5_takeIn_104 k_34 v0 v1 v2 v4 v5 v6 v7 r44 σ45)
set_option maxRecDepth 100000 in
set_option maxHeartbeats 4000000 in
theorem V_X5_takeIn_101 {g : GG} (k_34 : Nat → Int32 → Int32 → Int32 → Int32 → Int32 → Int32 → Mm → Option (Int32 × Mm)) (hk_34 : ∀ (v0 : Nat) (v1 : Int32) (v2 : Int32) (v3 : Int32) (v4 : Int32) (v5 : Int32) (v6 : Int32) (σ : Mm) (r : Int32) (σ' : Mm), k_34 v0 v1 v2 v3 v4 v5 v6 σ = some (r, σ') → VJ g RX5 cX5_takeIn 9 (some .int) false rm_X5_takeIn (some (.int r)) σ' (0) (0) 34 [(0, .ref (gB g + v0)), (1, .int v1), (2, .int v2), (3, .int v3), (4, .int v4), (5, .int v5), (6, .int v6)] [] σ) (v0 : Nat) (v1 : Int32) (v2 : Int32) (v4 : Int32) (v5 : Int32) (v6 : Int32) (v7 : Int32) (w0 : Int32) (w1 : Int32) (w2 : Int32) (w3 : Int32) (σ : Mm) (r : Int32) (σ' : Mm) (hf : f_X5_takeIn_101 k_34 v0 v1 v2 v4 v5 v6 v7 w0 w1 w2 w3 σ = some (r, σ')) : VJ g RX5 cX5_takeIn 9 (some .int) false rm_X5_takeIn (some (.int r)) σ' (0) (0) 101 [(0, .ref (gB g + v0)), (1, .int v1), (2, .int v2), (4, .int v4), (5, .int v5), (6, .int v6), (7, .int v7)] [.int w3, .int w2, .int w1, .int w0] σ := by
  intro p e s m args below meth c H locs cells slots ls E hR hS hl hc hs
  obtain ⟨hx, hb, hml, hr, hlocks, hown, hts, hin, hT⟩ := id E
  unfold f_X5_takeIn_101 at hf
  obtain ⟨r44, σ45, hcr44, hf⟩ := zq_s hf
  refine xS (As := [.int w0, .int w1, .int w2, .int w3]) (rest := []) (st1 := [.int r44]) E hR hS hl (C_X5_reasonOfLeaf hcr44) lb_X5_reasonOfLeaf ls_X5_reasonOfLeaf ml_X5_95 ⟨Nat.le_of_ble_eq_true rfl, Nat.le_of_ble_eq_true rfl⟩ rfl rfl rfl (Nat.le_of_ble_eq_true rfl) dX5_takeIn_101 ⟨hc, hs⟩ (fun H locs hR hS => ?_)
  exact V_X5_takeIn_104 _ hk_34 _ _ _ _ _ _ _ _ _ _ _ hf p e s m args below meth c _ _ _ _ _ E hR hS (lv_sub hl [0, 1, 2, 3, 4, 5, 6] rfl) hc hs
set_option maxRecDepth 100000 in
def f_X5_takeIn_100 (k_34 : Nat → Int32 → Int32 → Int32 → Int32 → Int32 → Int32 → Mm → Option (Int32 × Mm)) (v0 : Nat) (v1 : Int32) (v2 : Int32) (v4 : Int32) (v5 : Int32) (v6 : Int32) (v7 : Int32) (w0 : Int32) (w1 : Int32) (w2 : Int32) (σ : Mm) : Option (Int32 × Mm) :=
  f_X5_takeIn_101 k_34 v0 v1 v2 v4 v5 v6 v7 w0 w1 w2 (0 : Int32) σ
set_option maxRecDepth 100000 in
set_option maxHeartbeats 4000000 in
theorem V_X5_takeIn_100 {g : GG} (k_34 : Nat → Int32 → Int32 → Int32 → Int32 → Int32 → Int32 → Mm → Option (Int32 × Mm)) (hk_34 : ∀ (v0 : Nat) (v1 : Int32) (v2 : Int32) (v3 : Int32) (v4 : Int32) (v5 : Int32) (v6 : Int32) (σ : Mm) (r : Int32) (σ' : Mm), k_34 v0 v1 v2 v3 v4 v5 v6 σ = some (r, σ') → VJ g RX5 cX5_takeIn 9 (some .int) false rm_X5_takeIn (some (.int r)) σ' (0) (0) 34 [(0, .ref (gB g + v0)), (1, .int v1), (2, .int v2), (3, .int v3), (4, .int v4), (5, .int v5), (6, .int v6)] [] σ) (v0 : Nat) (v1 : Int32) (v2 : Int32) (v4 : Int32) (v5 : Int32) (v6 : Int32) (v7 : Int32) (w0 : Int32) (w1 : Int32) (w2 : Int32) (σ : Mm) (r : Int32) (σ' : Mm) (hf : f_X5_takeIn_100 k_34 v0 v1 v2 v4 v5 v6 v7 w0 w1 w2 σ = some (r, σ')) : VJ g RX5 cX5_takeIn 9 (some .int) false rm_X5_takeIn (some (.int r)) σ' (0) (0) 100 [(0, .ref (gB g + v0)), (1, .int v1), (2, .int v2), (4, .int v4), (5, .int v5), (6, .int v6), (7, .int v7)] [.int w2, .int w1, .int w0] σ := by
  intro p e s m args below meth c H locs cells slots ls E hR hS hl hc hs
  obtain ⟨hx, hb, hml, hr, hlocks, hown, hts, hin, hT⟩ := id E
  unfold f_X5_takeIn_100 at hf
  refine lv_iconst (v := (0 : Int32)) hx hb dX5_takeIn_100 rfl ?_
  exact V_X5_takeIn_101 _ hk_34 _ _ _ _ _ _ _ _ _ _ _ _ _ _ hf p e s m args below meth c _ _ _ _ _ E hR hS (lv_sub hl [0, 1, 2, 3, 4, 5, 6] rfl) hc hs
set_option maxRecDepth 100000 in
def f_X5_takeIn_34 : Nat → Nat → Int32 → Int32 → Int32 → Int32 → Int32 → Int32 → Mm → Option (Int32 × Mm)
  | 0, _, _, _, _, _, _, _, _ => none
  | n + 1, v0, v1, v2, v3, v4, v5, v6, σ =>
    zck (kO σ v0 5) (zrb (mR σ v0 0) (fun b47 => zck (kO σ b47 1) (zcb (f_X1_count b47 σ) (fun r49 σ50 => if r49 ≤ v6 then (some ((1 : Int32), σ50)) else (zck (kO σ50 v0 5) (zrb (mR σ50 v0 0) (fun b53 => zck (kO σ50 b53 1) (zcb (f_X1_itemAt b53 v6 σ50) (fun r55 σ56 => if 0 ≤ r55 then (if v2 < v4 then (f_X5_takeIn_100 (f_X5_takeIn_34 n) v0 v1 v2 v4 v5 v6 r55 r55 v4 v5 σ56) else (if v5 < v1 then (f_X5_takeIn_100 (f_X5_takeIn_34 n) v0 v1 v2 v4 v5 v6 r55 r55 v4 v5 σ56) else (f_X5_takeIn_101 (f_X5_takeIn_34 n) v0 v1 v2 v4 v5 v6 r55 r55 v4 v5 (1 : Int32) σ56))) else (zcb (f_X8_keyOfItem r55 σ56) (fun r60 σ61 => zcb (f_X5_reasonOfNode r60 v3 v4 v5 σ61) (fun r62 σ63 => f_X5_takeIn_104 (f_X5_takeIn_34 n) v0 v1 v2 v4 v5 v6 r55 r62 σ63))))))))))))
set_option maxRecDepth 100000 in
set_option maxHeartbeats 4000000 in
theorem V_X5_takeIn_34 {g : GG} : ∀ (n : Nat) (v0 : Nat) (v1 : Int32) (v2 : Int32) (v3 : Int32) (v4 : Int32) (v5 : Int32) (v6 : Int32) (σ : Mm) (r : Int32) (σ' : Mm), f_X5_takeIn_34 n v0 v1 v2 v3 v4 v5 v6 σ = some (r, σ') → VJ g RX5 cX5_takeIn 9 (some .int) false rm_X5_takeIn (some (.int r)) σ' (0) (0) 34 [(0, .ref (gB g + v0)), (1, .int v1), (2, .int v2), (3, .int v3), (4, .int v4), (5, .int v5), (6, .int v6)] [] σ := by
  intro n
  induction n with
  | zero =>
    intro v0 v1 v2 v3 v4 v5 v6 σ r σ' hf
    unfold f_X5_takeIn_34 at hf
    cases hf
  | succ n ih =>
    intro v0 v1 v2 v3 v4 v5 v6 σ r σ' hf p e s m args below meth c H locs cells slots ls E hR hS hl hc hs
    obtain ⟨hx, hb, hml, hr, hlocks, hown, hts, hin, hT⟩ := id E
    unfold f_X5_takeIn_34 at hf
    refine lv_iload hx hb dX5_takeIn_34 (lv_at hl 6 rfl) ?_
    refine lv_aload_n hx hb dX5_takeIn_36 rfl (lv_at hl 0 rfl) ?_
    obtain ⟨hk46, hf⟩ := zc_s hf
    obtain ⟨b47, hb47, hf⟩ := zr_s hf
    refine x_getR E hR hk46 hb47 ok5 (Nat.le_of_ble_eq_true rfl) rfl fl_X5_12 dX5_takeIn_37 ?_
    obtain ⟨hk48, hf⟩ := zc_s hf
    obtain ⟨r49, σ50, hcr49, hf⟩ := zq_s hf
    refine xV (As := []) (rest := [.int v6]) (st1 := [.int r49, .int v6]) E hR hS hl (C_X1_count hcr49) hk48 ok1 lb_X1_count lv_X1_count ml_X5_82 ⟨Nat.le_of_ble_eq_true rfl, Nat.le_of_ble_eq_true rfl⟩ rfl rfl rfl (Nat.le_of_ble_eq_true rfl) dX5_takeIn_40 ⟨hc, hs⟩ (fun H locs hR hS => ?_)
    refine lv_icmp_ge (tgt := 227) hx hb dX5_takeIn_43 (by decide) (fun hq51 => ?_) (fun hq51 => ?_)
    · have hf := ite_p hq51 hf
      refine lv_iconst (v := (1 : Int32)) hx hb dX5_takeIn_227 rfl ?_
      obtain ⟨hr1, hs1⟩ := Prod.mk.inj (Option.some.inj hf)
      exact xr_i E hR hS rfl (by rw [hr1]) hs1.symm hc hs dX5_takeIn_228
    · have hf := ite_n hq51 hf
      refine lv_aload_n hx hb dX5_takeIn_46 rfl (lv_at hl 0 rfl) ?_
      obtain ⟨hk52, hf⟩ := zc_s hf
      obtain ⟨b53, hb53, hf⟩ := zr_s hf
      refine x_getR E hR hk52 hb53 ok5 (Nat.le_of_ble_eq_true rfl) rfl fl_X5_12 dX5_takeIn_47 ?_
      refine lv_iload hx hb dX5_takeIn_50 (lv_at hl 6 rfl) ?_
      obtain ⟨hk54, hf⟩ := zc_s hf
      obtain ⟨r55, σ56, hcr55, hf⟩ := zq_s hf
      refine xV (As := [.int v6]) (rest := []) (st1 := [.int r55]) E hR hS hl (C_X1_itemAt hcr55) hk54 ok1 lb_X1_itemAt lv_X1_itemAt ml_X5_85 ⟨Nat.le_of_ble_eq_true rfl, Nat.le_of_ble_eq_true rfl⟩ rfl rfl rfl (Nat.le_of_ble_eq_true rfl) dX5_takeIn_52 ⟨hc, hs⟩ (fun H locs hR hS => ?_)
      refine lv_istore (lv' := [(7, .int r55), (0, .ref (gB g + v0)), (1, .int v1), (2, .int v2), (3, .int v3), (4, .int v4), (5, .int v5), (6, .int v6)]) hx hb dX5_takeIn_55 hl (Nat.le_of_ble_eq_true rfl) rfl (fun ls hl => ?_)
      refine lv_iload hx hb dX5_takeIn_57 (lv_at hl 0 rfl) ?_
      refine lv_if_ge (tgt := 78) hx hb dX5_takeIn_59 (by decide) (fun hq57 => ?_) (fun hq57 => ?_)
      · have hf := ite_p hq57 hf
        refine lv_iload hx hb dX5_takeIn_78 (lv_at hl 0 rfl) ?_
        refine lv_iload hx hb dX5_takeIn_80 (lv_at hl 5 rfl) ?_
        refine lv_iload hx hb dX5_takeIn_82 (lv_at hl 6 rfl) ?_
        refine lv_iload hx hb dX5_takeIn_84 (lv_at hl 5 rfl) ?_
        refine lv_iload_n hx hb dX5_takeIn_86 rfl (lv_at hl 3 rfl) ?_
        refine lv_icmp_gt (tgt := 100) hx hb dX5_takeIn_87 (by decide) (fun hq58 => ?_) (fun hq58 => ?_)
        · have hf := ite_p hq58 hf
          exact V_X5_takeIn_100 _ ih _ _ _ _ _ _ _ _ _ _ _ _ _ hf p e s m args below meth c _ _ _ _ _ E hR hS (lv_sub hl [1, 2, 3, 5, 6, 7, 0] rfl) hc hs
        · have hf := ite_n hq58 hf
          refine lv_iload_n hx hb dX5_takeIn_90 rfl (lv_at hl 2 rfl) ?_
          refine lv_iload hx hb dX5_takeIn_91 (lv_at hl 6 rfl) ?_
          refine lv_icmp_gt (tgt := 100) hx hb dX5_takeIn_93 (by decide) (fun hq59 => ?_) (fun hq59 => ?_)
          · have hf := ite_p hq59 hf
            exact V_X5_takeIn_100 _ ih _ _ _ _ _ _ _ _ _ _ _ _ _ hf p e s m args below meth c _ _ _ _ _ E hR hS (lv_sub hl [1, 2, 3, 5, 6, 7, 0] rfl) hc hs
          · have hf := ite_n hq59 hf
            refine lv_iconst (v := (1 : Int32)) hx hb dX5_takeIn_96 rfl ?_
            refine lv_goto (tgt := 101) hx hb dX5_takeIn_97 (by decide) ?_
            exact V_X5_takeIn_101 _ ih _ _ _ _ _ _ _ _ _ _ _ _ _ _ hf p e s m args below meth c _ _ _ _ _ E hR hS (lv_sub hl [1, 2, 3, 5, 6, 7, 0] rfl) hc hs
      · have hf := ite_n hq57 hf
        refine lv_iload hx hb dX5_takeIn_62 (lv_at hl 0 rfl) ?_
        obtain ⟨r60, σ61, hcr60, hf⟩ := zq_s hf
        refine xSN (As := [.int r55]) (rest := []) (st1 := [.int r60]) E hR hS hl (C_X8_keyOfItem hcr60) lb_X8_keyOfItem ls_X8_keyOfItem nl_X5_88 ⟨Nat.le_of_ble_eq_true rfl, Nat.le_of_ble_eq_true rfl⟩ rfl rfl rfl (Nat.le_of_ble_eq_true rfl) dX5_takeIn_64 ⟨hc, hs⟩ (fun H locs hR hS => ?_)
        refine lv_iload_n hx hb dX5_takeIn_67 rfl (lv_at hl 4 rfl) ?_
        refine lv_iload hx hb dX5_takeIn_68 (lv_at hl 5 rfl) ?_
        refine lv_iload hx hb dX5_takeIn_70 (lv_at hl 6 rfl) ?_
        obtain ⟨r62, σ63, hcr62, hf⟩ := zq_s hf
        refine xS (As := [.int r60, .int v3, .int v4, .int v5]) (rest := []) (st1 := [.int r62]) E hR hS hl (C_X5_reasonOfNode hcr62) lb_X5_reasonOfNode ls_X5_reasonOfNode ml_X5_91 ⟨Nat.le_of_ble_eq_true rfl, Nat.le_of_ble_eq_true rfl⟩ rfl rfl rfl (Nat.le_of_ble_eq_true rfl) dX5_takeIn_72 ⟨hc, hs⟩ (fun H locs hR hS => ?_)
        refine lv_goto (tgt := 104) hx hb dX5_takeIn_75 (by decide) ?_
        exact V_X5_takeIn_104 _ ih _ _ _ _ _ _ _ _ _ _ _ hf p e s m args below meth c _ _ _ _ _ E hR hS (lv_sub hl [1, 2, 3, 5, 6, 7, 0] rfl) hc hs
set_option maxRecDepth 100000 in
def f_X5_takeIn (v0 : Nat) (v1 : Int32) (v2 : Int32) (σ : Mm) : Option (Int32 × Mm) :=
  zck (kO σ v0 5) (zrb (mR σ v0 4) (fun b65 => zck (kO σ b65 2) (zcb (f_X2_clear b65 σ) (fun r67 σ68 => zck (kO σ68 v0 5) (zrb (mR σ68 v0 5) (fun b70 => zck (kO σ68 b70 7) (zcb (f_X7_hideNothing b70 σ68) (fun r72 σ73 => zck (kO σ73 v0 5) (zrb (mR σ73 v0 6) (fun b75 => zck (kO σ73 b75 3) (zcb (f_X3_clear b75 σ73) (fun r77 σ78 => f_X5_takeIn_34 1000 v0 v1 v2 (-9 : Int32) (0 : Int32) (99 : Int32) (0 : Int32) σ78))))))))))))
set_option maxRecDepth 100000 in
set_option maxHeartbeats 4000000 in
theorem V_X5_takeIn_0 {g : GG} (v0 : Nat) (v1 : Int32) (v2 : Int32) (σ : Mm) (r : Int32) (σ' : Mm) (hf : f_X5_takeIn v0 v1 v2 σ = some (r, σ')) : VJ g RX5 cX5_takeIn 9 (some .int) false rm_X5_takeIn (some (.int r)) σ' (0) (0) 0 [(0, .ref (gB g + v0)), (1, .int v1), (2, .int v2)] [] σ := by
  intro p e s m args below meth c H locs cells slots ls E hR hS hl hc hs
  obtain ⟨hx, hb, hml, hr, hlocks, hown, hts, hin, hT⟩ := id E
  unfold f_X5_takeIn at hf
  refine lv_aload_n hx hb dX5_takeIn_0 rfl (lv_at hl 0 rfl) ?_
  obtain ⟨hk64, hf⟩ := zc_s hf
  obtain ⟨b65, hb65, hf⟩ := zr_s hf
  refine x_getR E hR hk64 hb65 ok5 (Nat.le_of_ble_eq_true rfl) rfl fl_X5_25 dX5_takeIn_1 ?_
  obtain ⟨hk66, hf⟩ := zc_s hf
  obtain ⟨r67, σ68, hcr67, hf⟩ := zq_s hf
  refine xV (As := []) (rest := []) (st1 := []) E hR hS hl (C_X2_clear hcr67) hk66 ok2 lb_X2_clear lv_X2_clear ml_X5_75 ⟨Nat.le_of_ble_eq_true rfl, Nat.le_of_ble_eq_true rfl⟩ rfl rfl rfl (Nat.le_of_ble_eq_true rfl) dX5_takeIn_4 ⟨hc, hs⟩ (fun H locs hR hS => ?_)
  refine lv_aload_n hx hb dX5_takeIn_7 rfl (lv_at hl 0 rfl) ?_
  obtain ⟨hk69, hf⟩ := zc_s hf
  obtain ⟨b70, hb70, hf⟩ := zr_s hf
  refine x_getR E hR hk69 hb70 ok5 (Nat.le_of_ble_eq_true rfl) rfl fl_X5_32 dX5_takeIn_8 ?_
  obtain ⟨hk71, hf⟩ := zc_s hf
  obtain ⟨r72, σ73, hcr72, hf⟩ := zq_s hf
  refine xV (As := []) (rest := []) (st1 := []) E hR hS hl (C_X7_hideNothing hcr72) hk71 ok7 lb_X7_hideNothing lv_X7_hideNothing ml_X5_78 ⟨Nat.le_of_ble_eq_true rfl, Nat.le_of_ble_eq_true rfl⟩ rfl rfl rfl (Nat.le_of_ble_eq_true rfl) dX5_takeIn_11 ⟨hc, hs⟩ (fun H locs hR hS => ?_)
  refine lv_aload_n hx hb dX5_takeIn_14 rfl (lv_at hl 0 rfl) ?_
  obtain ⟨hk74, hf⟩ := zc_s hf
  obtain ⟨b75, hb75, hf⟩ := zr_s hf
  refine x_getR E hR hk74 hb75 ok5 (Nat.le_of_ble_eq_true rfl) rfl fl_X5_39 dX5_takeIn_15 ?_
  obtain ⟨hk76, hf⟩ := zc_s hf
  obtain ⟨r77, σ78, hcr77, hf⟩ := zq_s hf
  refine xV (As := []) (rest := []) (st1 := []) E hR hS hl (C_X3_clear hcr77) hk76 ok3 lb_X3_clear lv_X3_clear ml_X5_81 ⟨Nat.le_of_ble_eq_true rfl, Nat.le_of_ble_eq_true rfl⟩ rfl rfl rfl (Nat.le_of_ble_eq_true rfl) dX5_takeIn_18 ⟨hc, hs⟩ (fun H locs hR hS => ?_)
  refine lv_bipush (v := (-9 : Int32)) hx hb dX5_takeIn_21 rfl ?_
  refine lv_istore_n (lv' := [(3, .int (-9 : Int32)), (0, .ref (gB g + v0)), (1, .int v1), (2, .int v2)]) hx hb dX5_takeIn_23 rfl hl (Nat.le_of_ble_eq_true rfl) rfl (fun ls hl => ?_)
  refine lv_iconst (v := (0 : Int32)) hx hb dX5_takeIn_24 rfl ?_
  refine lv_istore (lv' := [(4, .int (0 : Int32)), (3, .int (-9 : Int32)), (0, .ref (gB g + v0)), (1, .int v1), (2, .int v2)]) hx hb dX5_takeIn_25 hl (Nat.le_of_ble_eq_true rfl) rfl (fun ls hl => ?_)
  refine lv_bipush (v := (99 : Int32)) hx hb dX5_takeIn_27 rfl ?_
  refine lv_istore (lv' := [(5, .int (99 : Int32)), (4, .int (0 : Int32)), (3, .int (-9 : Int32)), (0, .ref (gB g + v0)), (1, .int v1), (2, .int v2)]) hx hb dX5_takeIn_29 hl (Nat.le_of_ble_eq_true rfl) rfl (fun ls hl => ?_)
  refine lv_iconst (v := (0 : Int32)) hx hb dX5_takeIn_31 rfl ?_
  refine lv_istore (lv' := [(6, .int (0 : Int32)), (5, .int (99 : Int32)), (4, .int (0 : Int32)), (3, .int (-9 : Int32)), (0, .ref (gB g + v0)), (1, .int v1), (2, .int v2)]) hx hb dX5_takeIn_32 hl (Nat.le_of_ble_eq_true rfl) rfl (fun ls hl => ?_)
  exact V_X5_takeIn_34  1000 _ _ _ _ _ _ _ _ _ _ hf p e s m args below meth c _ _ _ _ _ E hR hS (lv_sub hl [4, 5, 6, 3, 2, 1, 0] rfl) hc hs
theorem C_X5_takeIn {g : GG} {v0 : Nat} {v1 : Int32} {v2 : Int32} {σ : Mm} {r : Int32} {σ' : Mm} (hf : f_X5_takeIn v0 v1 v2 σ = some (r, σ')) : Ct g yX5_takeIn cX5_takeIn 9 (some .int) rm_X5_takeIn [.ref (gB g + v0), .int v1, .int v2] σ (some (.int r)) σ' :=
  Ct.of false (by decide +kernel) (fun h => by cases h) (Nat.le_of_ble_eq_true rfl) (V_X5_takeIn_0 _ _ _ _ _ _ hf)
abbrev rm_X7_digestOr : Room := { frames := 1, cells := 0, slots := 0, locals := 20 }
set_option maxRecDepth 100000 in
def f_X7_digestOr (v0 : Nat) (v1 : Int32) (v2 : Int32) (σ : Mm) : Option (Int32 × Mm) :=
  zcb (f_X8_isNumber v1 σ) (fun r1 σ2 => if r1 = 0 then (if v2 < 0 then (some ((0 : Int32), σ2)) else (if (100 : Int32) < v2 then (some ((0 : Int32), σ2)) else (zck (kO σ2 v0 7) (zrb (mR σ2 v0 3) (fun b7 => zck (kA σ2 1 b7 v2) (some ((mD σ2 b7 (ix v2)), σ2))))))) else (zck (kO σ2 v0 7) (zrb (mR σ2 v0 2) (fun b10 => zck (kA σ2 1 b10 v1) (some ((mD σ2 b10 (ix v1)), σ2))))))
set_option maxRecDepth 100000 in
set_option maxHeartbeats 4000000 in
theorem V_X7_digestOr_0 {g : GG} (v0 : Nat) (v1 : Int32) (v2 : Int32) (σ : Mm) (r : Int32) (σ' : Mm) (hf : f_X7_digestOr v0 v1 v2 σ = some (r, σ')) : VJ g RX7 cX7_digestOr 3 (some .int) false rm_X7_digestOr (some (.int r)) σ' (0) (0) 0 [(0, .ref (gB g + v0)), (1, .int v1), (2, .int v2)] [] σ := by
  intro p e s m args below meth c H locs cells slots ls E hR hS hl hc hs
  obtain ⟨hx, hb, hml, hr, hlocks, hown, hts, hin, hT⟩ := id E
  unfold f_X7_digestOr at hf
  refine lv_iload_n hx hb dX7_digestOr_0 rfl (lv_at hl 1 rfl) ?_
  obtain ⟨r1, σ2, hcr1, hf⟩ := zq_s hf
  refine xSN (As := [.int v1]) (rest := []) (st1 := [.int r1]) E hR hS hl (C_X8_isNumber hcr1) lb_X8_isNumber ls_X8_isNumber nl_X7_42 ⟨Nat.le_of_ble_eq_true rfl, Nat.le_of_ble_eq_true rfl⟩ rfl rfl rfl (Nat.le_of_ble_eq_true rfl) dX7_digestOr_1 ⟨hc, hs⟩ (fun H locs hR hS => ?_)
  refine lv_if_eq (tgt := 14) hx hb dX7_digestOr_4 (by decide) (fun hq3 => ?_) (fun hq3 => ?_)
  · have hf := ite_p hq3 hf
    refine lv_iload_n hx hb dX7_digestOr_14 rfl (lv_at hl 2 rfl) ?_
    refine lv_if_lt (tgt := 33) hx hb dX7_digestOr_15 (by decide) (fun hq4 => ?_) (fun hq4 => ?_)
    · have hf := ite_p hq4 hf
      refine lv_iconst (v := (0 : Int32)) hx hb dX7_digestOr_33 rfl ?_
      obtain ⟨hr1, hs1⟩ := Prod.mk.inj (Option.some.inj hf)
      exact xr_i E hR hS rfl (by rw [hr1]) hs1.symm hc hs dX7_digestOr_34
    · have hf := ite_n hq4 hf
      refine lv_iload_n hx hb dX7_digestOr_18 rfl (lv_at hl 2 rfl) ?_
      refine lv_bipush (v := (100 : Int32)) hx hb dX7_digestOr_19 rfl ?_
      refine lv_icmp_gt (tgt := 33) hx hb dX7_digestOr_21 (by decide) (fun hq5 => ?_) (fun hq5 => ?_)
      · have hf := ite_p hq5 hf
        refine lv_iconst (v := (0 : Int32)) hx hb dX7_digestOr_33 rfl ?_
        obtain ⟨hr1, hs1⟩ := Prod.mk.inj (Option.some.inj hf)
        exact xr_i E hR hS rfl (by rw [hr1]) hs1.symm hc hs dX7_digestOr_34
      · have hf := ite_n hq5 hf
        refine lv_aload_n hx hb dX7_digestOr_24 rfl (lv_at hl 0 rfl) ?_
        obtain ⟨hk6, hf⟩ := zc_s hf
        obtain ⟨b7, hb7, hf⟩ := zr_s hf
        refine x_getR E hR hk6 hb7 ok7 (Nat.le_of_ble_eq_true rfl) rfl fl_X7_21 dX7_digestOr_25 ?_
        refine lv_iload_n hx hb dX7_digestOr_28 rfl (lv_at hl 2 rfl) ?_
        obtain ⟨hk8, hf⟩ := zc_s hf
        refine x_ild E hR hk8 dX7_digestOr_29 ?_
        refine lv_goto (tgt := 34) hx hb dX7_digestOr_30 (by decide) ?_
        obtain ⟨hr1, hs1⟩ := Prod.mk.inj (Option.some.inj hf)
        exact xr_i E hR hS rfl (by rw [hr1]) hs1.symm hc hs dX7_digestOr_34
  · have hf := ite_n hq3 hf
    refine lv_aload_n hx hb dX7_digestOr_7 rfl (lv_at hl 0 rfl) ?_
    obtain ⟨hk9, hf⟩ := zc_s hf
    obtain ⟨b10, hb10, hf⟩ := zr_s hf
    refine x_getR E hR hk9 hb10 ok7 (Nat.le_of_ble_eq_true rfl) rfl fl_X7_18 dX7_digestOr_8 ?_
    refine lv_iload_n hx hb dX7_digestOr_11 rfl (lv_at hl 1 rfl) ?_
    obtain ⟨hk11, hf⟩ := zc_s hf
    refine x_ild E hR hk11 dX7_digestOr_12 ?_
    obtain ⟨hr1, hs1⟩ := Prod.mk.inj (Option.some.inj hf)
    exact xr_i E hR hS rfl (by rw [hr1]) hs1.symm hc hs dX7_digestOr_13
theorem C_X7_digestOr {g : GG} {v0 : Nat} {v1 : Int32} {v2 : Int32} {σ : Mm} {r : Int32} {σ' : Mm} (hf : f_X7_digestOr v0 v1 v2 σ = some (r, σ')) : Ct g yX7_digestOr cX7_digestOr 3 (some .int) rm_X7_digestOr [.ref (gB g + v0), .int v1, .int v2] σ (some (.int r)) σ' :=
  Ct.of false (by decide +kernel) (fun h => by cases h) (Nat.le_of_ble_eq_true rfl) (V_X7_digestOr_0 _ _ _ _ _ _ hf)
