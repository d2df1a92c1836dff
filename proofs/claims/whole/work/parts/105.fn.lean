abbrev rm_X8_isSlot : Room := { frames := 0, cells := 0, slots := 0, locals := 0 }
set_option maxRecDepth 100000 in
def f_X8_isSlot (v0 : Int32) (σ : Mm) : Option (Int32 × Mm) :=
  if v0 < 0 then (some ((0 : Int32), σ)) else (if (2 : Int32) ≤ v0 then (some ((0 : Int32), σ)) else (some ((1 : Int32), σ)))
set_option maxRecDepth 100000 in
set_option maxHeartbeats 4000000 in
theorem V_X8_isSlot_0 {g : GG} (v0 : Int32) (σ : Mm) (r : Int32) (σ' : Mm) (hf : f_X8_isSlot v0 σ = some (r, σ')) : VJ g RX8 cX8_isSlot 1 (some .boolean) false rm_X8_isSlot (some (.int r)) σ' (0) (0) 0 [(0, .int v0)] [] σ := by
  intro p e s m args below meth c H locs cells slots ls E hR hS hl hc hs
  obtain ⟨hx, hb, hml, hr, hlocks, hown, hts, hin, hT⟩ := id E
  unfold f_X8_isSlot at hf
  refine lv_iload_n hx hb dX8_isSlot_0 rfl (lv_at hl 0 rfl) ?_
  refine lv_if_lt (tgt := 13) hx hb dX8_isSlot_1 (by decide) (fun hq1 => ?_) (fun hq1 => ?_)
  · have hf := ite_p hq1 hf
    refine lv_iconst (v := (0 : Int32)) hx hb dX8_isSlot_13 rfl ?_
    obtain ⟨hr1, hs1⟩ := Prod.mk.inj (Option.some.inj hf)
    exact xr_z E hR hS rfl rfl (by rw [hr1]) hs1.symm hc hs dX8_isSlot_14
  · have hf := ite_n hq1 hf
    refine lv_iload_n hx hb dX8_isSlot_4 rfl (lv_at hl 0 rfl) ?_
    refine lv_iconst (v := (2 : Int32)) hx hb dX8_isSlot_5 rfl ?_
    refine lv_icmp_ge (tgt := 13) hx hb dX8_isSlot_6 (by decide) (fun hq2 => ?_) (fun hq2 => ?_)
    · have hf := ite_p hq2 hf
      refine lv_iconst (v := (0 : Int32)) hx hb dX8_isSlot_13 rfl ?_
      obtain ⟨hr1, hs1⟩ := Prod.mk.inj (Option.some.inj hf)
      exact xr_z E hR hS rfl rfl (by rw [hr1]) hs1.symm hc hs dX8_isSlot_14
    · have hf := ite_n hq2 hf
      refine lv_iconst (v := (1 : Int32)) hx hb dX8_isSlot_9 rfl ?_
      refine lv_goto (tgt := 14) hx hb dX8_isSlot_10 (by decide) ?_
      obtain ⟨hr1, hs1⟩ := Prod.mk.inj (Option.some.inj hf)
      exact xr_z E hR hS rfl rfl (by rw [hr1]) hs1.symm hc hs dX8_isSlot_14
theorem C_X8_isSlot {g : GG} {v0 : Int32} {σ : Mm} {r : Int32} {σ' : Mm} (hf : f_X8_isSlot v0 σ = some (r, σ')) : Ct g yX8_isSlot cX8_isSlot 1 (some .boolean) rm_X8_isSlot [.int v0] σ (some (.int r)) σ' :=
  Ct.of false (by decide +kernel) (fun h => by cases h) (Nat.le_of_ble_eq_true rfl) (V_X8_isSlot_0 _ _ _ _ hf)
abbrev rm_X8_keep : Room := { frames := 3, cells := 0, slots := 0, locals := 60 }
set_option maxRecDepth 100000 in
def f_X8_keep (v0 : Nat) (v1 : Int32) (σ : Mm) : Option (Int32 × Mm) :=
  zcb (f_X8_isSlot v1 σ) (fun r1 σ2 => if r1 = 0 then (some ((-1 : Int32), σ2)) else (zck (kO σ2 v0 8) (zrb (mR σ2 v0 4) (fun b5 => zck (kA σ2 4 b5 v1) (zrb (mR σ2 b5 (ix v1)) (fun b7 => zrb (mR σ2 v0 0) (fun b8 => zck (kO σ2 b7 6) (zcb (f_X6_fill b7 b8 σ2) (fun r10 σ11 => zck (kO σ11 v0 8) (zrb (mR σ11 v0 0) (fun b13 => zck (kO σ11 b13 2) (zcb (f_X2_count b13 σ11) (fun r15 σ16 => some (r15, σ16))))))))))))))
set_option maxRecDepth 100000 in
set_option maxHeartbeats 4000000 in
theorem V_X8_keep_0 {g : GG} (v0 : Nat) (v1 : Int32) (σ : Mm) (r : Int32) (σ' : Mm) (hf : f_X8_keep v0 v1 σ = some (r, σ')) : VJ g RX8 cX8_keep 2 (some .int) false rm_X8_keep (some (.int r)) σ' (0) (0) 0 [(0, .ref (gB g + v0)), (1, .int v1)] [] σ := by
  intro p e s m args below meth c H locs cells slots ls E hR hS hl hc hs
  obtain ⟨hx, hb, hml, hr, hlocks, hown, hts, hin, hT⟩ := id E
  unfold f_X8_keep at hf
  refine lv_iload_n hx hb dX8_keep_0 rfl (lv_at hl 1 rfl) ?_
  obtain ⟨r1, σ2, hcr1, hf⟩ := zq_s hf
  refine xS (As := [.int v1]) (rest := []) (st1 := [.int r1]) E hR hS hl (C_X8_isSlot hcr1) lb_X8_isSlot ls_X8_isSlot ml_X8_233 ⟨Nat.le_of_ble_eq_true rfl, Nat.le_of_ble_eq_true rfl⟩ rfl rfl rfl (Nat.le_of_ble_eq_true rfl) dX8_keep_1 ⟨hc, hs⟩ (fun H locs hR hS => ?_)
  refine lv_if_ne (tgt := 9) hx hb dX8_keep_4 (by decide) (fun hq3 => ?_) (fun hq3 => ?_)
  · have hf := ite_n hq3 hf
    refine lv_aload_n hx hb dX8_keep_9 rfl (lv_at hl 0 rfl) ?_
    obtain ⟨hk4, hf⟩ := zc_s hf
    obtain ⟨b5, hb5, hf⟩ := zr_s hf
    refine x_getR E hR hk4 hb5 ok8 (Nat.le_of_ble_eq_true rfl) rfl fl_X8_39 dX8_keep_10 ?_
    refine lv_iload_n hx hb dX8_keep_13 rfl (lv_at hl 1 rfl) ?_
    obtain ⟨hk6, hf⟩ := zc_s hf
    obtain ⟨b7, hb7, hf⟩ := zr_s hf
    refine x_ald E hR (Or.inr rfl) hk6 hb7 dX8_keep_14 ?_
    refine lv_aload_n hx hb dX8_keep_15 rfl (lv_at hl 0 rfl) ?_
    obtain ⟨b8, hb8, hf⟩ := zr_s hf
    refine x_getR E hR hk4 hb8 ok8 (Nat.le_of_ble_eq_true rfl) rfl fl_X8_12 dX8_keep_16 ?_
    obtain ⟨hk9, hf⟩ := zc_s hf
    obtain ⟨r10, σ11, hcr10, hf⟩ := zq_s hf
    refine xV (As := [.ref (gB g + b8)]) (rest := []) (st1 := []) E hR hS hl (C_X6_fill hcr10) hk9 ok6 lb_X6_fill lv_X6_fill ml_X8_236 ⟨Nat.le_of_ble_eq_true rfl, Nat.le_of_ble_eq_true rfl⟩ rfl rfl rfl (Nat.le_of_ble_eq_true rfl) dX8_keep_19 ⟨hc, hs⟩ (fun H locs hR hS => ?_)
    refine lv_aload_n hx hb dX8_keep_22 rfl (lv_at hl 0 rfl) ?_
    obtain ⟨hk12, hf⟩ := zc_s hf
    obtain ⟨b13, hb13, hf⟩ := zr_s hf
    refine x_getR E hR hk12 hb13 ok8 (Nat.le_of_ble_eq_true rfl) rfl fl_X8_12 dX8_keep_23 ?_
    obtain ⟨hk14, hf⟩ := zc_s hf
    obtain ⟨r15, σ16, hcr15, hf⟩ := zq_s hf
    refine xV (As := []) (rest := []) (st1 := [.int r15]) E hR hS hl (C_X2_count hcr15) hk14 ok2 lb_X2_count lv_X2_count ml_X8_90 ⟨Nat.le_of_ble_eq_true rfl, Nat.le_of_ble_eq_true rfl⟩ rfl rfl rfl (Nat.le_of_ble_eq_true rfl) dX8_keep_26 ⟨hc, hs⟩ (fun H locs hR hS => ?_)
    obtain ⟨hr1, hs1⟩ := Prod.mk.inj (Option.some.inj hf)
    exact xr_i E hR hS rfl (by rw [hr1]) hs1.symm hc hs dX8_keep_29
  · have hf := ite_p hq3 hf
    refine lv_iconst (v := (-1 : Int32)) hx hb dX8_keep_7 rfl ?_
    obtain ⟨hr1, hs1⟩ := Prod.mk.inj (Option.some.inj hf)
    exact xr_i E hR hS rfl (by rw [hr1]) hs1.symm hc hs dX8_keep_8
theorem C_X8_keep {g : GG} {v0 : Nat} {v1 : Int32} {σ : Mm} {r : Int32} {σ' : Mm} (hf : f_X8_keep v0 v1 σ = some (r, σ')) : Ct g yX8_keep cX8_keep 2 (some .int) rm_X8_keep [.ref (gB g + v0), .int v1] σ (some (.int r)) σ' :=
  Ct.of false (by decide +kernel) (fun h => by cases h) (Nat.le_of_ble_eq_true rfl) (V_X8_keep_0 _ _ _ _ _ hf)
abbrev rm_X8_again : Room := { frames := 4, cells := 0, slots := 0, locals := 94 }
set_option maxRecDepth 100000 in
def f_X8_again (v0 : Nat) (v1 : Int32) (σ : Mm) : Option (Int32 × Mm) :=
  zcb (f_X8_isSlot v1 σ) (fun r1 σ2 => if r1 = 0 then (some ((-1 : Int32), σ2)) else (zck (kO σ2 v0 8) (zrb (mR σ2 v0 4) (fun b5 => zck (kA σ2 4 b5 v1) (zrb (mR σ2 b5 (ix v1)) (fun b7 => zck (kO σ2 b7 6) (zcb (f_X6_isFilled b7 σ2) (fun r9 σ10 => if r9 = 0 then (some ((-3 : Int32), σ10)) else (zck (kO σ10 v0 8) (zrb (mR σ10 v0 0) (fun b13 => zrb (mR σ10 v0 4) (fun b14 => zck (kA σ10 4 b14 v1) (zrb (mR σ10 b14 (ix v1)) (fun b16 => zck (kO σ10 b16 6) (zcb (f_X6_pairs b16 σ10) (fun r18 σ19 => zck (kO σ19 b13 2) (zcb (f_X2_become b13 r18 σ19) (fun r21 σ22 => zck (kO σ22 v0 8) (zrb (mR σ22 v0 2) (fun b24 => zck (kO σ22 b24 0) (zcb (f_X0_forgetAll b24 σ22) (fun r26 σ27 => zck (kO σ27 v0 8) (zrb (mR σ27 v0 1) (fun b29 => zrb (mR σ27 v0 0) (fun b30 => zck (kO σ27 b29 7) (zcb (f_X7_grow b29 b30 σ27) (fun r32 σ33 => zck (kO σ33 v0 8) (zrb (mR σ33 v0 0) (fun b35 => zck (kO σ33 b35 2) (zcb (f_X2_count b35 σ33) (fun r37 σ38 => some (r37, σ38))))))))))))))))))))))))))))))))
set_option maxRecDepth 100000 in
set_option maxHeartbeats 4000000 in
theorem V_X8_again_0 {g : GG} (v0 : Nat) (v1 : Int32) (σ : Mm) (r : Int32) (σ' : Mm) (hf : f_X8_again v0 v1 σ = some (r, σ')) : VJ g RX8 cX8_again 2 (some .int) false rm_X8_again (some (.int r)) σ' (0) (0) 0 [(0, .ref (gB g + v0)), (1, .int v1)] [] σ := by
  intro p e s m args below meth c H locs cells slots ls E hR hS hl hc hs
  obtain ⟨hx, hb, hml, hr, hlocks, hown, hts, hin, hT⟩ := id E
  unfold f_X8_again at hf
  refine lv_iload_n hx hb dX8_again_0 rfl (lv_at hl 1 rfl) ?_
  obtain ⟨r1, σ2, hcr1, hf⟩ := zq_s hf
  refine xS (As := [.int v1]) (rest := []) (st1 := [.int r1]) E hR hS hl (C_X8_isSlot hcr1) lb_X8_isSlot ls_X8_isSlot ml_X8_233 ⟨Nat.le_of_ble_eq_true rfl, Nat.le_of_ble_eq_true rfl⟩ rfl rfl rfl (Nat.le_of_ble_eq_true rfl) dX8_again_1 ⟨hc, hs⟩ (fun H locs hR hS => ?_)
  refine lv_if_ne (tgt := 9) hx hb dX8_again_4 (by decide) (fun hq3 => ?_) (fun hq3 => ?_)
  · have hf := ite_n hq3 hf
    refine lv_aload_n hx hb dX8_again_9 rfl (lv_at hl 0 rfl) ?_
    obtain ⟨hk4, hf⟩ := zc_s hf
    obtain ⟨b5, hb5, hf⟩ := zr_s hf
    refine x_getR E hR hk4 hb5 ok8 (Nat.le_of_ble_eq_true rfl) rfl fl_X8_39 dX8_again_10 ?_
    refine lv_iload_n hx hb dX8_again_13 rfl (lv_at hl 1 rfl) ?_
    obtain ⟨hk6, hf⟩ := zc_s hf
    obtain ⟨b7, hb7, hf⟩ := zr_s hf
    refine x_ald E hR (Or.inr rfl) hk6 hb7 dX8_again_14 ?_
    obtain ⟨hk8, hf⟩ := zc_s hf
    obtain ⟨r9, σ10, hcr9, hf⟩ := zq_s hf
    refine xV (As := []) (rest := []) (st1 := [.int r9]) E hR hS hl (C_X6_isFilled hcr9) hk8 ok6 lb_X6_isFilled lv_X6_isFilled ml_X8_239 ⟨Nat.le_of_ble_eq_true rfl, Nat.le_of_ble_eq_true rfl⟩ rfl rfl rfl (Nat.le_of_ble_eq_true rfl) dX8_again_15 ⟨hc, hs⟩ (fun H locs hR hS => ?_)
    refine lv_if_ne (tgt := 24) hx hb dX8_again_18 (by decide) (fun hq11 => ?_) (fun hq11 => ?_)
    · have hf := ite_n hq11 hf
      refine lv_aload_n hx hb dX8_again_24 rfl (lv_at hl 0 rfl) ?_
      obtain ⟨hk12, hf⟩ := zc_s hf
      obtain ⟨b13, hb13, hf⟩ := zr_s hf
      refine x_getR E hR hk12 hb13 ok8 (Nat.le_of_ble_eq_true rfl) rfl fl_X8_12 dX8_again_25 ?_
      refine lv_aload_n hx hb dX8_again_28 rfl (lv_at hl 0 rfl) ?_
      obtain ⟨b14, hb14, hf⟩ := zr_s hf
      refine x_getR E hR hk12 hb14 ok8 (Nat.le_of_ble_eq_true rfl) rfl fl_X8_39 dX8_again_29 ?_
      refine lv_iload_n hx hb dX8_again_32 rfl (lv_at hl 1 rfl) ?_
      obtain ⟨hk15, hf⟩ := zc_s hf
      obtain ⟨b16, hb16, hf⟩ := zr_s hf
      refine x_ald E hR (Or.inr rfl) hk15 hb16 dX8_again_33 ?_
      obtain ⟨hk17, hf⟩ := zc_s hf
      obtain ⟨r18, σ19, hcr18, hf⟩ := zq_s hf
      refine xV (As := []) (rest := [.ref (gB g + b13)]) (st1 := [.ref (gB g + r18), .ref (gB g + b13)]) E hR hS hl (C_X6_pairs hcr18) hk17 ok6 lb_X6_pairs lv_X6_pairs ml_X8_242 ⟨Nat.le_of_ble_eq_true rfl, Nat.le_of_ble_eq_true rfl⟩ rfl rfl rfl (Nat.le_of_ble_eq_true rfl) dX8_again_34 ⟨hc, hs⟩ (fun H locs hR hS => ?_)
      obtain ⟨hk20, hf⟩ := zc_s hf
      obtain ⟨r21, σ22, hcr21, hf⟩ := zq_s hf
      refine xV (As := [.ref (gB g + r18)]) (rest := []) (st1 := []) E hR hS hl (C_X2_become hcr21) hk20 ok2 lb_X2_become lv_X2_become ml_X8_225 ⟨Nat.le_of_ble_eq_true rfl, Nat.le_of_ble_eq_true rfl⟩ rfl rfl rfl (Nat.le_of_ble_eq_true rfl) dX8_again_37 ⟨hc, hs⟩ (fun H locs hR hS => ?_)
      refine lv_aload_n hx hb dX8_again_40 rfl (lv_at hl 0 rfl) ?_
      obtain ⟨hk23, hf⟩ := zc_s hf
      obtain ⟨b24, hb24, hf⟩ := zr_s hf
      refine x_getR E hR hk23 hb24 ok8 (Nat.le_of_ble_eq_true rfl) rfl fl_X8_26 dX8_again_41 ?_
      obtain ⟨hk25, hf⟩ := zc_s hf
      obtain ⟨r26, σ27, hcr26, hf⟩ := zq_s hf
      refine xV (As := []) (rest := []) (st1 := []) E hR hS hl (C_X0_forgetAll hcr26) hk25 ok0 lb_X0_forgetAll lv_X0_forgetAll ml_X8_245 ⟨Nat.le_of_ble_eq_true rfl, Nat.le_of_ble_eq_true rfl⟩ rfl rfl rfl (Nat.le_of_ble_eq_true rfl) dX8_again_44 ⟨hc, hs⟩ (fun H locs hR hS => ?_)
      refine lv_aload_n hx hb dX8_again_47 rfl (lv_at hl 0 rfl) ?_
      obtain ⟨hk28, hf⟩ := zc_s hf
      obtain ⟨b29, hb29, hf⟩ := zr_s hf
      refine x_getR E hR hk28 hb29 ok8 (Nat.le_of_ble_eq_true rfl) rfl fl_X8_19 dX8_again_48 ?_
      refine lv_aload_n hx hb dX8_again_51 rfl (lv_at hl 0 rfl) ?_
      obtain ⟨b30, hb30, hf⟩ := zr_s hf
      refine x_getR E hR hk28 hb30 ok8 (Nat.le_of_ble_eq_true rfl) rfl fl_X8_12 dX8_again_52 ?_
      obtain ⟨hk31, hf⟩ := zc_s hf
      obtain ⟨r32, σ33, hcr32, hf⟩ := zq_s hf
      refine xV (As := [.ref (gB g + b30)]) (rest := []) (st1 := []) E hR hS hl (C_X7_grow hcr32) hk31 ok7 lb_X7_grow lv_X7_grow ml_X8_76 ⟨Nat.le_of_ble_eq_true rfl, Nat.le_of_ble_eq_true rfl⟩ rfl rfl rfl (Nat.le_of_ble_eq_true rfl) dX8_again_55 ⟨hc, hs⟩ (fun H locs hR hS => ?_)
      refine lv_aload_n hx hb dX8_again_58 rfl (lv_at hl 0 rfl) ?_
      obtain ⟨hk34, hf⟩ := zc_s hf
      obtain ⟨b35, hb35, hf⟩ := zr_s hf
      refine x_getR E hR hk34 hb35 ok8 (Nat.le_of_ble_eq_true rfl) rfl fl_X8_12 dX8_again_59 ?_
      obtain ⟨hk36, hf⟩ := zc_s hf
      obtain ⟨r37, σ38, hcr37, hf⟩ := zq_s hf
      refine xV (As := []) (rest := []) (st1 := [.int r37]) E hR hS hl (C_X2_count hcr37) hk36 ok2 lb_X2_count lv_X2_count ml_X8_90 ⟨Nat.le_of_ble_eq_true rfl, Nat.le_of_ble_eq_true rfl⟩ rfl rfl rfl (Nat.le_of_ble_eq_true rfl) dX8_again_62 ⟨hc, hs⟩ (fun H locs hR hS => ?_)
      obtain ⟨hr1, hs1⟩ := Prod.mk.inj (Option.some.inj hf)
      exact xr_i E hR hS rfl (by rw [hr1]) hs1.symm hc hs dX8_again_65
    · have hf := ite_p hq11 hf
      refine lv_bipush (v := (-3 : Int32)) hx hb dX8_again_21 rfl ?_
      obtain ⟨hr1, hs1⟩ := Prod.mk.inj (Option.some.inj hf)
      exact xr_i E hR hS rfl (by rw [hr1]) hs1.symm hc hs dX8_again_23
  · have hf := ite_p hq3 hf
    refine lv_iconst (v := (-1 : Int32)) hx hb dX8_again_7 rfl ?_
    obtain ⟨hr1, hs1⟩ := Prod.mk.inj (Option.some.inj hf)
    exact xr_i E hR hS rfl (by rw [hr1]) hs1.symm hc hs dX8_again_8
theorem C_X8_again {g : GG} {v0 : Nat} {v1 : Int32} {σ : Mm} {r : Int32} {σ' : Mm} (hf : f_X8_again v0 v1 σ = some (r, σ')) : Ct g yX8_again cX8_again 2 (some .int) rm_X8_again [.ref (gB g + v0), .int v1] σ (some (.int r)) σ' :=
  Ct.of false (by decide +kernel) (fun h => by cases h) (Nat.le_of_ble_eq_true rfl) (V_X8_again_0 _ _ _ _ _ hf)
abbrev rm_X8_countOtherwise : Room := { frames := 2, cells := 0, slots := 0, locals := 41 }
set_option maxRecDepth 100000 in
def f_X8_countOtherwise_29 (k_4 : Nat → Nat → Int32 → Int32 → Mm → Option (Int32 × Mm)) (v0 : Nat) (v1 : Nat) (v2 : Int32) (v3 : Int32) (σ : Mm) : Option (Int32 × Mm) :=
  k_4 v0 v1 v2 (v3 + (1 : Int32)) σ
set_option maxRecDepth 100000 in
set_option maxHeartbeats 4000000 in
theorem V_X8_countOtherwise_29 {g : GG} (k_4 : Nat → Nat → Int32 → Int32 → Mm → Option (Int32 × Mm)) (hk_4 : ∀ (v0 : Nat) (v1 : Nat) (v2 : Int32) (v3 : Int32) (σ : Mm) (r : Int32) (σ' : Mm), k_4 v0 v1 v2 v3 σ = some (r, σ') → VJ g RX8 cX8_countOtherwise 4 (some .int) false rm_X8_countOtherwise (some (.int r)) σ' (0) (0) 4 [(0, .ref (gB g + v0)), (1, .ref (gB g + v1)), (2, .int v2), (3, .int v3)] [] σ) (v0 : Nat) (v1 : Nat) (v2 : Int32) (v3 : Int32) (σ : Mm) (r : Int32) (σ' : Mm) (hf : f_X8_countOtherwise_29 k_4 v0 v1 v2 v3 σ = some (r, σ')) : VJ g RX8 cX8_countOtherwise 4 (some .int) false rm_X8_countOtherwise (some (.int r)) σ' (0) (0) 29 [(0, .ref (gB g + v0)), (1, .ref (gB g + v1)), (2, .int v2), (3, .int v3)] [] σ := by
  intro p e s m args below meth c H locs cells slots ls E hR hS hl hc hs
  obtain ⟨hx, hb, hml, hr, hlocks, hown, hts, hin, hT⟩ := id E
  unfold f_X8_countOtherwise_29 at hf
  refine lv_iinc (v := (v3 + (1 : Int32))) (lv' := [(3, .int (v3 + (1 : Int32))), (0, .ref (gB g + v0)), (1, .ref (gB g + v1)), (2, .int v2)]) hx hb dX8_countOtherwise_29 hl (k := 3) rfl rfl (Nat.le_of_ble_eq_true rfl) rfl (fun ls hl => ?_)
  refine lv_goto (tgt := 4) hx hb dX8_countOtherwise_32 (by decide) ?_
  exact hk_4 _ _ _ _ _ _ _ hf p e s m args below meth c _ _ _ _ _ E hR hS (lv_sub hl [1, 2, 3, 0] rfl) hc hs
set_option maxRecDepth 100000 in
def f_X8_countOtherwise_4 : Nat → Nat → Nat → Int32 → Int32 → Mm → Option (Int32 × Mm)
  | 0, _, _, _, _, _ => none
  | n + 1, v0, v1, v2, v3, σ =>
    if (100 : Int32) ≤ v3 then (some (v2, σ)) else (zck (kO σ v0 8) (zrb (mR σ v0 0) (fun b3 => zck (kO σ b3 2) (zcb (f_X2_valueOf b3 v3 σ) (fun r5 σ6 => zck (kO σ6 v1 2) (zcb (f_X2_valueOf v1 v3 σ6) (fun r8 σ9 => if r5 = r8 then (f_X8_countOtherwise_29 (f_X8_countOtherwise_4 n) v0 v1 v2 v3 σ9) else (f_X8_countOtherwise_29 (f_X8_countOtherwise_4 n) v0 v1 (v2 + (1 : Int32)) v3 σ9))))))))
set_option maxRecDepth 100000 in
set_option maxHeartbeats 4000000 in
theorem V_X8_countOtherwise_4 {g : GG} : ∀ (n : Nat) (v0 : Nat) (v1 : Nat) (v2 : Int32) (v3 : Int32) (σ : Mm) (r : Int32) (σ' : Mm), f_X8_countOtherwise_4 n v0 v1 v2 v3 σ = some (r, σ') → VJ g RX8 cX8_countOtherwise 4 (some .int) false rm_X8_countOtherwise (some (.int r)) σ' (0) (0) 4 [(0, .ref (gB g + v0)), (1, .ref (gB g + v1)), (2, .int v2), (3, .int v3)] [] σ := by
  intro n
  induction n with
  | zero =>
    intro v0 v1 v2 v3 σ r σ' hf
    unfold f_X8_countOtherwise_4 at hf
    cases hf
  | succ n ih =>
    intro v0 v1 v2 v3 σ r σ' hf p e s m args below meth c H locs cells slots ls E hR hS hl hc hs
    obtain ⟨hx, hb, hml, hr, hlocks, hown, hts, hin, hT⟩ := id E
    unfold f_X8_countOtherwise_4 at hf
    refine lv_iload_n hx hb dX8_countOtherwise_4 rfl (lv_at hl 3 rfl) ?_
    refine lv_bipush (v := (100 : Int32)) hx hb dX8_countOtherwise_5 rfl ?_
    refine lv_icmp_ge (tgt := 35) hx hb dX8_countOtherwise_7 (by decide) (fun hq1 => ?_) (fun hq1 => ?_)
    · have hf := ite_p hq1 hf
      refine lv_iload_n hx hb dX8_countOtherwise_35 rfl (lv_at hl 2 rfl) ?_
      obtain ⟨hr1, hs1⟩ := Prod.mk.inj (Option.some.inj hf)
      exact xr_i E hR hS rfl (by rw [hr1]) hs1.symm hc hs dX8_countOtherwise_36
    · have hf := ite_n hq1 hf
      refine lv_aload_n hx hb dX8_countOtherwise_10 rfl (lv_at hl 0 rfl) ?_
      obtain ⟨hk2, hf⟩ := zc_s hf
      obtain ⟨b3, hb3, hf⟩ := zr_s hf
      refine x_getR E hR hk2 hb3 ok8 (Nat.le_of_ble_eq_true rfl) rfl fl_X8_12 dX8_countOtherwise_11 ?_
      refine lv_iload_n hx hb dX8_countOtherwise_14 rfl (lv_at hl 3 rfl) ?_
      obtain ⟨hk4, hf⟩ := zc_s hf
      obtain ⟨r5, σ6, hcr5, hf⟩ := zq_s hf
      refine xV (As := [.int v3]) (rest := []) (st1 := [.int r5]) E hR hS hl (C_X2_valueOf hcr5) hk4 ok2 lb_X2_valueOf lv_X2_valueOf ml_X8_64 ⟨Nat.le_of_ble_eq_true rfl, Nat.le_of_ble_eq_true rfl⟩ rfl rfl rfl (Nat.le_of_ble_eq_true rfl) dX8_countOtherwise_15 ⟨hc, hs⟩ (fun H locs hR hS => ?_)
      refine lv_aload_n hx hb dX8_countOtherwise_18 rfl (lv_at hl 1 rfl) ?_
      refine lv_iload_n hx hb dX8_countOtherwise_19 rfl (lv_at hl 3 rfl) ?_
      obtain ⟨hk7, hf⟩ := zc_s hf
      obtain ⟨r8, σ9, hcr8, hf⟩ := zq_s hf
      refine xV (As := [.int v3]) (rest := [.int r5]) (st1 := [.int r8, .int r5]) E hR hS hl (C_X2_valueOf hcr8) hk7 ok2 lb_X2_valueOf lv_X2_valueOf ml_X8_64 ⟨Nat.le_of_ble_eq_true rfl, Nat.le_of_ble_eq_true rfl⟩ rfl rfl rfl (Nat.le_of_ble_eq_true rfl) dX8_countOtherwise_20 ⟨hc, hs⟩ (fun H locs hR hS => ?_)
      refine lv_icmp_eq (tgt := 29) hx hb dX8_countOtherwise_23 (by decide) (fun hq10 => ?_) (fun hq10 => ?_)
      · have hf := ite_p hq10 hf
        exact V_X8_countOtherwise_29 _ ih _ _ _ _ _ _ _ hf p e s m args below meth c _ _ _ _ _ E hR hS (lv_sub hl [0, 1, 2, 3] rfl) hc hs
      · have hf := ite_n hq10 hf
        refine lv_iinc (v := (v2 + (1 : Int32))) (lv' := [(2, .int (v2 + (1 : Int32))), (0, .ref (gB g + v0)), (1, .ref (gB g + v1)), (3, .int v3)]) hx hb dX8_countOtherwise_26 hl (k := 2) rfl rfl (Nat.le_of_ble_eq_true rfl) rfl (fun ls hl => ?_)
        exact V_X8_countOtherwise_29 _ ih _ _ _ _ _ _ _ hf p e s m args below meth c _ _ _ _ _ E hR hS (lv_sub hl [1, 2, 0, 3] rfl) hc hs
set_option maxRecDepth 100000 in
def f_X8_countOtherwise (v0 : Nat) (v1 : Nat) (σ : Mm) : Option (Int32 × Mm) :=
  f_X8_countOtherwise_4 1000 v0 v1 (0 : Int32) (0 : Int32) σ
set_option maxRecDepth 100000 in
set_option maxHeartbeats 4000000 in
theorem V_X8_countOtherwise_0 {g : GG} (v0 : Nat) (v1 : Nat) (σ : Mm) (r : Int32) (σ' : Mm) (hf : f_X8_countOtherwise v0 v1 σ = some (r, σ')) : VJ g RX8 cX8_countOtherwise 4 (some .int) false rm_X8_countOtherwise (some (.int r)) σ' (0) (0) 0 [(0, .ref (gB g + v0)), (1, .ref (gB g + v1))] [] σ := by
  intro p e s m args below meth c H locs cells slots ls E hR hS hl hc hs
  obtain ⟨hx, hb, hml, hr, hlocks, hown, hts, hin, hT⟩ := id E
  unfold f_X8_countOtherwise at hf
  refine lv_iconst (v := (0 : Int32)) hx hb dX8_countOtherwise_0 rfl ?_
  refine lv_istore_n (lv' := [(2, .int (0 : Int32)), (0, .ref (gB g + v0)), (1, .ref (gB g + v1))]) hx hb dX8_countOtherwise_1 rfl hl (Nat.le_of_ble_eq_true rfl) rfl (fun ls hl => ?_)
  refine lv_iconst (v := (0 : Int32)) hx hb dX8_countOtherwise_2 rfl ?_
  refine lv_istore_n (lv' := [(3, .int (0 : Int32)), (2, .int (0 : Int32)), (0, .ref (gB g + v0)), (1, .ref (gB g + v1))]) hx hb dX8_countOtherwise_3 rfl hl (Nat.le_of_ble_eq_true rfl) rfl (fun ls hl => ?_)
  exact V_X8_countOtherwise_4  1000 _ _ _ _ _ _ _ hf p e s m args below meth c _ _ _ _ _ E hR hS (lv_sub hl [2, 3, 1, 0] rfl) hc hs
theorem C_X8_countOtherwise {g : GG} {v0 : Nat} {v1 : Nat} {σ : Mm} {r : Int32} {σ' : Mm} (hf : f_X8_countOtherwise v0 v1 σ = some (r, σ')) : Ct g yX8_countOtherwise cX8_countOtherwise 4 (some .int) rm_X8_countOtherwise [.ref (gB g + v0), .ref (gB g + v1)] σ (some (.int r)) σ' :=
  Ct.of false (by decide +kernel) (fun h => by cases h) (Nat.le_of_ble_eq_true rfl) (V_X8_countOtherwise_0 _ _ _ _ _ hf)
abbrev rm_X8_leastOtherwise : Room := { frames := 2, cells := 0, slots := 0, locals := 41 }
set_option maxRecDepth 100000 in
def f_X8_leastOtherwise_2 : Nat → Nat → Nat → Int32 → Mm → Option (Int32 × Mm)
  | 0, _, _, _, _ => none
  | n + 1, v0, v1, v2, σ =>
    if (100 : Int32) ≤ v2 then (some ((-9 : Int32), σ)) else (zck (kO σ v0 8) (zrb (mR σ v0 0) (fun b3 => zck (kO σ b3 2) (zcb (f_X2_valueOf b3 v2 σ) (fun r5 σ6 => zck (kO σ6 v1 2) (zcb (f_X2_valueOf v1 v2 σ6) (fun r8 σ9 => if r5 = r8 then (f_X8_leastOtherwise_2 n v0 v1 (v2 + (1 : Int32)) σ9) else (some (v2, σ9)))))))))
set_option maxRecDepth 100000 in
set_option maxHeartbeats 4000000 in
theorem V_X8_leastOtherwise_2 {g : GG} : ∀ (n : Nat) (v0 : Nat) (v1 : Nat) (v2 : Int32) (σ : Mm) (r : Int32) (σ' : Mm), f_X8_leastOtherwise_2 n v0 v1 v2 σ = some (r, σ') → VJ g RX8 cX8_leastOtherwise 3 (some .int) false rm_X8_leastOtherwise (some (.int r)) σ' (0) (0) 2 [(0, .ref (gB g + v0)), (1, .ref (gB g + v1)), (2, .int v2)] [] σ := by
  intro n
  induction n with
  | zero =>
    intro v0 v1 v2 σ r σ' hf
    unfold f_X8_leastOtherwise_2 at hf
    cases hf
  | succ n ih =>
    intro v0 v1 v2 σ r σ' hf p e s m args below meth c H locs cells slots ls E hR hS hl hc hs
    obtain ⟨hx, hb, hml, hr, hlocks, hown, hts, hin, hT⟩ := id E
    unfold f_X8_leastOtherwise_2 at hf
    refine lv_iload_n hx hb dX8_leastOtherwise_2 rfl (lv_at hl 2 rfl) ?_
    refine lv_bipush (v := (100 : Int32)) hx hb dX8_leastOtherwise_3 rfl ?_
    refine lv_icmp_ge (tgt := 32) hx hb dX8_leastOtherwise_5 (by decide) (fun hq1 => ?_) (fun hq1 => ?_)
    · have hf := ite_p hq1 hf
      refine lv_bipush (v := (-9 : Int32)) hx hb dX8_leastOtherwise_32 rfl ?_
      obtain ⟨hr1, hs1⟩ := Prod.mk.inj (Option.some.inj hf)
      exact xr_i E hR hS rfl (by rw [hr1]) hs1.symm hc hs dX8_leastOtherwise_34
    · have hf := ite_n hq1 hf
      refine lv_aload_n hx hb dX8_leastOtherwise_8 rfl (lv_at hl 0 rfl) ?_
      obtain ⟨hk2, hf⟩ := zc_s hf
      obtain ⟨b3, hb3, hf⟩ := zr_s hf
      refine x_getR E hR hk2 hb3 ok8 (Nat.le_of_ble_eq_true rfl) rfl fl_X8_12 dX8_leastOtherwise_9 ?_
      refine lv_iload_n hx hb dX8_leastOtherwise_12 rfl (lv_at hl 2 rfl) ?_
      obtain ⟨hk4, hf⟩ := zc_s hf
      obtain ⟨r5, σ6, hcr5, hf⟩ := zq_s hf
      refine xV (As := [.int v2]) (rest := []) (st1 := [.int r5]) E hR hS hl (C_X2_valueOf hcr5) hk4 ok2 lb_X2_valueOf lv_X2_valueOf ml_X8_64 ⟨Nat.le_of_ble_eq_true rfl, Nat.le_of_ble_eq_true rfl⟩ rfl rfl rfl (Nat.le_of_ble_eq_true rfl) dX8_leastOtherwise_13 ⟨hc, hs⟩ (fun H locs hR hS => ?_)
      refine lv_aload_n hx hb dX8_leastOtherwise_16 rfl (lv_at hl 1 rfl) ?_
      refine lv_iload_n hx hb dX8_leastOtherwise_17 rfl (lv_at hl 2 rfl) ?_
      obtain ⟨hk7, hf⟩ := zc_s hf
      obtain ⟨r8, σ9, hcr8, hf⟩ := zq_s hf
      refine xV (As := [.int v2]) (rest := [.int r5]) (st1 := [.int r8, .int r5]) E hR hS hl (C_X2_valueOf hcr8) hk7 ok2 lb_X2_valueOf lv_X2_valueOf ml_X8_64 ⟨Nat.le_of_ble_eq_true rfl, Nat.le_of_ble_eq_true rfl⟩ rfl rfl rfl (Nat.le_of_ble_eq_true rfl) dX8_leastOtherwise_18 ⟨hc, hs⟩ (fun H locs hR hS => ?_)
      refine lv_icmp_eq (tgt := 26) hx hb dX8_leastOtherwise_21 (by decide) (fun hq10 => ?_) (fun hq10 => ?_)
      · have hf := ite_p hq10 hf
        refine lv_iinc (v := (v2 + (1 : Int32))) (lv' := [(2, .int (v2 + (1 : Int32))), (0, .ref (gB g + v0)), (1, .ref (gB g + v1))]) hx hb dX8_leastOtherwise_26 hl (k := 2) rfl rfl (Nat.le_of_ble_eq_true rfl) rfl (fun ls hl => ?_)
        refine lv_goto (tgt := 2) hx hb dX8_leastOtherwise_29 (by decide) ?_
        exact ih _ _ _ _ _ _ hf p e s m args below meth c _ _ _ _ _ E hR hS (lv_sub hl [1, 2, 0] rfl) hc hs
      · have hf := ite_n hq10 hf
        refine lv_iload_n hx hb dX8_leastOtherwise_24 rfl (lv_at hl 2 rfl) ?_
        obtain ⟨hr1, hs1⟩ := Prod.mk.inj (Option.some.inj hf)
        exact xr_i E hR hS rfl (by rw [hr1]) hs1.symm hc hs dX8_leastOtherwise_25
set_option maxRecDepth 100000 in
def f_X8_leastOtherwise (v0 : Nat) (v1 : Nat) (σ : Mm) : Option (Int32 × Mm) :=
  f_X8_leastOtherwise_2 1000 v0 v1 (0 : Int32) σ
set_option maxRecDepth 100000 in
set_option maxHeartbeats 4000000 in
theorem V_X8_leastOtherwise_0 {g : GG} (v0 : Nat) (v1 : Nat) (σ : Mm) (r : Int32) (σ' : Mm) (hf : f_X8_leastOtherwise v0 v1 σ = some (r, σ')) : VJ g RX8 cX8_leastOtherwise 3 (some .int) false rm_X8_leastOtherwise (some (.int r)) σ' (0) (0) 0 [(0, .ref (gB g + v0)), (1, .ref (gB g + v1))] [] σ := by
  intro p e s m args below meth c H locs cells slots ls E hR hS hl hc hs
  obtain ⟨hx, hb, hml, hr, hlocks, hown, hts, hin, hT⟩ := id E
  unfold f_X8_leastOtherwise at hf
  refine lv_iconst (v := (0 : Int32)) hx hb dX8_leastOtherwise_0 rfl ?_
  refine lv_istore_n (lv' := [(2, .int (0 : Int32)), (0, .ref (gB g + v0)), (1, .ref (gB g + v1))]) hx hb dX8_leastOtherwise_1 rfl hl (Nat.le_of_ble_eq_true rfl) rfl (fun ls hl => ?_)
  exact V_X8_leastOtherwise_2  1000 _ _ _ _ _ _ hf p e s m args below meth c _ _ _ _ _ E hR hS (lv_sub hl [1, 2, 0] rfl) hc hs
theorem C_X8_leastOtherwise {g : GG} {v0 : Nat} {v1 : Nat} {σ : Mm} {r : Int32} {σ' : Mm} (hf : f_X8_leastOtherwise v0 v1 σ = some (r, σ')) : Ct g yX8_leastOtherwise cX8_leastOtherwise 3 (some .int) rm_X8_leastOtherwise [.ref (gB g + v0), .ref (gB g + v1)] σ (some (.int r)) σ' :=
  Ct.of false (by decide +kernel) (fun h => by cases h) (Nat.le_of_ble_eq_true rfl) (V_X8_leastOtherwise_0 _ _ _ _ _ hf)
abbrev rm_X8_countPassedOver : Room := { frames := 4, cells := 0, slots := 0, locals := 94 }
set_option maxRecDepth 100000 in
def f_X8_countPassedOver_36 (k_12 : Nat → Int32 → Int32 → Mm → Option (Int32 × Mm)) (v0 : Nat) (v2 : Int32) (v3 : Int32) (σ : Mm) : Option (Int32 × Mm) :=
  k_12 v0 v2 (v3 + (1 : Int32)) σ
set_option maxRecDepth 100000 in
set_option maxHeartbeats 4000000 in
theorem V_X8_countPassedOver_36 {g : GG} (k_12 : Nat → Int32 → Int32 → Mm → Option (Int32 × Mm)) (hk_12 : ∀ (v0 : Nat) (v2 : Int32) (v3 : Int32) (σ : Mm) (r : Int32) (σ' : Mm), k_12 v0 v2 v3 σ = some (r, σ') → VJ g RX8 cX8_countPassedOver 4 (some .int) false rm_X8_countPassedOver (some (.int r)) σ' (0) (0) 12 [(0, .ref (gB g + v0)), (2, .int v2), (3, .int v3)] [] σ) (v0 : Nat) (v2 : Int32) (v3 : Int32) (σ : Mm) (r : Int32) (σ' : Mm) (hf : f_X8_countPassedOver_36 k_12 v0 v2 v3 σ = some (r, σ')) : VJ g RX8 cX8_countPassedOver 4 (some .int) false rm_X8_countPassedOver (some (.int r)) σ' (0) (0) 36 [(0, .ref (gB g + v0)), (2, .int v2), (3, .int v3)] [] σ := by
  intro p e s m args below meth c H locs cells slots ls E hR hS hl hc hs
  obtain ⟨hx, hb, hml, hr, hlocks, hown, hts, hin, hT⟩ := id E
  unfold f_X8_countPassedOver_36 at hf
  refine lv_iinc (v := (v3 + (1 : Int32))) (lv' := [(3, .int (v3 + (1 : Int32))), (0, .ref (gB g + v0)), (2, .int v2)]) hx hb dX8_countPassedOver_36 hl (k := 2) rfl rfl (Nat.le_of_ble_eq_true rfl) rfl (fun ls hl => ?_)
  refine lv_goto (tgt := 12) hx hb dX8_countPassedOver_39 (by decide) ?_
  exact hk_12 _ _ _ _ _ _ hf p e s m args below meth c _ _ _ _ _ E hR hS (lv_sub hl [1, 2, 0] rfl) hc hs
set_option maxRecDepth 100000 in
def f_X8_countPassedOver_12 : Nat → Nat → Int32 → Int32 → Mm → Option (Int32 × Mm)
  | 0, _, _, _, _ => none
  | n + 1, v0, v2, v3, σ =>
    if (100 : Int32) ≤ v3 then (some (v2, σ)) else (zck (kO σ v0 8) (zrb (mR σ v0 1) (fun b3 => zrb (mR σ v0 6) (fun b4 => zck (kO σ b3 7) (zcb (f_X7_isFirstLike b3 v3 b4 σ) (fun r6 σ7 => if r6 = 0 then (f_X8_countPassedOver_36 (f_X8_countPassedOver_12 n) v0 v2 v3 σ7) else (f_X8_countPassedOver_36 (f_X8_countPassedOver_12 n) v0 (v2 + (1 : Int32)) v3 σ7)))))))
set_option maxRecDepth 100000 in
set_option maxHeartbeats 4000000 in
theorem V_X8_countPassedOver_12 {g : GG} : ∀ (n : Nat) (v0 : Nat) (v2 : Int32) (v3 : Int32) (σ : Mm) (r : Int32) (σ' : Mm), f_X8_countPassedOver_12 n v0 v2 v3 σ = some (r, σ') → VJ g RX8 cX8_countPassedOver 4 (some .int) false rm_X8_countPassedOver (some (.int r)) σ' (0) (0) 12 [(0, .ref (gB g + v0)), (2, .int v2), (3, .int v3)] [] σ := by
  intro n
  induction n with
  | zero =>
    intro v0 v2 v3 σ r σ' hf
    unfold f_X8_countPassedOver_12 at hf
    cases hf
  | succ n ih =>
    intro v0 v2 v3 σ r σ' hf p e s m args below meth c H locs cells slots ls E hR hS hl hc hs
    obtain ⟨hx, hb, hml, hr, hlocks, hown, hts, hin, hT⟩ := id E
    unfold f_X8_countPassedOver_12 at hf
    refine lv_iload_n hx hb dX8_countPassedOver_12 rfl (lv_at hl 2 rfl) ?_
    refine lv_bipush (v := (100 : Int32)) hx hb dX8_countPassedOver_13 rfl ?_
    refine lv_icmp_ge (tgt := 42) hx hb dX8_countPassedOver_15 (by decide) (fun hq1 => ?_) (fun hq1 => ?_)
    · have hf := ite_p hq1 hf
      refine lv_iload_n hx hb dX8_countPassedOver_42 rfl (lv_at hl 1 rfl) ?_
      obtain ⟨hr1, hs1⟩ := Prod.mk.inj (Option.some.inj hf)
      exact xr_i E hR hS rfl (by rw [hr1]) hs1.symm hc hs dX8_countPassedOver_43
    · have hf := ite_n hq1 hf
      refine lv_aload_n hx hb dX8_countPassedOver_18 rfl (lv_at hl 0 rfl) ?_
      obtain ⟨hk2, hf⟩ := zc_s hf
      obtain ⟨b3, hb3, hf⟩ := zr_s hf
      refine x_getR E hR hk2 hb3 ok8 (Nat.le_of_ble_eq_true rfl) rfl fl_X8_19 dX8_countPassedOver_19 ?_
      refine lv_iload_n hx hb dX8_countPassedOver_22 rfl (lv_at hl 2 rfl) ?_
      refine lv_aload_n hx hb dX8_countPassedOver_23 rfl (lv_at hl 0 rfl) ?_
      obtain ⟨b4, hb4, hf⟩ := zr_s hf
      refine x_getR E hR hk2 hb4 ok8 (Nat.le_of_ble_eq_true rfl) rfl fl_X8_46 dX8_countPassedOver_24 ?_
      obtain ⟨hk5, hf⟩ := zc_s hf
      obtain ⟨r6, σ7, hcr6, hf⟩ := zq_s hf
      refine xV (As := [.int v3, .ref (gB g + b4)]) (rest := []) (st1 := [.int r6]) E hR hS hl (C_X7_isFirstLike hcr6) hk5 ok7 lb_X7_isFirstLike lv_X7_isFirstLike ml_X8_271 ⟨Nat.le_of_ble_eq_true rfl, Nat.le_of_ble_eq_true rfl⟩ rfl rfl rfl (Nat.le_of_ble_eq_true rfl) dX8_countPassedOver_27 ⟨hc, hs⟩ (fun H locs hR hS => ?_)
      refine lv_if_eq (tgt := 36) hx hb dX8_countPassedOver_30 (by decide) (fun hq8 => ?_) (fun hq8 => ?_)
      · have hf := ite_p hq8 hf
        exact V_X8_countPassedOver_36 _ ih _ _ _ _ _ _ hf p e s m args below meth c _ _ _ _ _ E hR hS (lv_sub hl [0, 1, 2] rfl) hc hs
      · have hf := ite_n hq8 hf
        refine lv_iinc (v := (v2 + (1 : Int32))) (lv' := [(2, .int (v2 + (1 : Int32))), (0, .ref (gB g + v0)), (3, .int v3)]) hx hb dX8_countPassedOver_33 hl (k := 1) rfl rfl (Nat.le_of_ble_eq_true rfl) rfl (fun ls hl => ?_)
        exact V_X8_countPassedOver_36 _ ih _ _ _ _ _ _ hf p e s m args below meth c _ _ _ _ _ E hR hS (lv_sub hl [1, 0, 2] rfl) hc hs
set_option maxRecDepth 100000 in
def f_X8_countPassedOver (v0 : Nat) (v1 : Nat) (σ : Mm) : Option (Int32 × Mm) :=
  zck (kO σ v0 8) (zrb (mR σ v0 6) (fun b10 => zck (kO σ b10 7) (zcb (f_X7_grow b10 v1 σ) (fun r12 σ13 => f_X8_countPassedOver_12 1000 v0 (0 : Int32) (0 : Int32) σ13))))
set_option maxRecDepth 100000 in
set_option maxHeartbeats 4000000 in
theorem V_X8_countPassedOver_0 {g : GG} (v0 : Nat) (v1 : Nat) (σ : Mm) (r : Int32) (σ' : Mm) (hf : f_X8_countPassedOver v0 v1 σ = some (r, σ')) : VJ g RX8 cX8_countPassedOver 4 (some .int) false rm_X8_countPassedOver (some (.int r)) σ' (0) (0) 0 [(0, .ref (gB g + v0)), (1, .ref (gB g + v1))] [] σ := by
  intro p e s m args below meth c H locs cells slots ls E hR hS hl hc hs
  obtain ⟨hx, hb, hml, hr, hlocks, hown, hts, hin, hT⟩ := id E
  unfold f_X8_countPassedOver at hf
  refine lv_aload_n hx hb dX8_countPassedOver_0 rfl (lv_at hl 0 rfl) ?_
  obtain ⟨hk9, hf⟩ := zc_s hf
  obtain ⟨b10, hb10, hf⟩ := zr_s hf
  refine x_getR E hR hk9 hb10 ok8 (Nat.le_of_ble_eq_true rfl) rfl fl_X8_46 dX8_countPassedOver_1 ?_
  refine lv_aload_n hx hb dX8_countPassedOver_4 rfl (lv_at hl 1 rfl) ?_
  obtain ⟨hk11, hf⟩ := zc_s hf
  obtain ⟨r12, σ13, hcr12, hf⟩ := zq_s hf
  refine xV (As := [.ref (gB g + v1)]) (rest := []) (st1 := []) E hR hS hl (C_X7_grow hcr12) hk11 ok7 lb_X7_grow lv_X7_grow ml_X8_76 ⟨Nat.le_of_ble_eq_true rfl, Nat.le_of_ble_eq_true rfl⟩ rfl rfl rfl (Nat.le_of_ble_eq_true rfl) dX8_countPassedOver_5 ⟨hc, hs⟩ (fun H locs hR hS => ?_)
  refine lv_iconst (v := (0 : Int32)) hx hb dX8_countPassedOver_8 rfl ?_
  refine lv_istore_n (lv' := [(2, .int (0 : Int32)), (0, .ref (gB g + v0)), (1, .ref (gB g + v1))]) hx hb dX8_countPassedOver_9 rfl hl (Nat.le_of_ble_eq_true rfl) rfl (fun ls hl => ?_)
  refine lv_iconst (v := (0 : Int32)) hx hb dX8_countPassedOver_10 rfl ?_
  refine lv_istore_n (lv' := [(3, .int (0 : Int32)), (2, .int (0 : Int32)), (0, .ref (gB g + v0)), (1, .ref (gB g + v1))]) hx hb dX8_countPassedOver_11 rfl hl (Nat.le_of_ble_eq_true rfl) rfl (fun ls hl => ?_)
  exact V_X8_countPassedOver_12  1000 _ _ _ _ _ _ hf p e s m args below meth c _ _ _ _ _ E hR hS (lv_sub hl [2, 1, 0] rfl) hc hs
theorem C_X8_countPassedOver {g : GG} {v0 : Nat} {v1 : Nat} {σ : Mm} {r : Int32} {σ' : Mm} (hf : f_X8_countPassedOver v0 v1 σ = some (r, σ')) : Ct g yX8_countPassedOver cX8_countPassedOver 4 (some .int) rm_X8_countPassedOver [.ref (gB g + v0), .ref (gB g + v1)] σ (some (.int r)) σ' :=
  Ct.of false (by decide +kernel) (fun h => by cases h) (Nat.le_of_ble_eq_true rfl) (V_X8_countPassedOver_0 _ _ _ _ _ hf)
abbrev rm_X8_countNodesPassedOver : Room := { frames := 4, cells := 101, slots := 404, locals := 94 }
set_option maxRecDepth 100000 in
def f_X8_countNodesPassedOver_63 (k_12 : Nat → Int32 → Int32 → Mm → Option (Int32 × Mm)) (v0 : Nat) (v2 : Int32) (v3 : Int32) (σ : Mm) : Option (Int32 × Mm) :=
  k_12 v0 v2 (v3 + (1 : Int32)) σ
set_option maxRecDepth 100000 in
set_option maxHeartbeats 4000000 in
theorem V_X8_countNodesPassedOver_63 {g : GG} (k_12 : Nat → Int32 → Int32 → Mm → Option (Int32 × Mm)) (kc_12 ks_12 : Nat) (hk_12 : ∀ (v0 : Nat) (v2 : Int32) (v3 : Int32) (σ : Mm) (r : Int32) (σ' : Mm), k_12 v0 v2 v3 σ = some (r, σ') → VJ g RX8 cX8_countNodesPassedOver 5 (some .int) false rm_X8_countNodesPassedOver (some (.int r)) σ' (kc_12) (ks_12) 12 [(0, .ref (gB g + v0)), (2, .int v2), (3, .int v3)] [] σ) (v0 : Nat) (v2 : Int32) (v3 : Int32) (σ : Mm) (r : Int32) (σ' : Mm) (hf : f_X8_countNodesPassedOver_63 k_12 v0 v2 v3 σ = some (r, σ')) (kc ks : Nat) (hq_12 : 0 + kc_12 ≤ kc ∧ 0 + ks_12 ≤ ks) : VJ g RX8 cX8_countNodesPassedOver 5 (some .int) false rm_X8_countNodesPassedOver (some (.int r)) σ' (kc) (ks) 63 [(0, .ref (gB g + v0)), (2, .int v2), (3, .int v3)] [] σ := by
  intro p e s m args below meth c H locs cells slots ls E hR hS hl hc hs
  have hc : cells + kc ≤ 101 := hc
  have hs : slots + ks ≤ 404 := hs
  obtain ⟨hx, hb, hml, hr, hlocks, hown, hts, hin, hT⟩ := id E
  unfold f_X8_countNodesPassedOver_63 at hf
  refine lv_iinc (v := (v3 + (1 : Int32))) (lv' := [(3, .int (v3 + (1 : Int32))), (0, .ref (gB g + v0)), (2, .int v2)]) hx hb dX8_countNodesPassedOver_63 hl (k := 2) rfl rfl (Nat.le_of_ble_eq_true rfl) rfl (fun ls hl => ?_)
  refine lv_goto (tgt := 12) hx hb dX8_countNodesPassedOver_66 (by decide) ?_
  exact hk_12 _ _ _ _ _ _ hf p e s m args below meth c _ _ _ _ _ E hR hS (lv_sub hl [1, 2, 0] rfl) (show cells + (kc_12) ≤ 101 by omega) (show slots + (ks_12) ≤ 404 by omega)
set_option maxRecDepth 100000 in
def f_X8_countNodesPassedOver_12 : Nat → Nat → Int32 → Int32 → Mm → Option (Int32 × Mm)
  | 0, _, _, _, _ => none
  | n + 1, v0, v2, v3, σ =>
    if (100 : Int32) ≤ v3 then (some (v2, σ)) else (zck (kO σ v0 8) (zrb (mR σ v0 1) (fun b3 => zrb (mR σ v0 6) (fun b4 => zck (kO σ b3 7) (zcb (f_X7_isFirstLike b3 v3 b4 σ) (fun r6 σ7 => if r6 = 0 then (f_X8_countNodesPassedOver_63 (f_X8_countNodesPassedOver_12 n) v0 v2 v3 σ7) else (zck (kO σ7 v0 8) (zrb (mR σ7 v0 1) (fun b10 => zck (kO σ7 b10 7) (zcb (f_X7_placeOf b10 v3 σ7) (fun r12 σ13 => zck (kO σ13 v0 8) (zrb (mR σ13 v0 0) (fun b15 => zck (kO σ13 r12 4) (zck (kO σ13 b15 2) (zcb (f_X2_countWithin b15 (mD σ13 r12 2) (mD σ13 r12 3) σ13) (fun r18 σ19 => f_X8_countNodesPassedOver_63 (f_X8_countNodesPassedOver_12 n) v0 (v2 + r18) v3 σ19))))))))))))))))
set_option maxRecDepth 100000 in
set_option maxHeartbeats 4000000 in
theorem V_X8_countNodesPassedOver_12 {g : GG} : ∀ (n : Nat) (v0 : Nat) (v2 : Int32) (v3 : Int32) (σ : Mm) (r : Int32) (σ' : Mm), f_X8_countNodesPassedOver_12 n v0 v2 v3 σ = some (r, σ') → VJ g RX8 cX8_countNodesPassedOver 5 (some .int) false rm_X8_countNodesPassedOver (some (.int r)) σ' (n * 1 + 0) (n * 4 + 0) 12 [(0, .ref (gB g + v0)), (2, .int v2), (3, .int v3)] [] σ := by
  intro n
  induction n with
  | zero =>
    intro v0 v2 v3 σ r σ' hf
    unfold f_X8_countNodesPassedOver_12 at hf
    cases hf
  | succ n ih =>
    intro v0 v2 v3 σ r σ' hf p e s m args below meth c H locs cells slots ls E hR hS hl hc hs
    have hc : cells + ((n + 1) * 1 + 0) ≤ 101 := hc
    have hs : slots + ((n + 1) * 4 + 0) ≤ 404 := hs
    obtain ⟨hx, hb, hml, hr, hlocks, hown, hts, hin, hT⟩ := id E
    unfold f_X8_countNodesPassedOver_12 at hf
    refine lv_iload_n hx hb dX8_countNodesPassedOver_12 rfl (lv_at hl 2 rfl) ?_
    refine lv_bipush (v := (100 : Int32)) hx hb dX8_countNodesPassedOver_13 rfl ?_
    refine lv_icmp_ge (tgt := 69) hx hb dX8_countNodesPassedOver_15 (by decide) (fun hq1 => ?_) (fun hq1 => ?_)
    · have hf := ite_p hq1 hf
      refine lv_iload_n hx hb dX8_countNodesPassedOver_69 rfl (lv_at hl 1 rfl) ?_
      obtain ⟨hr1, hs1⟩ := Prod.mk.inj (Option.some.inj hf)
      exact xr_i E hR hS rfl (by rw [hr1]) hs1.symm (show cells ≤ 101 by omega) (show slots ≤ 404 by omega) dX8_countNodesPassedOver_70
    · have hf := ite_n hq1 hf
      refine lv_aload_n hx hb dX8_countNodesPassedOver_18 rfl (lv_at hl 0 rfl) ?_
      obtain ⟨hk2, hf⟩ := zc_s hf
      obtain ⟨b3, hb3, hf⟩ := zr_s hf
      refine x_getR E hR hk2 hb3 ok8 (Nat.le_of_ble_eq_true rfl) rfl fl_X8_19 dX8_countNodesPassedOver_19 ?_
      refine lv_iload_n hx hb dX8_countNodesPassedOver_22 rfl (lv_at hl 2 rfl) ?_
      refine lv_aload_n hx hb dX8_countNodesPassedOver_23 rfl (lv_at hl 0 rfl) ?_
      obtain ⟨b4, hb4, hf⟩ := zr_s hf
      refine x_getR E hR hk2 hb4 ok8 (Nat.le_of_ble_eq_true rfl) rfl fl_X8_46 dX8_countNodesPassedOver_24 ?_
      obtain ⟨hk5, hf⟩ := zc_s hf
      obtain ⟨r6, σ7, hcr6, hf⟩ := zq_s hf
      refine xV (As := [.int v3, .ref (gB g + b4)]) (rest := []) (st1 := [.int r6]) E hR hS hl (C_X7_isFirstLike hcr6) hk5 ok7 lb_X7_isFirstLike lv_X7_isFirstLike ml_X8_271 ⟨Nat.le_of_ble_eq_true rfl, Nat.le_of_ble_eq_true rfl⟩ rfl rfl rfl (Nat.le_of_ble_eq_true rfl) dX8_countNodesPassedOver_27 ⟨show cells + 0 ≤ 101 by omega, show slots + 0 ≤ 404 by omega⟩ (fun H locs hR hS => ?_)
      refine lv_if_eq (tgt := 63) hx hb dX8_countNodesPassedOver_30 (by decide) (fun hq8 => ?_) (fun hq8 => ?_)
      · have hf := ite_p hq8 hf
        exact V_X8_countNodesPassedOver_63 _ (n * 1 + 0) (n * 4 + 0) ih _ _ _ _ _ _ hf (101 - (cells + 0)) (404 - (slots + 0)) (by constructor <;> omega) p e s m args below meth c _ _ _ _ _ E hR hS (lv_sub hl [0, 1, 2] rfl) (show cells + 0 + (101 - (cells + 0)) ≤ 101 by omega) (show slots + 0 + (404 - (slots + 0)) ≤ 404 by omega)
      · have hf := ite_n hq8 hf
        refine lv_aload_n hx hb dX8_countNodesPassedOver_33 rfl (lv_at hl 0 rfl) ?_
        obtain ⟨hk9, hf⟩ := zc_s hf
        obtain ⟨b10, hb10, hf⟩ := zr_s hf
        refine x_getR E hR hk9 hb10 ok8 (Nat.le_of_ble_eq_true rfl) rfl fl_X8_19 dX8_countNodesPassedOver_34 ?_
        refine lv_iload_n hx hb dX8_countNodesPassedOver_37 rfl (lv_at hl 2 rfl) ?_
        obtain ⟨hk11, hf⟩ := zc_s hf
        obtain ⟨r12, σ13, hcr12, hf⟩ := zq_s hf
        refine xV (As := [.int v3]) (rest := []) (st1 := [.ref (gB g + r12)]) E hR hS hl (C_X7_placeOf hcr12) hk11 ok7 lb_X7_placeOf lv_X7_placeOf ml_X8_119 ⟨Nat.le_of_ble_eq_true rfl, Nat.le_of_ble_eq_true rfl⟩ rfl rfl rfl (Nat.le_of_ble_eq_true rfl) dX8_countNodesPassedOver_38 ⟨show cells + 0 + 1 ≤ 101 by omega, show slots + 0 + 4 ≤ 404 by omega⟩ (fun H locs hR hS => ?_)
        refine lv_astore (lv' := [(4, .ref (gB g + r12)), (0, .ref (gB g + v0)), (2, .int v2), (3, .int v3)]) hx hb dX8_countNodesPassedOver_41 hl (Nat.le_of_ble_eq_true rfl) rfl (fun ls hl => ?_)
        refine lv_iload_n hx hb dX8_countNodesPassedOver_43 rfl (lv_at hl 2 rfl) ?_
        refine lv_aload_n hx hb dX8_countNodesPassedOver_44 rfl (lv_at hl 1 rfl) ?_
        obtain ⟨hk14, hf⟩ := zc_s hf
        obtain ⟨b15, hb15, hf⟩ := zr_s hf
        refine x_getR E hR hk14 hb15 ok8 (Nat.le_of_ble_eq_true rfl) rfl fl_X8_12 dX8_countNodesPassedOver_45 ?_
        refine lv_aload hx hb dX8_countNodesPassedOver_48 (lv_at hl 0 rfl) ?_
        obtain ⟨hk16, hf⟩ := zc_s hf
        refine x_getI E hR hk16 ok4 2 (Nat.le_of_ble_eq_true rfl) rfl fl_X8_138 dX8_countNodesPassedOver_50 ?_
        refine lv_aload hx hb dX8_countNodesPassedOver_53 (lv_at hl 0 rfl) ?_
        refine x_getI E hR hk16 ok4 3 (Nat.le_of_ble_eq_true rfl) rfl fl_X8_141 dX8_countNodesPassedOver_55 ?_
        obtain ⟨hk17, hf⟩ := zc_s hf
        obtain ⟨r18, σ19, hcr18, hf⟩ := zq_s hf
        refine xV (As := [.int (mD σ13 r12 2), .int (mD σ13 r12 3)]) (rest := [.int v2]) (st1 := [.int r18, .int v2]) E hR hS hl (C_X2_countWithin hcr18) hk17 ok2 lb_X2_countWithin lv_X2_countWithin ml_X8_144 ⟨Nat.le_of_ble_eq_true rfl, Nat.le_of_ble_eq_true rfl⟩ rfl rfl rfl (Nat.le_of_ble_eq_true rfl) dX8_countNodesPassedOver_58 ⟨show cells + 0 + 1 + 0 ≤ 101 by omega, show slots + 0 + 4 + 0 ≤ 404 by omega⟩ (fun H locs hR hS => ?_)
        refine lv_iadd hx hb dX8_countNodesPassedOver_61 ?_
        refine lv_istore_n (lv' := [(2, .int (v2 + r18)), (4, .ref (gB g + r12)), (0, .ref (gB g + v0)), (3, .int v3)]) hx hb dX8_countNodesPassedOver_62 rfl hl (Nat.le_of_ble_eq_true rfl) rfl (fun ls hl => ?_)
        exact V_X8_countNodesPassedOver_63 _ (n * 1 + 0) (n * 4 + 0) ih _ _ _ _ _ _ hf (101 - (cells + 0 + 1 + 0)) (404 - (slots + 0 + 4 + 0)) (by constructor <;> omega) p e s m args below meth c _ _ _ _ _ E hR hS (lv_sub hl [2, 0, 3] rfl) (show cells + 0 + 1 + 0 + (101 - (cells + 0 + 1 + 0)) ≤ 101 by omega) (show slots + 0 + 4 + 0 + (404 - (slots + 0 + 4 + 0)) ≤ 404 by omega)
set_option maxRecDepth 100000 in
def f_X8_countNodesPassedOver (v0 : Nat) (v1 : Nat) (σ : Mm) : Option (Int32 × Mm) :=
  zck (kO σ v0 8) (zrb (mR σ v0 6) (fun b21 => zck (kO σ b21 7) (zcb (f_X7_grow b21 v1 σ) (fun r23 σ24 => f_X8_countNodesPassedOver_12 101 v0 (0 : Int32) (0 : Int32) σ24))))
set_option maxRecDepth 100000 in
set_option maxHeartbeats 4000000 in
theorem V_X8_countNodesPassedOver_0 {g : GG} (v0 : Nat) (v1 : Nat) (σ : Mm) (r : Int32) (σ' : Mm) (hf : f_X8_countNodesPassedOver v0 v1 σ = some (r, σ')) (kc ks : Nat) (hqe : 101 ≤ kc ∧ 404 ≤ ks) : VJ g RX8 cX8_countNodesPassedOver 5 (some .int) false rm_X8_countNodesPassedOver (some (.int r)) σ' (kc) (ks) 0 [(0, .ref (gB g + v0)), (1, .ref (gB g + v1))] [] σ := by
  intro p e s m args below meth c H locs cells slots ls E hR hS hl hc hs
  have hc : cells + kc ≤ 101 := hc
  have hs : slots + ks ≤ 404 := hs
  obtain ⟨hx, hb, hml, hr, hlocks, hown, hts, hin, hT⟩ := id E
  unfold f_X8_countNodesPassedOver at hf
  refine lv_aload_n hx hb dX8_countNodesPassedOver_0 rfl (lv_at hl 0 rfl) ?_
  obtain ⟨hk20, hf⟩ := zc_s hf
  obtain ⟨b21, hb21, hf⟩ := zr_s hf
  refine x_getR E hR hk20 hb21 ok8 (Nat.le_of_ble_eq_true rfl) rfl fl_X8_46 dX8_countNodesPassedOver_1 ?_
  refine lv_aload_n hx hb dX8_countNodesPassedOver_4 rfl (lv_at hl 1 rfl) ?_
  obtain ⟨hk22, hf⟩ := zc_s hf
  obtain ⟨r23, σ24, hcr23, hf⟩ := zq_s hf
  refine xV (As := [.ref (gB g + v1)]) (rest := []) (st1 := []) E hR hS hl (C_X7_grow hcr23) hk22 ok7 lb_X7_grow lv_X7_grow ml_X8_76 ⟨Nat.le_of_ble_eq_true rfl, Nat.le_of_ble_eq_true rfl⟩ rfl rfl rfl (Nat.le_of_ble_eq_true rfl) dX8_countNodesPassedOver_5 ⟨show cells + 0 ≤ 101 by omega, show slots + 0 ≤ 404 by omega⟩ (fun H locs hR hS => ?_)
  refine lv_iconst (v := (0 : Int32)) hx hb dX8_countNodesPassedOver_8 rfl ?_
  refine lv_istore_n (lv' := [(2, .int (0 : Int32)), (0, .ref (gB g + v0)), (1, .ref (gB g + v1))]) hx hb dX8_countNodesPassedOver_9 rfl hl (Nat.le_of_ble_eq_true rfl) rfl (fun ls hl => ?_)
  refine lv_iconst (v := (0 : Int32)) hx hb dX8_countNodesPassedOver_10 rfl ?_
  refine lv_istore_n (lv' := [(3, .int (0 : Int32)), (2, .int (0 : Int32)), (0, .ref (gB g + v0)), (1, .ref (gB g + v1))]) hx hb dX8_countNodesPassedOver_11 rfl hl (Nat.le_of_ble_eq_true rfl) rfl (fun ls hl => ?_)
  exact V_X8_countNodesPassedOver_12  101 _ _ _ _ _ _ hf p e s m args below meth c _ _ _ _ _ E hR hS (lv_sub hl [2, 1, 0] rfl) (show cells + 0 + (101 * 1 + 0) ≤ 101 by omega) (show slots + 0 + (101 * 4 + 0) ≤ 404 by omega)
theorem C_X8_countNodesPassedOver {g : GG} {v0 : Nat} {v1 : Nat} {σ : Mm} {r : Int32} {σ' : Mm} (hf : f_X8_countNodesPassedOver v0 v1 σ = some (r, σ')) : Ct g yX8_countNodesPassedOver cX8_countNodesPassedOver 5 (some .int) rm_X8_countNodesPassedOver [.ref (gB g + v0), .ref (gB g + v1)] σ (some (.int r)) σ' :=
  Ct.of false (by decide +kernel) (fun h => by cases h) (Nat.le_of_ble_eq_true rfl) (V_X8_countNodesPassedOver_0 _ _ _ _ _ hf 101 404 ⟨Nat.le_of_ble_eq_true rfl, Nat.le_of_ble_eq_true rfl⟩)
abbrev rm_X8_differ : Room := { frames := 5, cells := 101, slots := 404, locals := 118 }
set_option maxRecDepth 100000 in
def f_X8_differ (v0 : Nat) (v1 : Int32) (v2 : Int32) (σ : Mm) : Option (Int32 × Mm) :=
  zcb (f_X8_isSlot v1 σ) (fun r1 σ2 => if r1 = 0 then (some ((-1 : Int32), σ2)) else (zck (kO σ2 v0 8) (zrb (mR σ2 v0 4) (fun b5 => zck (kA σ2 4 b5 v1) (zrb (mR σ2 b5 (ix v1)) (fun b7 => zck (kO σ2 b7 6) (zcb (f_X6_isFilled b7 σ2) (fun r9 σ10 => if r9 = 0 then (some ((-3 : Int32), σ10)) else (zck (kO σ10 v0 8) (zrb (mR σ10 v0 4) (fun b13 => zck (kA σ10 4 b13 v1) (zrb (mR σ10 b13 (ix v1)) (fun b15 => zck (kO σ10 b15 6) (zcb (f_X6_pairs b15 σ10) (fun r17 σ18 => if v2 = (0 : Int32) then (zck (kO σ18 v0 8) (zcb (f_X8_countOtherwise v0 r17 σ18) (fun r22 σ23 => some (r22, σ23)))) else (if v2 = (1 : Int32) then (zck (kO σ18 v0 8) (zcb (f_X8_leastOtherwise v0 r17 σ18) (fun r26 σ27 => some (r26, σ27)))) else (if v2 = (2 : Int32) then (zck (kO σ18 v0 8) (zcb (f_X8_countPassedOver v0 r17 σ18) (fun r30 σ31 => some (r30, σ31)))) else (if v2 = (3 : Int32) then (zck (kO σ18 v0 8) (zcb (f_X8_countNodesPassedOver v0 r17 σ18) (fun r34 σ35 => some (r34, σ35)))) else (some ((-2 : Int32), σ18))))))))))))))))))))
set_option maxRecDepth 100000 in
set_option maxHeartbeats 4000000 in
theorem V_X8_differ_0 {g : GG} (v0 : Nat) (v1 : Int32) (v2 : Int32) (σ : Mm) (r : Int32) (σ' : Mm) (hf : f_X8_differ v0 v1 v2 σ = some (r, σ')) (kc ks : Nat) (hqe : 101 ≤ kc ∧ 404 ≤ ks) : VJ g RX8 cX8_differ 4 (some .int) false rm_X8_differ (some (.int r)) σ' (kc) (ks) 0 [(0, .ref (gB g + v0)), (1, .int v1), (2, .int v2)] [] σ := by
  intro p e s m args below meth c H locs cells slots ls E hR hS hl hc hs
  have hc : cells + kc ≤ 101 := hc
  have hs : slots + ks ≤ 404 := hs
  obtain ⟨hx, hb, hml, hr, hlocks, hown, hts, hin, hT⟩ := id E
  unfold f_X8_differ at hf
  refine lv_iload_n hx hb dX8_differ_0 rfl (lv_at hl 1 rfl) ?_
  obtain ⟨r1, σ2, hcr1, hf⟩ := zq_s hf
  refine xS (As := [.int v1]) (rest := []) (st1 := [.int r1]) E hR hS hl (C_X8_isSlot hcr1) lb_X8_isSlot ls_X8_isSlot ml_X8_233 ⟨Nat.le_of_ble_eq_true rfl, Nat.le_of_ble_eq_true rfl⟩ rfl rfl rfl (Nat.le_of_ble_eq_true rfl) dX8_differ_1 ⟨show cells + 0 ≤ 101 by omega, show slots + 0 ≤ 404 by omega⟩ (fun H locs hR hS => ?_)
  refine lv_if_ne (tgt := 9) hx hb dX8_differ_4 (by decide) (fun hq3 => ?_) (fun hq3 => ?_)
  · have hf := ite_n hq3 hf
    refine lv_aload_n hx hb dX8_differ_9 rfl (lv_at hl 0 rfl) ?_
    obtain ⟨hk4, hf⟩ := zc_s hf
    obtain ⟨b5, hb5, hf⟩ := zr_s hf
    refine x_getR E hR hk4 hb5 ok8 (Nat.le_of_ble_eq_true rfl) rfl fl_X8_39 dX8_differ_10 ?_
    refine lv_iload_n hx hb dX8_differ_13 rfl (lv_at hl 1 rfl) ?_
    obtain ⟨hk6, hf⟩ := zc_s hf
    obtain ⟨b7, hb7, hf⟩ := zr_s hf
    refine x_ald E hR (Or.inr rfl) hk6 hb7 dX8_differ_14 ?_
    obtain ⟨hk8, hf⟩ := zc_s hf
    obtain ⟨r9, σ10, hcr9, hf⟩ := zq_s hf
    refine xV (As := []) (rest := []) (st1 := [.int r9]) E hR hS hl (C_X6_isFilled hcr9) hk8 ok6 lb_X6_isFilled lv_X6_isFilled ml_X8_239 ⟨Nat.le_of_ble_eq_true rfl, Nat.le_of_ble_eq_true rfl⟩ rfl rfl rfl (Nat.le_of_ble_eq_true rfl) dX8_differ_15 ⟨show cells + 0 + 0 ≤ 101 by omega, show slots + 0 + 0 ≤ 404 by omega⟩ (fun H locs hR hS => ?_)
    refine lv_if_ne (tgt := 24) hx hb dX8_differ_18 (by decide) (fun hq11 => ?_) (fun hq11 => ?_)
    · have hf := ite_n hq11 hf
      refine lv_aload_n hx hb dX8_differ_24 rfl (lv_at hl 0 rfl) ?_
      obtain ⟨hk12, hf⟩ := zc_s hf
      obtain ⟨b13, hb13, hf⟩ := zr_s hf
      refine x_getR E hR hk12 hb13 ok8 (Nat.le_of_ble_eq_true rfl) rfl fl_X8_39 dX8_differ_25 ?_
      refine lv_iload_n hx hb dX8_differ_28 rfl (lv_at hl 1 rfl) ?_
      obtain ⟨hk14, hf⟩ := zc_s hf
      obtain ⟨b15, hb15, hf⟩ := zr_s hf
      refine x_ald E hR (Or.inr rfl) hk14 hb15 dX8_differ_29 ?_
      obtain ⟨hk16, hf⟩ := zc_s hf
      obtain ⟨r17, σ18, hcr17, hf⟩ := zq_s hf
      refine xV (As := []) (rest := []) (st1 := [.ref (gB g + r17)]) E hR hS hl (C_X6_pairs hcr17) hk16 ok6 lb_X6_pairs lv_X6_pairs ml_X8_242 ⟨Nat.le_of_ble_eq_true rfl, Nat.le_of_ble_eq_true rfl⟩ rfl rfl rfl (Nat.le_of_ble_eq_true rfl) dX8_differ_30 ⟨show cells + 0 + 0 + 0 ≤ 101 by omega, show slots + 0 + 0 + 0 ≤ 404 by omega⟩ (fun H locs hR hS => ?_)
      refine lv_astore_n (lv' := [(3, .ref (gB g + r17)), (0, .ref (gB g + v0)), (1, .int v1), (2, .int v2)]) hx hb dX8_differ_33 rfl hl (Nat.le_of_ble_eq_true rfl) rfl (fun ls hl => ?_)
      refine lv_iload_n hx hb dX8_differ_34 rfl (lv_at hl 3 rfl) ?_
      refine lv_topi (fun x19 ex => ?_)
      subst ex
      by_cases hq20 : x19 = (0 : Int32)
      · have hf := ite_p hq20 hf
        refine lv_tableIn (tgt := 64) (off := 29) hx hb dX8_differ_35 (by rw [hq20]; decide) (by rw [hq20]; decide) (by rw [hq20]; decide) (by decide) ?_
        refine lv_aload_n hx hb dX8_differ_64 rfl (lv_at hl 1 rfl) ?_
        refine lv_aload_n hx hb dX8_differ_65 rfl (lv_at hl 0 rfl) ?_
        obtain ⟨hk21, hf⟩ := zc_s hf
        obtain ⟨r22, σ23, hcr22, hf⟩ := zq_s hf
        refine xV (As := [.ref (gB g + r17)]) (rest := []) (st1 := [.int r22]) E hR hS hl (C_X8_countOtherwise hcr22) hk21 ok8 lb_X8_countOtherwise lv_X8_countOtherwise ml_X8_248 ⟨Nat.le_of_ble_eq_true rfl, Nat.le_of_ble_eq_true rfl⟩ rfl rfl rfl (Nat.le_of_ble_eq_true rfl) dX8_differ_66 ⟨show cells + 0 + 0 + 0 + 0 ≤ 101 by omega, show slots + 0 + 0 + 0 + 0 ≤ 404 by omega⟩ (fun H locs hR hS => ?_)
        obtain ⟨hr1, hs1⟩ := Prod.mk.inj (Option.some.inj hf)
        exact xr_i E hR hS rfl (by rw [hr1]) hs1.symm (show cells + 0 + 0 + 0 + 0 ≤ 101 by omega) (show slots + 0 + 0 + 0 + 0 ≤ 404 by omega) dX8_differ_69
      have hf := ite_n hq20 hf
      by_cases hq24 : x19 = (1 : Int32)
      · have hf := ite_p hq24 hf
        refine lv_tableIn (tgt := 70) (off := 35) hx hb dX8_differ_35 (by rw [hq24]; decide) (by rw [hq24]; decide) (by rw [hq24]; decide) (by decide) ?_
        refine lv_aload_n hx hb dX8_differ_70 rfl (lv_at hl 1 rfl) ?_
        refine lv_aload_n hx hb dX8_differ_71 rfl (lv_at hl 0 rfl) ?_
        obtain ⟨hk25, hf⟩ := zc_s hf
        obtain ⟨r26, σ27, hcr26, hf⟩ := zq_s hf
        refine xV (As := [.ref (gB g + r17)]) (rest := []) (st1 := [.int r26]) E hR hS hl (C_X8_leastOtherwise hcr26) hk25 ok8 lb_X8_leastOtherwise lv_X8_leastOtherwise ml_X8_252 ⟨Nat.le_of_ble_eq_true rfl, Nat.le_of_ble_eq_true rfl⟩ rfl rfl rfl (Nat.le_of_ble_eq_true rfl) dX8_differ_72 ⟨show cells + 0 + 0 + 0 + 0 ≤ 101 by omega, show slots + 0 + 0 + 0 + 0 ≤ 404 by omega⟩ (fun H locs hR hS => ?_)
        obtain ⟨hr1, hs1⟩ := Prod.mk.inj (Option.some.inj hf)
        exact xr_i E hR hS rfl (by rw [hr1]) hs1.symm (show cells + 0 + 0 + 0 + 0 ≤ 101 by omega) (show slots + 0 + 0 + 0 + 0 ≤ 404 by omega) dX8_differ_75
      have hf := ite_n hq24 hf
      by_cases hq28 : x19 = (2 : Int32)
      · have hf := ite_p hq28 hf
        refine lv_tableIn (tgt := 76) (off := 41) hx hb dX8_differ_35 (by rw [hq28]; decide) (by rw [hq28]; decide) (by rw [hq28]; decide) (by decide) ?_
        refine lv_aload_n hx hb dX8_differ_76 rfl (lv_at hl 1 rfl) ?_
        refine lv_aload_n hx hb dX8_differ_77 rfl (lv_at hl 0 rfl) ?_
        obtain ⟨hk29, hf⟩ := zc_s hf
        obtain ⟨r30, σ31, hcr30, hf⟩ := zq_s hf
        refine xV (As := [.ref (gB g + r17)]) (rest := []) (st1 := [.int r30]) E hR hS hl (C_X8_countPassedOver hcr30) hk29 ok8 lb_X8_countPassedOver lv_X8_countPassedOver ml_X8_255 ⟨Nat.le_of_ble_eq_true rfl, Nat.le_of_ble_eq_true rfl⟩ rfl rfl rfl (Nat.le_of_ble_eq_true rfl) dX8_differ_78 ⟨show cells + 0 + 0 + 0 + 0 ≤ 101 by omega, show slots + 0 + 0 + 0 + 0 ≤ 404 by omega⟩ (fun H locs hR hS => ?_)
        obtain ⟨hr1, hs1⟩ := Prod.mk.inj (Option.some.inj hf)
        exact xr_i E hR hS rfl (by rw [hr1]) hs1.symm (show cells + 0 + 0 + 0 + 0 ≤ 101 by omega) (show slots + 0 + 0 + 0 + 0 ≤ 404 by omega) dX8_differ_81
      have hf := ite_n hq28 hf
      by_cases hq32 : x19 = (3 : Int32)
      · have hf := ite_p hq32 hf
        refine lv_tableIn (tgt := 82) (off := 47) hx hb dX8_differ_35 (by rw [hq32]; decide) (by rw [hq32]; decide) (by rw [hq32]; decide) (by decide) ?_
        refine lv_aload_n hx hb dX8_differ_82 rfl (lv_at hl 1 rfl) ?_
        refine lv_aload_n hx hb dX8_differ_83 rfl (lv_at hl 0 rfl) ?_
        obtain ⟨hk33, hf⟩ := zc_s hf
        obtain ⟨r34, σ35, hcr34, hf⟩ := zq_s hf
        refine xV (As := [.ref (gB g + r17)]) (rest := []) (st1 := [.int r34]) E hR hS hl (C_X8_countNodesPassedOver hcr34) hk33 ok8 lb_X8_countNodesPassedOver lv_X8_countNodesPassedOver ml_X8_258 ⟨Nat.le_of_ble_eq_true rfl, Nat.le_of_ble_eq_true rfl⟩ rfl rfl rfl (Nat.le_of_ble_eq_true rfl) dX8_differ_84 ⟨show cells + 0 + 0 + 0 + 101 ≤ 101 by omega, show slots + 0 + 0 + 0 + 404 ≤ 404 by omega⟩ (fun H locs hR hS => ?_)
        obtain ⟨hr1, hs1⟩ := Prod.mk.inj (Option.some.inj hf)
        exact xr_i E hR hS rfl (by rw [hr1]) hs1.symm (show cells + 0 + 0 + 0 + 101 ≤ 101 by omega) (show slots + 0 + 0 + 0 + 404 ≤ 404 by omega) dX8_differ_87
      have hf := ite_n hq32 hf
      refine lv_tableOut (tgt := 88) hx hb dX8_differ_35 (sw_out (fun j h1 h2 => by
          have hj : j = 0 ∨ j = 1 ∨ j = 2 ∨ j = 3 := by omega
          rcases hj with rfl | rfl | rfl | rfl
          · exact hq20
          · exact hq24
          · exact hq28
          · exact hq32
          )) (by decide) ?_
      refine lv_bipush (v := (-2 : Int32)) hx hb dX8_differ_88 rfl ?_
      obtain ⟨hr1, hs1⟩ := Prod.mk.inj (Option.some.inj hf)
      exact xr_i E hR hS rfl (by rw [hr1]) hs1.symm (show cells + 0 + 0 + 0 ≤ 101 by omega) (show slots + 0 + 0 + 0 ≤ 404 by omega) dX8_differ_90
    · have hf := ite_p hq11 hf
      refine lv_bipush (v := (-3 : Int32)) hx hb dX8_differ_21 rfl ?_
      obtain ⟨hr1, hs1⟩ := Prod.mk.inj (Option.some.inj hf)
      exact xr_i E hR hS rfl (by rw [hr1]) hs1.symm (show cells + 0 + 0 ≤ 101 by omega) (show slots + 0 + 0 ≤ 404 by omega) dX8_differ_23
  · have hf := ite_p hq3 hf
    refine lv_iconst (v := (-1 : Int32)) hx hb dX8_differ_7 rfl ?_
    obtain ⟨hr1, hs1⟩ := Prod.mk.inj (Option.some.inj hf)
    exact xr_i E hR hS rfl (by rw [hr1]) hs1.symm (show cells + 0 ≤ 101 by omega) (show slots + 0 ≤ 404 by omega) dX8_differ_8
theorem C_X8_differ {g : GG} {v0 : Nat} {v1 : Int32} {v2 : Int32} {σ : Mm} {r : Int32} {σ' : Mm} (hf : f_X8_differ v0 v1 v2 σ = some (r, σ')) : Ct g yX8_differ cX8_differ 4 (some .int) rm_X8_differ [.ref (gB g + v0), .int v1, .int v2] σ (some (.int r)) σ' :=
  Ct.of false (by decide +kernel) (fun h => by cases h) (Nat.le_of_ble_eq_true rfl) (V_X8_differ_0 _ _ _ _ _ _ hf 101 404 ⟨Nat.le_of_ble_eq_true rfl, Nat.le_of_ble_eq_true rfl⟩)
abbrev rm_X9_init : Room := { frames := 1, cells := 36, slots := 5567, locals := 12 }
set_option maxRecDepth 100000 in
def f_X9_init_302 : Nat → Nat → Int32 → Mm → Option (Unit × Mm)
  | 0, _, _, _ => none
  | n + 1, v0, v1, σ =>
    if (100 : Int32) ≤ v1 then (some ((), σ)) else (zck (kO σ v0 9) (zrb (mR σ v0 0) (fun b3 => zck (kA σ 1 b3 v1) (zlt (sD σ b3 (ix v1) (-9 : Int32)) (fun σ5 => f_X9_init_302 n v0 (v1 + (1 : Int32)) σ5)))))
set_option maxRecDepth 100000 in
set_option maxHeartbeats 4000000 in
theorem V_X9_init_302 {g : GG} : ∀ (n : Nat) (v0 : Nat) (v1 : Int32) (σ : Mm) (r : Unit) (σ' : Mm), f_X9_init_302 n v0 v1 σ = some (r, σ') → VJ g RX9 cX9_init 2 none true rm_X9_init none σ' (n * 0 + 0) (n * 0 + 0) 302 [(0, .ref (gB g + v0)), (1, .int v1)] [] σ := by
  intro n
  induction n with
  | zero =>
    intro v0 v1 σ r σ' hf
    unfold f_X9_init_302 at hf
    cases hf
  | succ n ih =>
    intro v0 v1 σ r σ' hf p e s m args below meth c H locs cells slots ls E hR hS hl hc hs
    have hc : cells + ((n + 1) * 0 + 0) ≤ 36 := hc
    have hs : slots + ((n + 1) * 0 + 0) ≤ 5567 := hs
    obtain ⟨hx, hb, hml, hr, hlocks, hown, hts, hin, hT⟩ := id E
    unfold f_X9_init_302 at hf
    refine lv_iload_n hx hb dX9_init_302 rfl (lv_at hl 1 rfl) ?_
    refine lv_bipush (v := (100 : Int32)) hx hb dX9_init_303 rfl ?_
    refine lv_icmp_ge (tgt := 322) hx hb dX9_init_305 (by decide) (fun hq1 => ?_) (fun hq1 => ?_)
    · have hf := ite_p hq1 hf
      obtain ⟨hr1, hs1⟩ := Prod.mk.inj (Option.some.inj hf)
      exact xr_v E hR hS rfl rfl hs1.symm (show cells ≤ 36 by omega) (show slots ≤ 5567 by omega) dX9_init_322
    · have hf := ite_n hq1 hf
      refine lv_aload_n hx hb dX9_init_308 rfl (lv_at hl 0 rfl) ?_
      obtain ⟨hk2, hf⟩ := zc_s hf
      obtain ⟨b3, hb3, hf⟩ := zr_s hf
      refine x_getR E hR hk2 hb3 ok9 (Nat.le_of_ble_eq_true rfl) rfl fl_X9_7 dX9_init_309 ?_
      refine lv_iload_n hx hb dX9_init_312 rfl (lv_at hl 1 rfl) ?_
      refine lv_bipush (v := (-9 : Int32)) hx hb dX9_init_313 rfl ?_
      obtain ⟨hk4, hf⟩ := zc_s hf
      obtain ⟨σ5, eσ5, hf⟩ := zl_s hf
      refine x_ist E hR hS hk4 dX9_init_315 (fun H locs hR hS => ?_)
      rw [← eσ5] at hR
      refine lv_iinc (v := (v1 + (1 : Int32))) (lv' := [(1, .int (v1 + (1 : Int32))), (0, .ref (gB g + v0))]) hx hb dX9_init_316 hl (k := 1) rfl rfl (Nat.le_of_ble_eq_true rfl) rfl (fun ls hl => ?_)
      refine lv_goto (tgt := 302) hx hb dX9_init_319 (by decide) ?_
      exact ih _ _ _ _ _ hf p e s m args below meth c _ _ _ _ _ E hR hS (lv_sub hl [1, 0] rfl) (show cells + (n * 0 + 0) ≤ 36 by omega) (show slots + (n * 0 + 0) ≤ 5567 by omega)
set_option maxRecDepth 100000 in
def f_X9_init (v0 : Nat) (σ : Mm) : Option (Unit × Mm) :=
  zlt (nw σ (1, 100)) (fun σ6 => zck (kO σ6 v0 9) (zlt (sR σ6 v0 0 (mN σ)) (fun σ8 => zlt (nw σ8 (1, 100)) (fun σ9 => zck (kO σ9 v0 9) (zlt (sR σ9 v0 1 (mN σ8)) (fun σ11 => zlt (nw σ11 (1, 1400)) (fun σ12 => zck (kO σ12 v0 9) (zlt (sR σ12 v0 2 (mN σ11)) (fun σ14 => zlt (nw σ14 (1, 200)) (fun σ15 => zck (kO σ15 v0 9) (zlt (sR σ15 v0 5 (mN σ14)) (fun σ17 => zlt (nw σ17 (2, 2)) (fun σ18 => zck (kO σ18 v0 9) (zlt (sR σ18 v0 6 (mN σ17)) (fun σ20 => zlt (nw σ20 (1, 200)) (fun σ21 => zck (kO σ21 v0 9) (zlt (sR σ21 v0 7 (mN σ20)) (fun σ23 => zlt (nw σ23 (1, 200)) (fun σ24 => zck (kO σ24 v0 9) (zlt (sR σ24 v0 8 (mN σ23)) (fun σ26 => zlt (nw σ26 (1, 200)) (fun σ27 => zck (kO σ27 v0 9) (zlt (sR σ27 v0 9 (mN σ26)) (fun σ29 => zlt (nw σ29 (1, 200)) (fun σ30 => zck (kO σ30 v0 9) (zlt (sR σ30 v0 10 (mN σ29)) (fun σ32 => zlt (nw σ32 (1, 200)) (fun σ33 => zck (kO σ33 v0 9) (zlt (sR σ33 v0 11 (mN σ32)) (fun σ35 => zlt (nw σ35 (1, 200)) (fun σ36 => zck (kO σ36 v0 9) (zlt (sR σ36 v0 12 (mN σ35)) (fun σ38 => zlt (nw σ38 (1, 200)) (fun σ39 => zck (kO σ39 v0 9) (zlt (sR σ39 v0 13 (mN σ38)) (fun σ41 => zlt (nw σ41 (1, 200)) (fun σ42 => zck (kO σ42 v0 9) (zlt (sR σ42 v0 14 (mN σ41)) (fun σ44 => zlt (nw σ44 (1, 2)) (fun σ45 => zck (kO σ45 v0 9) (zlt (sR σ45 v0 15 (mN σ44)) (fun σ47 => zlt (nw σ47 (1, 100)) (fun σ48 => zck (kO σ48 v0 9) (zlt (sR σ48 v0 16 (mN σ47)) (fun σ50 => zlt (nw σ50 (1, 110)) (fun σ51 => zck (kO σ51 v0 9) (zlt (sR σ51 v0 17 (mN σ50)) (fun σ53 => zlt (nw σ53 (1, 110)) (fun σ54 => zck (kO σ54 v0 9) (zlt (sR σ54 v0 18 (mN σ53)) (fun σ56 => zlt (nw σ56 (1, 110)) (fun σ57 => zck (kO σ57 v0 9) (zlt (sR σ57 v0 19 (mN σ56)) (fun σ59 => zlt (nw σ59 (1, 110)) (fun σ60 => zck (kO σ60 v0 9) (zlt (sR σ60 v0 20 (mN σ59)) (fun σ62 => zlt (nw σ62 (1, 100)) (fun σ63 => zck (kO σ63 v0 9) (zlt (sR σ63 v0 22 (mN σ62)) (fun σ65 => zlt (nw σ65 (1, 100)) (fun σ66 => zck (kO σ66 v0 9) (zlt (sR σ66 v0 24 (mN σ65)) (fun σ68 => zlt (nw σ68 (1, 8)) (fun σ69 => zck (kO σ69 v0 9) (zlt (sR σ69 v0 27 (mN σ68)) (fun σ71 => zlt (nw σ71 (1, 100)) (fun σ72 => zck (kO σ72 v0 9) (zlt (sR σ72 v0 29 (mN σ71)) (fun σ74 => zlt (nw σ74 (1, 100)) (fun σ75 => zck (kO σ75 v0 9) (zlt (sR σ75 v0 30 (mN σ74)) (fun σ77 => zlt (nw σ77 (1, 100)) (fun σ78 => zck (kO σ78 v0 9) (zlt (sR σ78 v0 31 (mN σ77)) (fun σ80 => zlt (nw σ80 (1, 100)) (fun σ81 => zck (kO σ81 v0 9) (zlt (sR σ81 v0 32 (mN σ80)) (fun σ83 => zlt (nw σ83 (1, 100)) (fun σ84 => zck (kO σ84 v0 9) (zlt (sR σ84 v0 33 (mN σ83)) (fun σ86 => zlt (nw σ86 (1, 100)) (fun σ87 => zck (kO σ87 v0 9) (zlt (sR σ87 v0 34 (mN σ86)) (fun σ89 => zlt (nw σ89 (1, 100)) (fun σ90 => zck (kO σ90 v0 9) (zlt (sR σ90 v0 35 (mN σ89)) (fun σ92 => zlt (nw σ92 (1, 102)) (fun σ93 => zck (kO σ93 v0 9) (zlt (sR σ93 v0 38 (mN σ92)) (fun σ95 => zlt (nw σ95 (1, 102)) (fun σ96 => zck (kO σ96 v0 9) (zlt (sR σ96 v0 39 (mN σ95)) (fun σ98 => zlt (nw σ98 (1, 103)) (fun σ99 => zck (kO σ99 v0 9) (zlt (sR σ99 v0 40 (mN σ98)) (fun σ101 => zlt (nw σ101 (1, 102)) (fun σ102 => zck (kO σ102 v0 9) (zlt (sR σ102 v0 42 (mN σ101)) (fun σ104 => zlt (nw σ104 (1, 102)) (fun σ105 => zck (kO σ105 v0 9) (zlt (sR σ105 v0 43 (mN σ104)) (fun σ107 => zlt (nw σ107 (1, 102)) (fun σ108 => zck (kO σ108 v0 9) (zlt (sR σ108 v0 44 (mN σ107)) (fun σ110 => zlt (nw σ110 (1, 102)) (fun σ111 => zck (kO σ111 v0 9) (zlt (sR σ111 v0 45 (mN σ110)) (fun σ113 => f_X9_init_302 1000 v0 (0 : Int32) σ113))))))))))))))))))))))))))))))))))))))))))))))))))))))))))))))))))))))))))))))))))))))))))))))))))))))))))))
set_option maxRecDepth 100000 in
set_option maxHeartbeats 4000000 in
theorem V_X9_init_0 {g : GG} (v0 : Nat) (σ : Mm) (r : Unit) (σ' : Mm) (hf : f_X9_init v0 σ = some (r, σ')) (kc ks : Nat) (hqe : 36 ≤ kc ∧ 5567 ≤ ks) : VJ g RX9 cX9_init 2 none true rm_X9_init none σ' (kc) (ks) 0 [(0, .ref (gB g + v0))] [] σ := by
  intro p e s m args below meth c H locs cells slots ls E hR hS hl hc hs
  have hc : cells + kc ≤ 36 := hc
  have hs : slots + ks ≤ 5567 := hs
  obtain ⟨hx, hb, hml, hr, hlocks, hown, hts, hin, hT⟩ := id E
  unfold f_X9_init at hf
  refine lv_aload_n hx hb dX9_init_0 rfl (lv_at hl 0 rfl) ?_
  refine x_obj (rest := []) E hl ob_X9_1 obI obC (Nat.le_of_ble_eq_true rfl) (Nat.le_of_ble_eq_true rfl) dX9_init_1 ?_
  refine lv_aload_n hx hb dX9_init_4 rfl (lv_at hl 0 rfl) ?_
  refine lv_bipush (v := (100 : Int32)) hx hb dX9_init_5 rfl ?_
  obtain ⟨σ6, eσ6, hf⟩ := zl_s hf
  refine x_newI (L := 100) E hR hS caI (by decide) (by decide) (Nat.le_of_ble_eq_true rfl) (show cells + 1 ≤ 36 by omega) (show slots + 100 ≤ 5567 by omega) dX9_init_7 (fun H hR hS => ?_)
  rw [← eσ6] at hR
  obtain ⟨hk7, hf⟩ := zc_s hf
  obtain ⟨σ8, eσ8, hf⟩ := zl_s hf
  refine x_putR E hR hS hk7 ok9 0 (Nat.le_of_ble_eq_true rfl) rfl fl_X9_7 (Or.inr ⟨rfl, rfl, rfl⟩) (fun _ => rfl) (fun _ => rfl) dX9_init_9 (fun H locs hR hS => ?_)
  rw [← eσ8] at hR
  refine lv_aload_n hx hb dX9_init_12 rfl (lv_at hl 0 rfl) ?_
  refine lv_bipush (v := (100 : Int32)) hx hb dX9_init_13 rfl ?_
  obtain ⟨σ9, eσ9, hf⟩ := zl_s hf
  refine x_newI (L := 100) E hR hS caI (by decide) (by decide) (Nat.le_of_ble_eq_true rfl) (show cells + 1 + 1 ≤ 36 by omega) (show slots + 100 + 100 ≤ 5567 by omega) dX9_init_15 (fun H hR hS => ?_)
  rw [← eσ9] at hR
  obtain ⟨hk10, hf⟩ := zc_s hf
  obtain ⟨σ11, eσ11, hf⟩ := zl_s hf
  refine x_putR E hR hS hk10 ok9 1 (Nat.le_of_ble_eq_true rfl) rfl fl_X9_13 (Or.inr ⟨rfl, rfl, rfl⟩) (fun _ => rfl) (fun _ => rfl) dX9_init_17 (fun H locs hR hS => ?_)
  rw [← eσ11] at hR
  refine lv_aload_n hx hb dX9_init_20 rfl (lv_at hl 0 rfl) ?_
  refine lv_sipush (v := (1400 : Int32)) hx hb dX9_init_21 rfl ?_
  obtain ⟨σ12, eσ12, hf⟩ := zl_s hf
  refine x_newI (L := 1400) E hR hS caI (by decide) (by decide) (Nat.le_of_ble_eq_true rfl) (show cells + 1 + 1 + 1 ≤ 36 by omega) (show slots + 100 + 100 + 1400 ≤ 5567 by omega) dX9_init_24 (fun H hR hS => ?_)
  rw [← eσ12] at hR
  obtain ⟨hk13, hf⟩ := zc_s hf
  obtain ⟨σ14, eσ14, hf⟩ := zl_s hf
  refine x_putR E hR hS hk13 ok9 2 (Nat.le_of_ble_eq_true rfl) rfl fl_X9_16 (Or.inr ⟨rfl, rfl, rfl⟩) (fun _ => rfl) (fun _ => rfl) dX9_init_26 (fun H locs hR hS => ?_)
  rw [← eσ14] at hR
  refine lv_aload_n hx hb dX9_init_29 rfl (lv_at hl 0 rfl) ?_
  refine lv_sipush (v := (200 : Int32)) hx hb dX9_init_30 rfl ?_
  obtain ⟨σ15, eσ15, hf⟩ := zl_s hf
  refine x_newI (L := 200) E hR hS caI (by decide) (by decide) (Nat.le_of_ble_eq_true rfl) (show cells + 1 + 1 + 1 + 1 ≤ 36 by omega) (show slots + 100 + 100 + 1400 + 200 ≤ 5567 by omega) dX9_init_33 (fun H hR hS => ?_)
  rw [← eσ15] at hR
  obtain ⟨hk16, hf⟩ := zc_s hf
  obtain ⟨σ17, eσ17, hf⟩ := zl_s hf
  refine x_putR E hR hS hk16 ok9 5 (Nat.le_of_ble_eq_true rfl) rfl fl_X9_19 (Or.inr ⟨rfl, rfl, rfl⟩) (fun _ => rfl) (fun _ => rfl) dX9_init_35 (fun H locs hR hS => ?_)
  rw [← eσ17] at hR
  refine lv_aload_n hx hb dX9_init_38 rfl (lv_at hl 0 rfl) ?_
  refine lv_iconst (v := (2 : Int32)) hx hb dX9_init_39 rfl ?_
  obtain ⟨σ18, eσ18, hf⟩ := zl_s hf
  refine x_newZ (L := 2) E hR hS caZ (by decide) (by decide) (Nat.le_of_ble_eq_true rfl) (show cells + 1 + 1 + 1 + 1 + 1 ≤ 36 by omega) (show slots + 100 + 100 + 1400 + 200 + 2 ≤ 5567 by omega) dX9_init_40 (fun H hR hS => ?_)
  rw [← eσ18] at hR
  obtain ⟨hk19, hf⟩ := zc_s hf
  obtain ⟨σ20, eσ20, hf⟩ := zl_s hf
  refine x_putR E hR hS hk19 ok9 6 (Nat.le_of_ble_eq_true rfl) rfl fl_X9_22 (Or.inr ⟨rfl, rfl, rfl⟩) (fun _ => rfl) (fun _ => rfl) dX9_init_42 (fun H locs hR hS => ?_)
  rw [← eσ20] at hR
  refine lv_aload_n hx hb dX9_init_45 rfl (lv_at hl 0 rfl) ?_
  refine lv_sipush (v := (200 : Int32)) hx hb dX9_init_46 rfl ?_
  obtain ⟨σ21, eσ21, hf⟩ := zl_s hf
  refine x_newI (L := 200) E hR hS caI (by decide) (by decide) (Nat.le_of_ble_eq_true rfl) (show cells + 1 + 1 + 1 + 1 + 1 + 1 ≤ 36 by omega) (show slots + 100 + 100 + 1400 + 200 + 2 + 200 ≤ 5567 by omega) dX9_init_49 (fun H hR hS => ?_)
  rw [← eσ21] at hR
  obtain ⟨hk22, hf⟩ := zc_s hf
  obtain ⟨σ23, eσ23, hf⟩ := zl_s hf
  refine x_putR E hR hS hk22 ok9 7 (Nat.le_of_ble_eq_true rfl) rfl fl_X9_26 (Or.inr ⟨rfl, rfl, rfl⟩) (fun _ => rfl) (fun _ => rfl) dX9_init_51 (fun H locs hR hS => ?_)
  rw [← eσ23] at hR
  refine lv_aload_n hx hb dX9_init_54 rfl (lv_at hl 0 rfl) ?_
  refine lv_sipush (v := (200 : Int32)) hx hb dX9_init_55 rfl ?_
  obtain ⟨σ24, eσ24, hf⟩ := zl_s hf
  refine x_newI (L := 200) E hR hS caI (by decide) (by decide) (Nat.le_of_ble_eq_true rfl) (show cells + 1 + 1 + 1 + 1 + 1 + 1 + 1 ≤ 36 by omega) (show slots + 100 + 100 + 1400 + 200 + 2 + 200 + 200 ≤ 5567 by omega) dX9_init_58 (fun H hR hS => ?_)
  rw [← eσ24] at hR
  obtain ⟨hk25, hf⟩ := zc_s hf
  obtain ⟨σ26, eσ26, hf⟩ := zl_s hf
  refine x_putR E hR hS hk25 ok9 8 (Nat.le_of_ble_eq_true rfl) rfl fl_X9_29 (Or.inr ⟨rfl, rfl, rfl⟩) (fun _ => rfl) (fun _ => rfl) dX9_init_60 (fun H locs hR hS => ?_)
  rw [← eσ26] at hR
  refine lv_aload_n hx hb dX9_init_63 rfl (lv_at hl 0 rfl) ?_
  refine lv_sipush (v := (200 : Int32)) hx hb dX9_init_64 rfl ?_
  obtain ⟨σ27, eσ27, hf⟩ := zl_s hf
  refine x_newI (L := 200) E hR hS caI (by decide) (by decide) (Nat.le_of_ble_eq_true rfl) (show cells + 1 + 1 + 1 + 1 + 1 + 1 + 1 + 1 ≤ 36 by omega) (show slots + 100 + 100 + 1400 + 200 + 2 + 200 + 200 + 200 ≤ 5567 by omega) dX9_init_67 (fun H hR hS => ?_)
  rw [← eσ27] at hR
  obtain ⟨hk28, hf⟩ := zc_s hf
  obtain ⟨σ29, eσ29, hf⟩ := zl_s hf
  refine x_putR E hR hS hk28 ok9 9 (Nat.le_of_ble_eq_true rfl) rfl fl_X9_32 (Or.inr ⟨rfl, rfl, rfl⟩) (fun _ => rfl) (fun _ => rfl) dX9_init_69 (fun H locs hR hS => ?_)
  rw [← eσ29] at hR
  refine lv_aload_n hx hb dX9_init_72 rfl (lv_at hl 0 rfl) ?_
  refine lv_sipush (v := (200 : Int32)) hx hb dX9_init_73 rfl ?_
  obtain ⟨σ30, eσ30, hf⟩ := zl_s hf
  refine x_newI (L := 200) E hR hS caI (by decide) (by decide) (Nat.le_of_ble_eq_true rfl) (show cells + 1 + 1 + 1 + 1 + 1 + 1 + 1 + 1 + 1 ≤ 36 by omega) (show slots + 100 + 100 + 1400 + 200 + 2 + 200 + 200 + 200 + 200 ≤ 5567 by omega) dX9_init_76 (fun H hR hS => ?_)
  rw [← eσ30] at hR
  obtain ⟨hk31, hf⟩ := zc_s hf
  obtain ⟨σ32, eσ32, hf⟩ := zl_s hf
  refine x_putR E hR hS hk31 ok9 10 (Nat.le_of_ble_eq_true rfl) rfl fl_X9_35 (Or.inr ⟨rfl, rfl, rfl⟩) (fun _ => rfl) (fun _ => rfl) dX9_init_78 (fun H locs hR hS => ?_)
  rw [← eσ32] at hR
  refine lv_aload_n hx hb dX9_init_81 rfl (lv_at hl 0 rfl) ?_
  refine lv_sipush (v := (200 : Int32)) hx hb dX9_init_82 rfl ?_
  obtain ⟨σ33, eσ33, hf⟩ := zl_s hf
  refine x_newI (L := 200) E hR hS caI (by decide) (by decide) (Nat.le_of_ble_eq_true rfl) (show cells + 1 + 1 + 1 + 1 + 1 + 1 + 1 + 1 + 1 + 1 ≤ 36 by omega) (show slots + 100 + 100 + 1400 + 200 + 2 + 200 + 200 + 200 + 200 + 200 ≤ 5567 by omega) dX9_init_85 (fun H hR hS => ?_)
  rw [← eσ33] at hR
  obtain ⟨hk34, hf⟩ := zc_s hf
  obtain ⟨σ35, eσ35, hf⟩ := zl_s hf
  refine x_putR E hR hS hk34 ok9 11 (Nat.le_of_ble_eq_true rfl) rfl fl_X9_38 (Or.inr ⟨rfl, rfl, rfl⟩) (fun _ => rfl) (fun _ => rfl) dX9_init_87 (fun H locs hR hS => ?_)
  rw [← eσ35] at hR
  refine lv_aload_n hx hb dX9_init_90 rfl (lv_at hl 0 rfl) ?_
  refine lv_sipush (v := (200 : Int32)) hx hb dX9_init_91 rfl ?_
  obtain ⟨σ36, eσ36, hf⟩ := zl_s hf
  refine x_newI (L := 200) E hR hS caI (by decide) (by decide) (Nat.le_of_ble_eq_true rfl) (show cells + 1 + 1 + 1 + 1 + 1 + 1 + 1 + 1 + 1 + 1 + 1 ≤ 36 by omega) (show slots + 100 + 100 + 1400 + 200 + 2 + 200 + 200 + 200 + 200 + 200 + 200 ≤ 5567 by omega) dX9_init_94 (fun H hR hS => ?_)
  rw [← eσ36] at hR
  obtain ⟨hk37, hf⟩ := zc_s hf
  obtain ⟨σ38, eσ38, hf⟩ := zl_s hf
  refine x_putR E hR hS hk37 ok9 12 (Nat.le_of_ble_eq_true rfl) rfl fl_X9_41 (Or.inr ⟨rfl, rfl, rfl⟩) (fun _ => rfl) (fun _ => rfl) dX9_init_96 (fun H locs hR hS => ?_)
  rw [← eσ38] at hR
  refine lv_aload_n hx hb dX9_init_99 rfl (lv_at hl 0 rfl) ?_
  refine lv_sipush (v := (200 : Int32)) hx hb dX9_init_100 rfl ?_
  obtain ⟨σ39, eσ39, hf⟩ := zl_s hf
  refine x_newI (L := 200) E hR hS caI (by decide) (by decide) (Nat.le_of_ble_eq_true rfl) (show cells + 1 + 1 + 1 + 1 + 1 + 1 + 1 + 1 + 1 + 1 + 1 + 1 ≤ 36 by omega) (show slots + 100 + 100 + 1400 + 200 + 2 + 200 + 200 + 200 + 200 + 200 + 200 + 200 ≤ 5567 by omega) dX9_init_103 (fun H hR hS => ?_)
  rw [← eσ39] at hR
  obtain ⟨hk40, hf⟩ := zc_s hf
  obtain ⟨σ41, eσ41, hf⟩ := zl_s hf
  refine x_putR E hR hS hk40 ok9 13 (Nat.le_of_ble_eq_true rfl) rfl fl_X9_44 (Or.inr ⟨rfl, rfl, rfl⟩) (fun _ => rfl) (fun _ => rfl) dX9_init_105 (fun H locs hR hS => ?_)
  rw [← eσ41] at hR
  refine lv_aload_n hx hb dX9_init_108 rfl (lv_at hl 0 rfl) ?_
  refine lv_sipush (v := (200 : Int32)) hx hb dX9_init_109 rfl ?_
  obtain ⟨σ42, eσ42, hf⟩ := zl_s hf
  refine x_newI (L := 200) E hR hS caI (by decide) (by decide) (Nat.le_of_ble_eq_true rfl) (show cells + 1 + 1 + 1 + 1 + 1 + 1 + 1 + 1 + 1 + 1 + 1 + 1 + 1 ≤ 36 by omega) (show slots + 100 + 100 + 1400 + 200 + 2 + 200 + 200 + 200 + 200 + 200 + 200 + 200 + 200 ≤ 5567 by omega) dX9_init_112 (fun H hR hS => ?_)
  rw [← eσ42] at hR
  obtain ⟨hk43, hf⟩ := zc_s hf
  obtain ⟨σ44, eσ44, hf⟩ := zl_s hf
  refine x_putR E hR hS hk43 ok9 14 (Nat.le_of_ble_eq_true rfl) rfl fl_X9_47 (Or.inr ⟨rfl, rfl, rfl⟩) (fun _ => rfl) (fun _ => rfl) dX9_init_114 (fun H locs hR hS => ?_)
  rw [← eσ44] at hR
  refine lv_aload_n hx hb dX9_init_117 rfl (lv_at hl 0 rfl) ?_
  refine lv_iconst (v := (2 : Int32)) hx hb dX9_init_118 rfl ?_
  obtain ⟨σ45, eσ45, hf⟩ := zl_s hf
  refine x_newI (L := 2) E hR hS caI (by decide) (by decide) (Nat.le_of_ble_eq_true rfl) (show cells + 1 + 1 + 1 + 1 + 1 + 1 + 1 + 1 + 1 + 1 + 1 + 1 + 1 + 1 ≤ 36 by omega) (show slots + 100 + 100 + 1400 + 200 + 2 + 200 + 200 + 200 + 200 + 200 + 200 + 200 + 200 + 2 ≤ 5567 by omega) dX9_init_119 (fun H hR hS => ?_)
  rw [← eσ45] at hR
  obtain ⟨hk46, hf⟩ := zc_s hf
  obtain ⟨σ47, eσ47, hf⟩ := zl_s hf
  refine x_putR E hR hS hk46 ok9 15 (Nat.le_of_ble_eq_true rfl) rfl fl_X9_50 (Or.inr ⟨rfl, rfl, rfl⟩) (fun _ => rfl) (fun _ => rfl) dX9_init_121 (fun H locs hR hS => ?_)
  rw [← eσ47] at hR
  refine lv_aload_n hx hb dX9_init_124 rfl (lv_at hl 0 rfl) ?_
  refine lv_bipush (v := (100 : Int32)) hx hb dX9_init_125 rfl ?_
  obtain ⟨σ48, eσ48, hf⟩ := zl_s hf
  refine x_newI (L := 100) E hR hS caI (by decide) (by decide) (Nat.le_of_ble_eq_true rfl) (show cells + 1 + 1 + 1 + 1 + 1 + 1 + 1 + 1 + 1 + 1 + 1 + 1 + 1 + 1 + 1 ≤ 36 by omega) (show slots + 100 + 100 + 1400 + 200 + 2 + 200 + 200 + 200 + 200 + 200 + 200 + 200 + 200 + 2 + 100 ≤ 5567 by omega) dX9_init_127 (fun H hR hS => ?_)
  rw [← eσ48] at hR
  obtain ⟨hk49, hf⟩ := zc_s hf
  obtain ⟨σ50, eσ50, hf⟩ := zl_s hf
  refine x_putR E hR hS hk49 ok9 16 (Nat.le_of_ble_eq_true rfl) rfl fl_X9_53 (Or.inr ⟨rfl, rfl, rfl⟩) (fun _ => rfl) (fun _ => rfl) dX9_init_129 (fun H locs hR hS => ?_)
  rw [← eσ50] at hR
  refine lv_aload_n hx hb dX9_init_132 rfl (lv_at hl 0 rfl) ?_
  refine lv_bipush (v := (110 : Int32)) hx hb dX9_init_133 rfl ?_
  obtain ⟨σ51, eσ51, hf⟩ := zl_s hf
  refine x_newI (L := 110) E hR hS caI (by decide) (by decide) (Nat.le_of_ble_eq_true rfl) (show cells + 1 + 1 + 1 + 1 + 1 + 1 + 1 + 1 + 1 + 1 + 1 + 1 + 1 + 1 + 1 + 1 ≤ 36 by omega) (show slots + 100 + 100 + 1400 + 200 + 2 + 200 + 200 + 200 + 200 + 200 + 200 + 200 + 200 + 2 + 100 + 110 ≤ 5567 by omega) dX9_init_135 (fun H hR hS => ?_)
  rw [← eσ51] at hR
  obtain ⟨hk52, hf⟩ := zc_s hf
  obtain ⟨σ53, eσ53, hf⟩ := zl_s hf
  refine x_putR E hR hS hk52 ok9 17 (Nat.le_of_ble_eq_true rfl) rfl fl_X9_56 (Or.inr ⟨rfl, rfl, rfl⟩) (fun _ => rfl) (fun _ => rfl) dX9_init_137 (fun H locs hR hS => ?_)
  rw [← eσ53] at hR
  refine lv_aload_n hx hb dX9_init_140 rfl (lv_at hl 0 rfl) ?_
  refine lv_bipush (v := (110 : Int32)) hx hb dX9_init_141 rfl ?_
  obtain ⟨σ54, eσ54, hf⟩ := zl_s hf
  refine x_newI (L := 110) E hR hS caI (by decide) (by decide) (Nat.le_of_ble_eq_true rfl) (show cells + 1 + 1 + 1 + 1 + 1 + 1 + 1 + 1 + 1 + 1 + 1 + 1 + 1 + 1 + 1 + 1 + 1 ≤ 36 by omega) (show slots + 100 + 100 + 1400 + 200 + 2 + 200 + 200 + 200 + 200 + 200 + 200 + 200 + 200 + 2 + 100 + 110 + 110 ≤ 5567 by omega) dX9_init_143 (fun H hR hS => ?_)
  rw [← eσ54] at hR
  obtain ⟨hk55, hf⟩ := zc_s hf
  obtain ⟨σ56, eσ56, hf⟩ := zl_s hf
  refine x_putR E hR hS hk55 ok9 18 (Nat.le_of_ble_eq_true rfl) rfl fl_X9_59 (Or.inr ⟨rfl, rfl, rfl⟩) (fun _ => rfl) (fun _ => rfl) dX9_init_145 (fun H locs hR hS => ?_)
  rw [← eσ56] at hR
  refine lv_aload_n hx hb dX9_init_148 rfl (lv_at hl 0 rfl) ?_
  refine lv_bipush (v := (110 : Int32)) hx hb dX9_init_149 rfl ?_
  obtain ⟨σ57, eσ57, hf⟩ := zl_s hf
  refine x_newI (L := 110) E hR hS caI (by decide) (by decide) (Nat.le_of_ble_eq_true rfl) (show cells + 1 + 1 + 1 + 1 + 1 + 1 + 1 + 1 + 1 + 1 + 1 + 1 + 1 + 1 + 1 + 1 + 1 + 1 ≤ 36 by omega) (show slots + 100 + 100 + 1400 + 200 + 2 + 200 + 200 + 200 + 200 + 200 + 200 + 200 + 200 + 2 + 100 + 110 + 110 + 110 ≤ 5567 by omega) dX9_init_151 (fun H hR hS => ?_)
  rw [← eσ57] at hR
  obtain ⟨hk58, hf⟩ := zc_s hf
  obtain ⟨σ59, eσ59, hf⟩ := zl_s hf
  refine x_putR E hR hS hk58 ok9 19 (Nat.le_of_ble_eq_true rfl) rfl fl_X9_62 (Or.inr ⟨rfl, rfl, rfl⟩) (fun _ => rfl) (fun _ => rfl) dX9_init_153 (fun H locs hR hS => ?_)
  rw [← eσ59] at hR
  refine lv_aload_n hx hb dX9_init_156 rfl (lv_at hl 0 rfl) ?_
  refine lv_bipush (v := (110 : Int32)) hx hb dX9_init_157 rfl ?_
  obtain ⟨σ60, eσ60, hf⟩ := zl_s hf
  refine x_newI (L := 110) E hR hS caI (by decide) (by decide) (Nat.le_of_ble_eq_true rfl) (show cells + 1 + 1 + 1 + 1 + 1 + 1 + 1 + 1 + 1 + 1 + 1 + 1 + 1 + 1 + 1 + 1 + 1 + 1 + 1 ≤ 36 by omega) (show slots + 100 + 100 + 1400 + 200 + 2 + 200 + 200 + 200 + 200 + 200 + 200 + 200 + 200 + 2 + 100 + 110 + 110 + 110 + 110 ≤ 5567 by omega) dX9_init_159 (fun H hR hS => ?_)
  rw [← eσ60] at hR
  obtain ⟨hk61, hf⟩ := zc_s hf
  obtain ⟨σ62, eσ62, hf⟩ := zl_s hf
  refine x_putR E hR hS hk61 ok9 20 (Nat.le_of_ble_eq_true rfl) rfl fl_X9_65 (Or.inr ⟨rfl, rfl, rfl⟩) (fun _ => rfl) (fun _ => rfl) dX9_init_161 (fun H locs hR hS => ?_)
  rw [← eσ62] at hR
  refine lv_aload_n hx hb dX9_init_164 rfl (lv_at hl 0 rfl) ?_
  refine lv_bipush (v := (100 : Int32)) hx hb dX9_init_165 rfl ?_
  obtain ⟨σ63, eσ63, hf⟩ := zl_s hf
  refine x_newI (L := 100) E hR hS caI (by decide) (by decide) (Nat.le_of_ble_eq_true rfl) (show cells + 1 + 1 + 1 + 1 + 1 + 1 + 1 + 1 + 1 + 1 + 1 + 1 + 1 + 1 + 1 + 1 + 1 + 1 + 1 + 1 ≤ 36 by omega) (show slots + 100 + 100 + 1400 + 200 + 2 + 200 + 200 + 200 + 200 + 200 + 200 + 200 + 200 + 2 + 100 + 110 + 110 + 110 + 110 + 100 ≤ 5567 by omega) dX9_init_167 (fun H hR hS => ?_)
  rw [← eσ63] at hR
  obtain ⟨hk64, hf⟩ := zc_s hf
  obtain ⟨σ65, eσ65, hf⟩ := zl_s hf
  refine x_putR E hR hS hk64 ok9 22 (Nat.le_of_ble_eq_true rfl) rfl fl_X9_68 (Or.inr ⟨rfl, rfl, rfl⟩) (fun _ => rfl) (fun _ => rfl) dX9_init_169 (fun H locs hR hS => ?_)
  rw [← eσ65] at hR
  refine lv_aload_n hx hb dX9_init_172 rfl (lv_at hl 0 rfl) ?_
  refine lv_bipush (v := (100 : Int32)) hx hb dX9_init_173 rfl ?_
  obtain ⟨σ66, eσ66, hf⟩ := zl_s hf
  refine x_newI (L := 100) E hR hS caI (by decide) (by decide) (Nat.le_of_ble_eq_true rfl) (show cells + 1 + 1 + 1 + 1 + 1 + 1 + 1 + 1 + 1 + 1 + 1 + 1 + 1 + 1 + 1 + 1 + 1 + 1 + 1 + 1 + 1 ≤ 36 by omega) (show slots + 100 + 100 + 1400 + 200 + 2 + 200 + 200 + 200 + 200 + 200 + 200 + 200 + 200 + 2 + 100 + 110 + 110 + 110 + 110 + 100 + 100 ≤ 5567 by omega) dX9_init_175 (fun H hR hS => ?_)
  rw [← eσ66] at hR
  obtain ⟨hk67, hf⟩ := zc_s hf
  obtain ⟨σ68, eσ68, hf⟩ := zl_s hf
  refine x_putR E hR hS hk67 ok9 24 (Nat.le_of_ble_eq_true rfl) rfl fl_X9_71 (Or.inr ⟨rfl, rfl, rfl⟩) (fun _ => rfl) (fun _ => rfl) dX9_init_177 (fun H locs hR hS => ?_)
  rw [← eσ68] at hR
  refine lv_aload_n hx hb dX9_init_180 rfl (lv_at hl 0 rfl) ?_
  refine lv_bipush (v := (8 : Int32)) hx hb dX9_init_181 rfl ?_
  obtain ⟨σ69, eσ69, hf⟩ := zl_s hf
  refine x_newI (L := 8) E hR hS caI (by decide) (by decide) (Nat.le_of_ble_eq_true rfl) (show cells + 1 + 1 + 1 + 1 + 1 + 1 + 1 + 1 + 1 + 1 + 1 + 1 + 1 + 1 + 1 + 1 + 1 + 1 + 1 + 1 + 1 + 1 ≤ 36 by omega) (show slots + 100 + 100 + 1400 + 200 + 2 + 200 + 200 + 200 + 200 + 200 + 200 + 200 + 200 + 2 + 100 + 110 + 110 + 110 + 110 + 100 + 100 + 8 ≤ 5567 by omega) dX9_init_183 (fun H hR hS => ?_)
  rw [← eσ69] at hR
  obtain ⟨hk70, hf⟩ := zc_s hf
  obtain ⟨σ71, eσ71, hf⟩ := zl_s hf
  refine x_putR E hR hS hk70 ok9 27 (Nat.le_of_ble_eq_true rfl) rfl fl_X9_74 (Or.inr ⟨rfl, rfl, rfl⟩) (fun _ => rfl) (fun _ => rfl) dX9_init_185 (fun H locs hR hS => ?_)
  rw [← eσ71] at hR
  refine lv_aload_n hx hb dX9_init_188 rfl (lv_at hl 0 rfl) ?_
  refine lv_bipush (v := (100 : Int32)) hx hb dX9_init_189 rfl ?_
  obtain ⟨σ72, eσ72, hf⟩ := zl_s hf
  refine x_newI (L := 100) E hR hS caI (by decide) (by decide) (Nat.le_of_ble_eq_true rfl) (show cells + 1 + 1 + 1 + 1 + 1 + 1 + 1 + 1 + 1 + 1 + 1 + 1 + 1 + 1 + 1 + 1 + 1 + 1 + 1 + 1 + 1 + 1 + 1 ≤ 36 by omega) (show slots + 100 + 100 + 1400 + 200 + 2 + 200 + 200 + 200 + 200 + 200 + 200 + 200 + 200 + 2 + 100 + 110 + 110 + 110 + 110 + 100 + 100 + 8 + 100 ≤ 5567 by omega) dX9_init_191 (fun H hR hS => ?_)
  rw [← eσ72] at hR
  obtain ⟨hk73, hf⟩ := zc_s hf
  obtain ⟨σ74, eσ74, hf⟩ := zl_s hf
  refine x_putR E hR hS hk73 ok9 29 (Nat.le_of_ble_eq_true rfl) rfl fl_X9_77 (Or.inr ⟨rfl, rfl, rfl⟩) (fun _ => rfl) (fun _ => rfl) dX9_init_193 (fun H locs hR hS => ?_)
  rw [← eσ74] at hR
  refine lv_aload_n hx hb dX9_init_196 rfl (lv_at hl 0 rfl) ?_
  refine lv_bipush (v := (100 : Int32)) hx hb dX9_init_197 rfl ?_
  obtain ⟨σ75, eσ75, hf⟩ := zl_s hf
  refine x_newI (L := 100) E hR hS caI (by decide) (by decide) (Nat.le_of_ble_eq_true rfl) (show cells + 1 + 1 + 1 + 1 + 1 + 1 + 1 + 1 + 1 + 1 + 1 + 1 + 1 + 1 + 1 + 1 + 1 + 1 + 1 + 1 + 1 + 1 + 1 + 1 ≤ 36 by omega) (show slots + 100 + 100 + 1400 + 200 + 2 + 200 + 200 + 200 + 200 + 200 + 200 + 200 + 200 + 2 + 100 + 110 + 110 + 110 + 110 + 100 + 100 + 8 + 100 + 100 ≤ 5567 by omega) dX9_init_199 (fun H hR hS => ?_)
  rw [← eσ75] at hR
  obtain ⟨hk76, hf⟩ := zc_s hf
  obtain ⟨σ77, eσ77, hf⟩ := zl_s hf
  refine x_putR E hR hS hk76 ok9 30 (Nat.le_of_ble_eq_true rfl) rfl fl_X9_80 (Or.inr ⟨rfl, rfl, rfl⟩) (fun _ => rfl) (fun _ => rfl) dX9_init_201 (fun H locs hR hS => ?_)
  rw [← eσ77] at hR
  refine lv_aload_n hx hb dX9_init_204 rfl (lv_at hl 0 rfl) ?_
  refine lv_bipush (v := (100 : Int32)) hx hb dX9_init_205 rfl ?_
  obtain ⟨σ78, eσ78, hf⟩ := zl_s hf
  refine x_newI (L := 100) E hR hS caI (by decide) (by decide) (Nat.le_of_ble_eq_true rfl) (show cells + 1 + 1 + 1 + 1 + 1 + 1 + 1 + 1 + 1 + 1 + 1 + 1 + 1 + 1 + 1 + 1 + 1 + 1 + 1 + 1 + 1 + 1 + 1 + 1 + 1 ≤ 36 by omega) (show slots + 100 + 100 + 1400 + 200 + 2 + 200 + 200 + 200 + 200 + 200 + 200 + 200 + 200 + 2 + 100 + 110 + 110 + 110 + 110 + 100 + 100 + 8 + 100 + 100 + 100 ≤ 5567 by omega) dX9_init_207 (fun H hR hS => ?_)
  rw [← eσ78] at hR
  obtain ⟨hk79, hf⟩ := zc_s hf
  obtain ⟨σ80, eσ80, hf⟩ := zl_s hf
  refine x_putR E hR hS hk79 ok9 31 (Nat.le_of_ble_eq_true rfl) rfl fl_X9_83 (Or.inr ⟨rfl, rfl, rfl⟩) (fun _ => rfl) (fun _ => rfl) dX9_init_209 (fun H locs hR hS => ?_)
  rw [← eσ80] at hR
  refine lv_aload_n hx hb dX9_init_212 rfl (lv_at hl 0 rfl) ?_
  refine lv_bipush (v := (100 : Int32)) hx hb dX9_init_213 rfl ?_
  obtain ⟨σ81, eσ81, hf⟩ := zl_s hf
  refine x_newI (L := 100) E hR hS caI (by decide) (by decide) (Nat.le_of_ble_eq_true rfl) (show cells + 1 + 1 + 1 + 1 + 1 + 1 + 1 + 1 + 1 + 1 + 1 + 1 + 1 + 1 + 1 + 1 + 1 + 1 + 1 + 1 + 1 + 1 + 1 + 1 + 1 + 1 ≤ 36 by omega) (show slots + 100 + 100 + 1400 + 200 + 2 + 200 + 200 + 200 + 200 + 200 + 200 + 200 + 200 + 2 + 100 + 110 + 110 + 110 + 110 + 100 + 100 + 8 + 100 + 100 + 100 + 100 ≤ 5567 by omega) dX9_init_215 (fun H hR hS => ?_)
  rw [← eσ81] at hR
  obtain ⟨hk82, hf⟩ := zc_s hf
  obtain ⟨σ83, eσ83, hf⟩ := zl_s hf
  refine x_putR E hR hS hk82 ok9 32 (Nat.le_of_ble_eq_true rfl) rfl fl_X9_86 (Or.inr ⟨rfl, rfl, rfl⟩) (fun _ => rfl) (fun _ => rfl) dX9_init_217 (fun H locs hR hS => ?_)
  rw [← eσ83] at hR
  refine lv_aload_n hx hb dX9_init_220 rfl (lv_at hl 0 rfl) ?_
  refine lv_bipush (v := (100 : Int32)) hx hb dX9_init_221 rfl ?_
  obtain ⟨σ84, eσ84, hf⟩ := zl_s hf
  refine x_newI (L := 100) E hR hS caI (by decide) (by decide) (Nat.le_of_ble_eq_true rfl) (show cells + 1 + 1 + 1 + 1 + 1 + 1 + 1 + 1 + 1 + 1 + 1 + 1 + 1 + 1 + 1 + 1 + 1 + 1 + 1 + 1 + 1 + 1 + 1 + 1 + 1 + 1 + 1 ≤ 36 by omega) (show slots + 100 + 100 + 1400 + 200 + 2 + 200 + 200 + 200 + 200 + 200 + 200 + 200 + 200 + 2 + 100 + 110 + 110 + 110 + 110 + 100 + 100 + 8 + 100 + 100 + 100 + 100 + 100 ≤ 5567 by omega) dX9_init_223 (fun H hR hS => ?_)
  rw [← eσ84] at hR
  obtain ⟨hk85, hf⟩ := zc_s hf
  obtain ⟨σ86, eσ86, hf⟩ := zl_s hf
  refine x_putR E hR hS hk85 ok9 33 (Nat.le_of_ble_eq_true rfl) rfl fl_X9_89 (Or.inr ⟨rfl, rfl, rfl⟩) (fun _ => rfl) (fun _ => rfl) dX9_init_225 (fun H locs hR hS => ?_)
  rw [← eσ86] at hR
  refine lv_aload_n hx hb dX9_init_228 rfl (lv_at hl 0 rfl) ?_
  refine lv_bipush (v := (100 : Int32)) hx hb dX9_init_229 rfl ?_
  obtain ⟨σ87, eσ87, hf⟩ := zl_s hf
  refine x_newI (L := 100) E hR hS caI (by decide) (by decide) (Nat.le_of_ble_eq_true rfl) (show cells + 1 + 1 + 1 + 1 + 1 + 1 + 1 + 1 + 1 + 1 + 1 + 1 + 1 + 1 + 1 + 1 + 1 + 1 + 1 + 1 + 1 + 1 + 1 + 1 + 1 + 1 + 1 + 1 ≤ 36 by omega) (show slots + 100 + 100 + 1400 + 200 + 2 + 200 + 200 + 200 + 200 + 200 + 200 + 200 + 200 + 2 + 100 + 110 + 110 + 110 + 110 + 100 + 100 + 8 + 100 + 100 + 100 + 100 + 100 + 100 ≤ 5567 by omega) dX9_init_231 (fun H hR hS => ?_)
  rw [← eσ87] at hR
  obtain ⟨hk88, hf⟩ := zc_s hf
  obtain ⟨σ89, eσ89, hf⟩ := zl_s hf
  refine x_putR E hR hS hk88 ok9 34 (Nat.le_of_ble_eq_true rfl) rfl fl_X9_92 (Or.inr ⟨rfl, rfl, rfl⟩) (fun _ => rfl) (fun _ => rfl) dX9_init_233 (fun H locs hR hS => ?_)
  rw [← eσ89] at hR
  refine lv_aload_n hx hb dX9_init_236 rfl (lv_at hl 0 rfl) ?_
  refine lv_bipush (v := (100 : Int32)) hx hb dX9_init_237 rfl ?_
  obtain ⟨σ90, eσ90, hf⟩ := zl_s hf
  refine x_newI (L := 100) E hR hS caI (by decide) (by decide) (Nat.le_of_ble_eq_true rfl) (show cells + 1 + 1 + 1 + 1 + 1 + 1 + 1 + 1 + 1 + 1 + 1 + 1 + 1 + 1 + 1 + 1 + 1 + 1 + 1 + 1 + 1 + 1 + 1 + 1 + 1 + 1 + 1 + 1 + 1 ≤ 36 by omega) (show slots + 100 + 100 + 1400 + 200 + 2 + 200 + 200 + 200 + 200 + 200 + 200 + 200 + 200 + 2 + 100 + 110 + 110 + 110 + 110 + 100 + 100 + 8 + 100 + 100 + 100 + 100 + 100 + 100 + 100 ≤ 5567 by omega) dX9_init_239 (fun H hR hS => ?_)
  rw [← eσ90] at hR
  obtain ⟨hk91, hf⟩ := zc_s hf
  obtain ⟨σ92, eσ92, hf⟩ := zl_s hf
  refine x_putR E hR hS hk91 ok9 35 (Nat.le_of_ble_eq_true rfl) rfl fl_X9_95 (Or.inr ⟨rfl, rfl, rfl⟩) (fun _ => rfl) (fun _ => rfl) dX9_init_241 (fun H locs hR hS => ?_)
  rw [← eσ92] at hR
  refine lv_aload_n hx hb dX9_init_244 rfl (lv_at hl 0 rfl) ?_
  refine lv_bipush (v := (102 : Int32)) hx hb dX9_init_245 rfl ?_
  obtain ⟨σ93, eσ93, hf⟩ := zl_s hf
  refine x_newI (L := 102) E hR hS caI (by decide) (by decide) (Nat.le_of_ble_eq_true rfl) (show cells + 1 + 1 + 1 + 1 + 1 + 1 + 1 + 1 + 1 + 1 + 1 + 1 + 1 + 1 + 1 + 1 + 1 + 1 + 1 + 1 + 1 + 1 + 1 + 1 + 1 + 1 + 1 + 1 + 1 + 1 ≤ 36 by omega) (show slots + 100 + 100 + 1400 + 200 + 2 + 200 + 200 + 200 + 200 + 200 + 200 + 200 + 200 + 2 + 100 + 110 + 110 + 110 + 110 + 100 + 100 + 8 + 100 + 100 + 100 + 100 + 100 + 100 + 100 + 102 ≤ 5567 by omega) dX9_init_247 (fun H hR hS => ?_)
  rw [← eσ93] at hR
  obtain ⟨hk94, hf⟩ := zc_s hf
  obtain ⟨σ95, eσ95, hf⟩ := zl_s hf
  refine x_putR E hR hS hk94 ok9 38 (Nat.le_of_ble_eq_true rfl) rfl fl_X9_98 (Or.inr ⟨rfl, rfl, rfl⟩) (fun _ => rfl) (fun _ => rfl) dX9_init_249 (fun H locs hR hS => ?_)
  rw [← eσ95] at hR
  refine lv_aload_n hx hb dX9_init_252 rfl (lv_at hl 0 rfl) ?_
  refine lv_bipush (v := (102 : Int32)) hx hb dX9_init_253 rfl ?_
  obtain ⟨σ96, eσ96, hf⟩ := zl_s hf
  refine x_newI (L := 102) E hR hS caI (by decide) (by decide) (Nat.le_of_ble_eq_true rfl) (show cells + 1 + 1 + 1 + 1 + 1 + 1 + 1 + 1 + 1 + 1 + 1 + 1 + 1 + 1 + 1 + 1 + 1 + 1 + 1 + 1 + 1 + 1 + 1 + 1 + 1 + 1 + 1 + 1 + 1 + 1 + 1 ≤ 36 by omega) (show slots + 100 + 100 + 1400 + 200 + 2 + 200 + 200 + 200 + 200 + 200 + 200 + 200 + 200 + 2 + 100 + 110 + 110 + 110 + 110 + 100 + 100 + 8 + 100 + 100 + 100 + 100 + 100 + 100 + 100 + 102 + 102 ≤ 5567 by omega) dX9_init_255 (fun H hR hS => ?_)
  rw [← eσ96] at hR
  obtain ⟨hk97, hf⟩ := zc_s hf
  obtain ⟨σ98, eσ98, hf⟩ := zl_s hf
  refine x_putR E hR hS hk97 ok9 39 (Nat.le_of_ble_eq_true rfl) rfl fl_X9_101 (Or.inr ⟨rfl, rfl, rfl⟩) (fun _ => rfl) (fun _ => rfl) dX9_init_257 (fun H locs hR hS => ?_)
  rw [← eσ98] at hR
  refine lv_aload_n hx hb dX9_init_260 rfl (lv_at hl 0 rfl) ?_
  refine lv_bipush (v := (103 : Int32)) hx hb dX9_init_261 rfl ?_
  obtain ⟨σ99, eσ99, hf⟩ := zl_s hf
  refine x_newI (L := 103) E hR hS caI (by decide) (by decide) (Nat.le_of_ble_eq_true rfl) (show cells + 1 + 1 + 1 + 1 + 1 + 1 + 1 + 1 + 1 + 1 + 1 + 1 + 1 + 1 + 1 + 1 + 1 + 1 + 1 + 1 + 1 + 1 + 1 + 1 + 1 + 1 + 1 + 1 + 1 + 1 + 1 + 1 ≤ 36 by omega) (show slots + 100 + 100 + 1400 + 200 + 2 + 200 + 200 + 200 + 200 + 200 + 200 + 200 + 200 + 2 + 100 + 110 + 110 + 110 + 110 + 100 + 100 + 8 + 100 + 100 + 100 + 100 + 100 + 100 + 100 + 102 + 102 + 103 ≤ 5567 by omega) dX9_init_263 (fun H hR hS => ?_)
  rw [← eσ99] at hR
  obtain ⟨hk100, hf⟩ := zc_s hf
  obtain ⟨σ101, eσ101, hf⟩ := zl_s hf
  refine x_putR E hR hS hk100 ok9 40 (Nat.le_of_ble_eq_true rfl) rfl fl_X9_104 (Or.inr ⟨rfl, rfl, rfl⟩) (fun _ => rfl) (fun _ => rfl) dX9_init_265 (fun H locs hR hS => ?_)
  rw [← eσ101] at hR
  refine lv_aload_n hx hb dX9_init_268 rfl (lv_at hl 0 rfl) ?_
  refine lv_bipush (v := (102 : Int32)) hx hb dX9_init_269 rfl ?_
  obtain ⟨σ102, eσ102, hf⟩ := zl_s hf
  refine x_newI (L := 102) E hR hS caI (by decide) (by decide) (Nat.le_of_ble_eq_true rfl) (show cells + 1 + 1 + 1 + 1 + 1 + 1 + 1 + 1 + 1 + 1 + 1 + 1 + 1 + 1 + 1 + 1 + 1 + 1 + 1 + 1 + 1 + 1 + 1 + 1 + 1 + 1 + 1 + 1 + 1 + 1 + 1 + 1 + 1 ≤ 36 by omega) (show slots + 100 + 100 + 1400 + 200 + 2 + 200 + 200 + 200 + 200 + 200 + 200 + 200 + 200 + 2 + 100 + 110 + 110 + 110 + 110 + 100 + 100 + 8 + 100 + 100 + 100 + 100 + 100 + 100 + 100 + 102 + 102 + 103 + 102 ≤ 5567 by omega) dX9_init_271 (fun H hR hS => ?_)
  rw [← eσ102] at hR
  obtain ⟨hk103, hf⟩ := zc_s hf
  obtain ⟨σ104, eσ104, hf⟩ := zl_s hf
  refine x_putR E hR hS hk103 ok9 42 (Nat.le_of_ble_eq_true rfl) rfl fl_X9_107 (Or.inr ⟨rfl, rfl, rfl⟩) (fun _ => rfl) (fun _ => rfl) dX9_init_273 (fun H locs hR hS => ?_)
  rw [← eσ104] at hR
  refine lv_aload_n hx hb dX9_init_276 rfl (lv_at hl 0 rfl) ?_
  refine lv_bipush (v := (102 : Int32)) hx hb dX9_init_277 rfl ?_
  obtain ⟨σ105, eσ105, hf⟩ := zl_s hf
  refine x_newI (L := 102) E hR hS caI (by decide) (by decide) (Nat.le_of_ble_eq_true rfl) (show cells + 1 + 1 + 1 + 1 + 1 + 1 + 1 + 1 + 1 + 1 + 1 + 1 + 1 + 1 + 1 + 1 + 1 + 1 + 1 + 1 + 1 + 1 + 1 + 1 + 1 + 1 + 1 + 1 + 1 + 1 + 1 + 1 + 1 + 1 ≤ 36 by omega) (show slots + 100 + 100 + 1400 + 200 + 2 + 200 + 200 + 200 + 200 + 200 + 200 + 200 + 200 + 2 + 100 + 110 + 110 + 110 + 110 + 100 + 100 + 8 + 100 + 100 + 100 + 100 + 100 + 100 + 100 + 102 + 102 + 103 + 102 + 102 ≤ 5567 by omega) dX9_init_279 (fun H hR hS => ?_)
  rw [← eσ105] at hR
  obtain ⟨hk106, hf⟩ := zc_s hf
  obtain ⟨σ107, eσ107, hf⟩ := zl_s hf
  refine x_putR E hR hS hk106 ok9 43 (Nat.le_of_ble_eq_true rfl) rfl fl_X9_110 (Or.inr ⟨rfl, rfl, rfl⟩) (fun _ => rfl) (fun _ => rfl) dX9_init_281 (fun H locs hR hS => ?_)
  rw [← eσ107] at hR
  refine lv_aload_n hx hb dX9_init_284 rfl (lv_at hl 0 rfl) ?_
  refine lv_bipush (v := (102 : Int32)) hx hb dX9_init_285 rfl ?_
  obtain ⟨σ108, eσ108, hf⟩ := zl_s hf
  refine x_newI (L := 102) E hR hS caI (by decide) (by decide) (Nat.le_of_ble_eq_true rfl) (show cells + 1 + 1 + 1 + 1 + 1 + 1 + 1 + 1 + 1 + 1 + 1 + 1 + 1 + 1 + 1 + 1 + 1 + 1 + 1 + 1 + 1 + 1 + 1 + 1 + 1 + 1 + 1 + 1 + 1 + 1 + 1 + 1 + 1 + 1 + 1 ≤ 36 by omega) (show slots + 100 + 100 + 1400 + 200 + 2 + 200 + 200 + 200 + 200 + 200 + 200 + 200 + 200 + 2 + 100 + 110 + 110 + 110 + 110 + 100 + 100 + 8 + 100 + 100 + 100 + 100 + 100 + 100 + 100 + 102 + 102 + 103 + 102 + 102 + 102 ≤ 5567 by omega) dX9_init_287 (fun H hR hS => ?_)
  rw [← eσ108] at hR
  obtain ⟨hk109, hf⟩ := zc_s hf
  obtain ⟨σ110, eσ110, hf⟩ := zl_s hf
  refine x_putR E hR hS hk109 ok9 44 (Nat.le_of_ble_eq_true rfl) rfl fl_X9_113 (Or.inr ⟨rfl, rfl, rfl⟩) (fun _ => rfl) (fun _ => rfl) dX9_init_289 (fun H locs hR hS => ?_)
  rw [← eσ110] at hR
  refine lv_aload_n hx hb dX9_init_292 rfl (lv_at hl 0 rfl) ?_
  refine lv_bipush (v := (102 : Int32)) hx hb dX9_init_293 rfl ?_
  obtain ⟨σ111, eσ111, hf⟩ := zl_s hf
  refine x_newI (L := 102) E hR hS caI (by decide) (by decide) (Nat.le_of_ble_eq_true rfl) (show cells + 1 + 1 + 1 + 1 + 1 + 1 + 1 + 1 + 1 + 1 + 1 + 1 + 1 + 1 + 1 + 1 + 1 + 1 + 1 + 1 + 1 + 1 + 1 + 1 + 1 + 1 + 1 + 1 + 1 + 1 + 1 + 1 + 1 + 1 + 1 + 1 ≤ 36 by omega) (show slots + 100 + 100 + 1400 + 200 + 2 + 200 + 200 + 200 + 200 + 200 + 200 + 200 + 200 + 2 + 100 + 110 + 110 + 110 + 110 + 100 + 100 + 8 + 100 + 100 + 100 + 100 + 100 + 100 + 100 + 102 + 102 + 103 + 102 + 102 + 102 + 102 ≤ 5567 by omega) dX9_init_295 (fun H hR hS => ?_)
  rw [← eσ111] at hR
  obtain ⟨hk112, hf⟩ := zc_s hf
  obtain ⟨σ113, eσ113, hf⟩ := zl_s hf
  refine x_putR E hR hS hk112 ok9 45 (Nat.le_of_ble_eq_true rfl) rfl fl_X9_116 (Or.inr ⟨rfl, rfl, rfl⟩) (fun _ => rfl) (fun _ => rfl) dX9_init_297 (fun H locs hR hS => ?_)
  rw [← eσ113] at hR
  refine lv_iconst (v := (0 : Int32)) hx hb dX9_init_300 rfl ?_
  refine lv_istore_n (lv' := [(1, .int (0 : Int32)), (0, .ref (gB g + v0))]) hx hb dX9_init_301 rfl hl (Nat.le_of_ble_eq_true rfl) rfl (fun ls hl => ?_)
  exact V_X9_init_302  1000 _ _ _ _ _ hf p e s m args below meth c _ _ _ _ _ E hR hS (lv_sub hl [1, 0] rfl) (show cells + 1 + 1 + 1 + 1 + 1 + 1 + 1 + 1 + 1 + 1 + 1 + 1 + 1 + 1 + 1 + 1 + 1 + 1 + 1 + 1 + 1 + 1 + 1 + 1 + 1 + 1 + 1 + 1 + 1 + 1 + 1 + 1 + 1 + 1 + 1 + 1 + (1000 * 0 + 0) ≤ 36 by omega) (show slots + 100 + 100 + 1400 + 200 + 2 + 200 + 200 + 200 + 200 + 200 + 200 + 200 + 200 + 2 + 100 + 110 + 110 + 110 + 110 + 100 + 100 + 8 + 100 + 100 + 100 + 100 + 100 + 100 + 100 + 102 + 102 + 103 + 102 + 102 + 102 + 102 + (1000 * 0 + 0) ≤ 5567 by omega)
theorem C_X9_init {g : GG} {v0 : Nat} {σ : Mm} {r : Unit} {σ' : Mm} (hf : f_X9_init v0 σ = some (r, σ')) : Ct g yX9_init cX9_init 2 none rm_X9_init [.ref (gB g + v0)] σ none σ' :=
  Ct.of true (by decide +kernel) (fun _ => rfl) (Nat.le_of_ble_eq_true rfl) (V_X9_init_0 _ _ _ _ hf 36 5567 ⟨Nat.le_of_ble_eq_true rfl, Nat.le_of_ble_eq_true rfl⟩)
abbrev rm_X9_in : Room := { frames := 0, cells := 0, slots := 0, locals := 0 }
set_option maxRecDepth 100000 in
def f_X9_in (v0 : Int64) (v2 : Int64) (v4 : Int64) (σ : Mm) : Option (Int32 × Mm) :=
  if (lg_cmp v0 v2) < 0 then (some ((0 : Int32), σ)) else (if 0 < (lg_cmp v0 v4) then (some ((0 : Int32), σ)) else (some ((1 : Int32), σ)))
set_option maxRecDepth 100000 in
set_option maxHeartbeats 4000000 in
theorem V_X9_in_0 {g : GG} (v0 : Int64) (v2 : Int64) (v4 : Int64) (σ : Mm) (r : Int32) (σ' : Mm) (hf : f_X9_in v0 v2 v4 σ = some (r, σ')) : VJ g RX9 cX9_in 6 (some .boolean) false rm_X9_in (some (.int r)) σ' (0) (0) 0 [(0, .long v0), (2, .long v2), (4, .long v4)] [] σ := by
  intro p e s m args below meth c H locs cells slots ls E hR hS hl hc hs
  obtain ⟨hx, hb, hml, hr, hlocks, hown, hts, hin, hT⟩ := id E
  unfold f_X9_in at hf
  refine lv_lload_n hx hb dX9_in_0 rfl (lv_at hl 0 rfl) ?_
  refine lv_lload_n hx hb dX9_in_1 rfl (lv_at hl 1 rfl) ?_
  refine W.lcmp hx hb dX9_in_2 ?_
  refine lv_if_lt (tgt := 17) hx hb dX9_in_3 (by decide) (fun hq1 => ?_) (fun hq1 => ?_)
  · have hf := ite_p hq1 hf
    refine lv_iconst (v := (0 : Int32)) hx hb dX9_in_17 rfl ?_
    obtain ⟨hr1, hs1⟩ := Prod.mk.inj (Option.some.inj hf)
    exact xr_z E hR hS rfl rfl (by rw [hr1]) hs1.symm hc hs dX9_in_18
  · have hf := ite_n hq1 hf
    refine lv_lload_n hx hb dX9_in_6 rfl (lv_at hl 0 rfl) ?_
    refine lv_lload hx hb dX9_in_7 (lv_at hl 2 rfl) ?_
    refine W.lcmp hx hb dX9_in_9 ?_
    refine lv_if_gt (tgt := 17) hx hb dX9_in_10 (by decide) (fun hq2 => ?_) (fun hq2 => ?_)
    · have hf := ite_p hq2 hf
      refine lv_iconst (v := (0 : Int32)) hx hb dX9_in_17 rfl ?_
      obtain ⟨hr1, hs1⟩ := Prod.mk.inj (Option.some.inj hf)
      exact xr_z E hR hS rfl rfl (by rw [hr1]) hs1.symm hc hs dX9_in_18
    · have hf := ite_n hq2 hf
      refine lv_iconst (v := (1 : Int32)) hx hb dX9_in_13 rfl ?_
      refine lv_goto (tgt := 18) hx hb dX9_in_14 (by decide) ?_
      obtain ⟨hr1, hs1⟩ := Prod.mk.inj (Option.some.inj hf)
      exact xr_z E hR hS rfl rfl (by rw [hr1]) hs1.symm hc hs dX9_in_18
theorem C_X9_in {g : GG} {v0 : Int64} {v2 : Int64} {v4 : Int64} {σ : Mm} {r : Int32} {σ' : Mm} (hf : f_X9_in v0 v2 v4 σ = some (r, σ')) : Ct g yX9_in cX9_in 6 (some .boolean) rm_X9_in [.long v0, .long v2, .long v4] σ (some (.int r)) σ' :=
  Ct.of false (by decide +kernel) (fun h => by cases h) (Nat.le_of_ble_eq_true rfl) (V_X9_in_0 _ _ _ _ _ _ hf)
abbrev rm_X9_isNumber : Room := { frames := 1, cells := 0, slots := 0, locals := 25 }
set_option maxRecDepth 100000 in
def f_X9_isNumber (v0 : Int32) (σ : Mm) : Option (Int32 × Mm) :=
  zcb (f_X9_in ((v0).toInt64) (0 : Int64) (99 : Int64) σ) (fun r1 σ2 => zck (zb r1) (some (r1, σ2)))
set_option maxRecDepth 100000 in
set_option maxHeartbeats 4000000 in
theorem V_X9_isNumber_0 {g : GG} (v0 : Int32) (σ : Mm) (r : Int32) (σ' : Mm) (hf : f_X9_isNumber v0 σ = some (r, σ')) : VJ g RX9 cX9_isNumber 1 (some .boolean) false rm_X9_isNumber (some (.int r)) σ' (0) (0) 0 [(0, .int v0)] [] σ := by
  intro p e s m args below meth c H locs cells slots ls E hR hS hl hc hs
  obtain ⟨hx, hb, hml, hr, hlocks, hown, hts, hin, hT⟩ := id E
  unfold f_X9_isNumber at hf
  refine lv_iload_n hx hb dX9_isNumber_0 rfl (lv_at hl 0 rfl) ?_
  refine lv_i2l (v := (v0).toInt64) hx hb dX9_isNumber_1 rfl ?_
  refine lv_lconst (v := (0 : Int64)) hx hb dX9_isNumber_2 rfl ?_
  refine lv_ldc2 (v := (99 : Int64)) hx hb hown (hts _ kl_X9_119) dX9_isNumber_3 ?_
  obtain ⟨r1, σ2, hcr1, hf⟩ := zq_s hf
  refine xS (As := [.long ((v0).toInt64), .long (0 : Int64), .long (99 : Int64)]) (rest := []) (st1 := [.int r1]) E hR hS hl (C_X9_in hcr1) lb_X9_in ls_X9_in ml_X9_121 ⟨Nat.le_of_ble_eq_true rfl, Nat.le_of_ble_eq_true rfl⟩ rfl rfl rfl (Nat.le_of_ble_eq_true rfl) dX9_isNumber_6 ⟨hc, hs⟩ (fun H locs hR hS => ?_)
  obtain ⟨hz3, hf⟩ := zc_s hf
  obtain ⟨hr1, hs1⟩ := Prod.mk.inj (Option.some.inj hf)
  exact xr_z E hR hS rfl (zb_s hz3) (by rw [hr1]) hs1.symm hc hs dX9_isNumber_9
theorem C_X9_isNumber {g : GG} {v0 : Int32} {σ : Mm} {r : Int32} {σ' : Mm} (hf : f_X9_isNumber v0 σ = some (r, σ')) : Ct g yX9_isNumber cX9_isNumber 1 (some .boolean) rm_X9_isNumber [.int v0] σ (some (.int r)) σ' :=
  Ct.of false (by decide +kernel) (fun h => by cases h) (Nat.le_of_ble_eq_true rfl) (V_X9_isNumber_0 _ _ _ _ hf)
abbrev rm_X9_isRange : Room := { frames := 2, cells := 0, slots := 0, locals := 45 }
set_option maxRecDepth 100000 in
def f_X9_isRange (v0 : Int32) (v1 : Int32) (σ : Mm) : Option (Int32 × Mm) :=
  zcb (f_X9_isNumber v0 σ) (fun r1 σ2 => if r1 = 0 then (some ((0 : Int32), σ2)) else (zcb (f_X9_isNumber v1 σ2) (fun r4 σ5 => if r4 = 0 then (some ((0 : Int32), σ5)) else (if v1 < v0 then (some ((0 : Int32), σ5)) else (some ((1 : Int32), σ5))))))
set_option maxRecDepth 100000 in
set_option maxHeartbeats 4000000 in
theorem V_X9_isRange_0 {g : GG} (v0 : Int32) (v1 : Int32) (σ : Mm) (r : Int32) (σ' : Mm) (hf : f_X9_isRange v0 v1 σ = some (r, σ')) : VJ g RX9 cX9_isRange 2 (some .boolean) false rm_X9_isRange (some (.int r)) σ' (0) (0) 0 [(0, .int v0), (1, .int v1)] [] σ := by
  intro p e s m args below meth c H locs cells slots ls E hR hS hl hc hs
  obtain ⟨hx, hb, hml, hr, hlocks, hown, hts, hin, hT⟩ := id E
  unfold f_X9_isRange at hf
  refine lv_iload_n hx hb dX9_isRange_0 rfl (lv_at hl 0 rfl) ?_
  obtain ⟨r1, σ2, hcr1, hf⟩ := zq_s hf
  refine xS (As := [.int v0]) (rest := []) (st1 := [.int r1]) E hR hS hl (C_X9_isNumber hcr1) lb_X9_isNumber ls_X9_isNumber ml_X9_125 ⟨Nat.le_of_ble_eq_true rfl, Nat.le_of_ble_eq_true rfl⟩ rfl rfl rfl (Nat.le_of_ble_eq_true rfl) dX9_isRange_1 ⟨hc, hs⟩ (fun H locs hR hS => ?_)
  refine lv_if_eq (tgt := 23) hx hb dX9_isRange_4 (by decide) (fun hq3 => ?_) (fun hq3 => ?_)
  · have hf := ite_p hq3 hf
    refine lv_iconst (v := (0 : Int32)) hx hb dX9_isRange_23 rfl ?_
    obtain ⟨hr1, hs1⟩ := Prod.mk.inj (Option.some.inj hf)
    exact xr_z E hR hS rfl rfl (by rw [hr1]) hs1.symm hc hs dX9_isRange_24
  · have hf := ite_n hq3 hf
    refine lv_iload_n hx hb dX9_isRange_7 rfl (lv_at hl 1 rfl) ?_
    obtain ⟨r4, σ5, hcr4, hf⟩ := zq_s hf
    refine xS (As := [.int v1]) (rest := []) (st1 := [.int r4]) E hR hS hl (C_X9_isNumber hcr4) lb_X9_isNumber ls_X9_isNumber ml_X9_125 ⟨Nat.le_of_ble_eq_true rfl, Nat.le_of_ble_eq_true rfl⟩ rfl rfl rfl (Nat.le_of_ble_eq_true rfl) dX9_isRange_8 ⟨hc, hs⟩ (fun H locs hR hS => ?_)
    refine lv_if_eq (tgt := 23) hx hb dX9_isRange_11 (by decide) (fun hq6 => ?_) (fun hq6 => ?_)
    · have hf := ite_p hq6 hf
      refine lv_iconst (v := (0 : Int32)) hx hb dX9_isRange_23 rfl ?_
      obtain ⟨hr1, hs1⟩ := Prod.mk.inj (Option.some.inj hf)
      exact xr_z E hR hS rfl rfl (by rw [hr1]) hs1.symm hc hs dX9_isRange_24
    · have hf := ite_n hq6 hf
      refine lv_iload_n hx hb dX9_isRange_14 rfl (lv_at hl 0 rfl) ?_
      refine lv_iload_n hx hb dX9_isRange_15 rfl (lv_at hl 1 rfl) ?_
      refine lv_icmp_gt (tgt := 23) hx hb dX9_isRange_16 (by decide) (fun hq7 => ?_) (fun hq7 => ?_)
      · have hf := ite_p hq7 hf
        refine lv_iconst (v := (0 : Int32)) hx hb dX9_isRange_23 rfl ?_
        obtain ⟨hr1, hs1⟩ := Prod.mk.inj (Option.some.inj hf)
        exact xr_z E hR hS rfl rfl (by rw [hr1]) hs1.symm hc hs dX9_isRange_24
      · have hf := ite_n hq7 hf
        refine lv_iconst (v := (1 : Int32)) hx hb dX9_isRange_19 rfl ?_
        refine lv_goto (tgt := 24) hx hb dX9_isRange_20 (by decide) ?_
        obtain ⟨hr1, hs1⟩ := Prod.mk.inj (Option.some.inj hf)
        exact xr_z E hR hS rfl rfl (by rw [hr1]) hs1.symm hc hs dX9_isRange_24
theorem C_X9_isRange {g : GG} {v0 : Int32} {v1 : Int32} {σ : Mm} {r : Int32} {σ' : Mm} (hf : f_X9_isRange v0 v1 σ = some (r, σ')) : Ct g yX9_isRange cX9_isRange 2 (some .boolean) rm_X9_isRange [.int v0, .int v1] σ (some (.int r)) σ' :=
  Ct.of false (by decide +kernel) (fun h => by cases h) (Nat.le_of_ble_eq_true rfl) (V_X9_isRange_0 _ _ _ _ _ hf)
abbrev rm_X9_rankOf : Room := { frames := 0, cells := 0, slots := 0, locals := 0 }
set_option maxRecDepth 100000 in
def f_X9_rankOf (v0 : Int32) (σ : Mm) : Option (Int32 × Mm) :=
  some ((((((4721 : Int64) * (((((v0).toInt64) + (3 : Int64)) * (((v0).toInt64) + (3 : Int64))) * (((v0).toInt64) + (3 : Int64)))) - ((4721 : Int64) * (((((v0).toInt64) + (3 : Int64)) * (((v0).toInt64) + (3 : Int64))) * (((v0).toInt64) + (3 : Int64)))) / (10007 : Int64) * (10007 : Int64))).toInt32), σ)
set_option maxRecDepth 100000 in
set_option maxHeartbeats 4000000 in
theorem V_X9_rankOf_0 {g : GG} (v0 : Int32) (σ : Mm) (r : Int32) (σ' : Mm) (hf : f_X9_rankOf v0 σ = some (r, σ')) : VJ g RX9 cX9_rankOf 3 (some .int) false rm_X9_rankOf (some (.int r)) σ' (0) (0) 0 [(0, .int v0)] [] σ := by
  intro p e s m args below meth c H locs cells slots ls E hR hS hl hc hs
  obtain ⟨hx, hb, hml, hr, hlocks, hown, hts, hin, hT⟩ := id E
  unfold f_X9_rankOf at hf
  refine lv_iload_n hx hb dX9_rankOf_0 rfl (lv_at hl 0 rfl) ?_
  refine lv_i2l (v := (v0).toInt64) hx hb dX9_rankOf_1 rfl ?_
  refine lv_ldc2 (v := (3 : Int64)) hx hb hown (hts _ kl_X9_129) dX9_rankOf_2 ?_
  refine lv_ladd hx hb dX9_rankOf_5 ?_
  refine lv_iload_n hx hb dX9_rankOf_6 rfl (lv_at hl 0 rfl) ?_
  refine lv_i2l (v := (v0).toInt64) hx hb dX9_rankOf_7 rfl ?_
  refine lv_ldc2 (v := (3 : Int64)) hx hb hown (hts _ kl_X9_129) dX9_rankOf_8 ?_
  refine lv_ladd hx hb dX9_rankOf_11 ?_
  refine lv_lmul hx hb dX9_rankOf_12 ?_
  refine lv_iload_n hx hb dX9_rankOf_13 rfl (lv_at hl 0 rfl) ?_
  refine lv_i2l (v := (v0).toInt64) hx hb dX9_rankOf_14 rfl ?_
  refine lv_ldc2 (v := (3 : Int64)) hx hb hown (hts _ kl_X9_129) dX9_rankOf_15 ?_
  refine lv_ladd hx hb dX9_rankOf_18 ?_
  refine lv_lmul hx hb dX9_rankOf_19 ?_
  refine lv_lstore_n (lv' := [(1, .long (((((v0).toInt64) + (3 : Int64)) * (((v0).toInt64) + (3 : Int64))) * (((v0).toInt64) + (3 : Int64)))), (0, .int v0)]) hx hb dX9_rankOf_20 rfl hl (Nat.le_of_ble_eq_true rfl) rfl (fun ls hl => ?_)
  refine lv_ldc2 (v := (4721 : Int64)) hx hb hown (hts _ kl_X9_131) dX9_rankOf_21 ?_
  refine lv_lload_n hx hb dX9_rankOf_24 rfl (lv_at hl 0 rfl) ?_
  refine lv_lmul hx hb dX9_rankOf_25 ?_
  refine lv_ldc2 (v := (10007 : Int64)) hx hb hown (hts _ kl_X9_133) dX9_rankOf_26 ?_
  refine lv_lrem hx hb dX9_rankOf_29 (by decide) ?_
  refine lv_l2i (v := ((((4721 : Int64) * (((((v0).toInt64) + (3 : Int64)) * (((v0).toInt64) + (3 : Int64))) * (((v0).toInt64) + (3 : Int64)))) - ((4721 : Int64) * (((((v0).toInt64) + (3 : Int64)) * (((v0).toInt64) + (3 : Int64))) * (((v0).toInt64) + (3 : Int64)))) / (10007 : Int64) * (10007 : Int64))).toInt32) hx hb dX9_rankOf_30 rfl ?_
  obtain ⟨hr1, hs1⟩ := Prod.mk.inj (Option.some.inj hf)
  exact xr_i E hR hS rfl (by rw [hr1]) hs1.symm hc hs dX9_rankOf_31
theorem C_X9_rankOf {g : GG} {v0 : Int32} {σ : Mm} {r : Int32} {σ' : Mm} (hf : f_X9_rankOf v0 σ = some (r, σ')) : Ct g yX9_rankOf cX9_rankOf 3 (some .int) rm_X9_rankOf [.int v0] σ (some (.int r)) σ' :=
  Ct.of false (by decide +kernel) (fun h => by cases h) (Nat.le_of_ble_eq_true rfl) (V_X9_rankOf_0 _ _ _ _ hf)
abbrev rm_X9_isAbove : Room := { frames := 1, cells := 0, slots := 0, locals := 22 }
set_option maxRecDepth 100000 in
def f_X9_isAbove (v0 : Int32) (v1 : Int32) (σ : Mm) : Option (Int32 × Mm) :=
  zcb (f_X9_rankOf v0 σ) (fun r1 σ2 => zcb (f_X9_rankOf v1 σ2) (fun r3 σ4 => if r3 < r1 then (some ((1 : Int32), σ4)) else (zcb (f_X9_rankOf v0 σ4) (fun r6 σ7 => zcb (f_X9_rankOf v1 σ7) (fun r8 σ9 => if r6 = r8 then (if v1 ≤ v0 then (some ((0 : Int32), σ9)) else (some ((1 : Int32), σ9))) else (some ((0 : Int32), σ9)))))))
set_option maxRecDepth 100000 in
set_option maxHeartbeats 4000000 in
theorem V_X9_isAbove_0 {g : GG} (v0 : Int32) (v1 : Int32) (σ : Mm) (r : Int32) (σ' : Mm) (hf : f_X9_isAbove v0 v1 σ = some (r, σ')) : VJ g RX9 cX9_isAbove 2 (some .boolean) false rm_X9_isAbove (some (.int r)) σ' (0) (0) 0 [(0, .int v0), (1, .int v1)] [] σ := by
  intro p e s m args below meth c H locs cells slots ls E hR hS hl hc hs
  obtain ⟨hx, hb, hml, hr, hlocks, hown, hts, hin, hT⟩ := id E
  unfold f_X9_isAbove at hf
  refine lv_iload_n hx hb dX9_isAbove_0 rfl (lv_at hl 0 rfl) ?_
  obtain ⟨r1, σ2, hcr1, hf⟩ := zq_s hf
  refine xS (As := [.int v0]) (rest := []) (st1 := [.int r1]) E hR hS hl (C_X9_rankOf hcr1) lb_X9_rankOf ls_X9_rankOf ml_X9_135 ⟨Nat.le_of_ble_eq_true rfl, Nat.le_of_ble_eq_true rfl⟩ rfl rfl rfl (Nat.le_of_ble_eq_true rfl) dX9_isAbove_1 ⟨hc, hs⟩ (fun H locs hR hS => ?_)
  refine lv_iload_n hx hb dX9_isAbove_4 rfl (lv_at hl 1 rfl) ?_
  obtain ⟨r3, σ4, hcr3, hf⟩ := zq_s hf
  refine xS (As := [.int v1]) (rest := [.int r1]) (st1 := [.int r3, .int r1]) E hR hS hl (C_X9_rankOf hcr3) lb_X9_rankOf ls_X9_rankOf ml_X9_135 ⟨Nat.le_of_ble_eq_true rfl, Nat.le_of_ble_eq_true rfl⟩ rfl rfl rfl (Nat.le_of_ble_eq_true rfl) dX9_isAbove_5 ⟨hc, hs⟩ (fun H locs hR hS => ?_)
  refine lv_icmp_gt (tgt := 27) hx hb dX9_isAbove_8 (by decide) (fun hq5 => ?_) (fun hq5 => ?_)
  · have hf := ite_p hq5 hf
    refine lv_iconst (v := (1 : Int32)) hx hb dX9_isAbove_27 rfl ?_
    refine lv_goto (tgt := 32) hx hb dX9_isAbove_28 (by decide) ?_
    obtain ⟨hr1, hs1⟩ := Prod.mk.inj (Option.some.inj hf)
    exact xr_z E hR hS rfl rfl (by rw [hr1]) hs1.symm hc hs dX9_isAbove_32
  · have hf := ite_n hq5 hf
    refine lv_iload_n hx hb dX9_isAbove_11 rfl (lv_at hl 0 rfl) ?_
    obtain ⟨r6, σ7, hcr6, hf⟩ := zq_s hf
    refine xS (As := [.int v0]) (rest := []) (st1 := [.int r6]) E hR hS hl (C_X9_rankOf hcr6) lb_X9_rankOf ls_X9_rankOf ml_X9_135 ⟨Nat.le_of_ble_eq_true rfl, Nat.le_of_ble_eq_true rfl⟩ rfl rfl rfl (Nat.le_of_ble_eq_true rfl) dX9_isAbove_12 ⟨hc, hs⟩ (fun H locs hR hS => ?_)
    refine lv_iload_n hx hb dX9_isAbove_15 rfl (lv_at hl 1 rfl) ?_
    obtain ⟨r8, σ9, hcr8, hf⟩ := zq_s hf
    refine xS (As := [.int v1]) (rest := [.int r6]) (st1 := [.int r8, .int r6]) E hR hS hl (C_X9_rankOf hcr8) lb_X9_rankOf ls_X9_rankOf ml_X9_135 ⟨Nat.le_of_ble_eq_true rfl, Nat.le_of_ble_eq_true rfl⟩ rfl rfl rfl (Nat.le_of_ble_eq_true rfl) dX9_isAbove_16 ⟨hc, hs⟩ (fun H locs hR hS => ?_)
    refine lv_icmp_ne (tgt := 31) hx hb dX9_isAbove_19 (by decide) (fun hq10 => ?_) (fun hq10 => ?_)
    · have hf := ite_n hq10 hf
      refine lv_iconst (v := (0 : Int32)) hx hb dX9_isAbove_31 rfl ?_
      obtain ⟨hr1, hs1⟩ := Prod.mk.inj (Option.some.inj hf)
      exact xr_z E hR hS rfl rfl (by rw [hr1]) hs1.symm hc hs dX9_isAbove_32
    · have hf := ite_p hq10 hf
      refine lv_iload_n hx hb dX9_isAbove_22 rfl (lv_at hl 0 rfl) ?_
      refine lv_iload_n hx hb dX9_isAbove_23 rfl (lv_at hl 1 rfl) ?_
      refine lv_icmp_ge (tgt := 31) hx hb dX9_isAbove_24 (by decide) (fun hq11 => ?_) (fun hq11 => ?_)
      · have hf := ite_p hq11 hf
        refine lv_iconst (v := (0 : Int32)) hx hb dX9_isAbove_31 rfl ?_
        obtain ⟨hr1, hs1⟩ := Prod.mk.inj (Option.some.inj hf)
        exact xr_z E hR hS rfl rfl (by rw [hr1]) hs1.symm hc hs dX9_isAbove_32
      · have hf := ite_n hq11 hf
        refine lv_iconst (v := (1 : Int32)) hx hb dX9_isAbove_27 rfl ?_
        refine lv_goto (tgt := 32) hx hb dX9_isAbove_28 (by decide) ?_
        obtain ⟨hr1, hs1⟩ := Prod.mk.inj (Option.some.inj hf)
        exact xr_z E hR hS rfl rfl (by rw [hr1]) hs1.symm hc hs dX9_isAbove_32
theorem C_X9_isAbove {g : GG} {v0 : Int32} {v1 : Int32} {σ : Mm} {r : Int32} {σ' : Mm} (hf : f_X9_isAbove v0 v1 σ = some (r, σ')) : Ct g yX9_isAbove cX9_isAbove 2 (some .boolean) rm_X9_isAbove [.int v0, .int v1] σ (some (.int r)) σ' :=
  Ct.of false (by decide +kernel) (fun h => by cases h) (Nat.le_of_ble_eq_true rfl) (V_X9_isAbove_0 _ _ _ _ _ hf)
abbrev rm_X9_digestOf : Room := { frames := 0, cells := 0, slots := 0, locals := 0 }
set_option maxRecDepth 100000 in
def f_X9_digestOf (v0 : Int32) (v1 : Int32) (v2 : Int32) (v3 : Int32) (σ : Mm) : Option (Int32 × Mm) :=
  some ((((((((1000003 : Int64) * ((((1000003 : Int64) * ((((1000003 : Int64) * ((((1000003 : Int64) * (17 : Int64)) + ((v0).toInt64)) - (((1000003 : Int64) * (17 : Int64)) + ((v0).toInt64)) / (2147483647 : Int64) * (2147483647 : Int64))) + ((v1).toInt64)) - (((1000003 : Int64) * ((((1000003 : Int64) * (17 : Int64)) + ((v0).toInt64)) - (((1000003 : Int64) * (17 : Int64)) + ((v0).toInt64)) / (2147483647 : Int64) * (2147483647 : Int64))) + ((v1).toInt64)) / (2147483647 : Int64) * (2147483647 : Int64))) + ((v2).toInt64)) - (((1000003 : Int64) * ((((1000003 : Int64) * ((((1000003 : Int64) * (17 : Int64)) + ((v0).toInt64)) - (((1000003 : Int64) * (17 : Int64)) + ((v0).toInt64)) / (2147483647 : Int64) * (2147483647 : Int64))) + ((v1).toInt64)) - (((1000003 : Int64) * ((((1000003 : Int64) * (17 : Int64)) + ((v0).toInt64)) - (((1000003 : Int64) * (17 : Int64)) + ((v0).toInt64)) / (2147483647 : Int64) * (2147483647 : Int64))) + ((v1).toInt64)) / (2147483647 : Int64) * (2147483647 : Int64))) + ((v2).toInt64)) / (2147483647 : Int64) * (2147483647 : Int64))) + ((v3).toInt64)) - (((1000003 : Int64) * ((((1000003 : Int64) * ((((1000003 : Int64) * ((((1000003 : Int64) * (17 : Int64)) + ((v0).toInt64)) - (((1000003 : Int64) * (17 : Int64)) + ((v0).toInt64)) / (2147483647 : Int64) * (2147483647 : Int64))) + ((v1).toInt64)) - (((1000003 : Int64) * ((((1000003 : Int64) * (17 : Int64)) + ((v0).toInt64)) - (((1000003 : Int64) * (17 : Int64)) + ((v0).toInt64)) / (2147483647 : Int64) * (2147483647 : Int64))) + ((v1).toInt64)) / (2147483647 : Int64) * (2147483647 : Int64))) + ((v2).toInt64)) - (((1000003 : Int64) * ((((1000003 : Int64) * ((((1000003 : Int64) * (17 : Int64)) + ((v0).toInt64)) - (((1000003 : Int64) * (17 : Int64)) + ((v0).toInt64)) / (2147483647 : Int64) * (2147483647 : Int64))) + ((v1).toInt64)) - (((1000003 : Int64) * ((((1000003 : Int64) * (17 : Int64)) + ((v0).toInt64)) - (((1000003 : Int64) * (17 : Int64)) + ((v0).toInt64)) / (2147483647 : Int64) * (2147483647 : Int64))) + ((v1).toInt64)) / (2147483647 : Int64) * (2147483647 : Int64))) + ((v2).toInt64)) / (2147483647 : Int64) * (2147483647 : Int64))) + ((v3).toInt64)) / (2147483647 : Int64) * (2147483647 : Int64))).toInt32) + (1 : Int32)), σ)
set_option maxRecDepth 100000 in
set_option maxHeartbeats 4000000 in
theorem V_X9_digestOf_0 {g : GG} (v0 : Int32) (v1 : Int32) (v2 : Int32) (v3 : Int32) (σ : Mm) (r : Int32) (σ' : Mm) (hf : f_X9_digestOf v0 v1 v2 v3 σ = some (r, σ')) : VJ g RX9 cX9_digestOf 6 (some .int) false rm_X9_digestOf (some (.int r)) σ' (0) (0) 0 [(0, .int v0), (1, .int v1), (2, .int v2), (3, .int v3)] [] σ := by
  intro p e s m args below meth c H locs cells slots ls E hR hS hl hc hs
  obtain ⟨hx, hb, hml, hr, hlocks, hown, hts, hin, hT⟩ := id E
  unfold f_X9_digestOf at hf
  refine lv_ldc2 (v := (17 : Int64)) hx hb hown (hts _ kl_X9_139) dX9_digestOf_0 ?_
  refine lv_lstore (lv' := [(4, .long (17 : Int64)), (0, .int v0), (1, .int v1), (2, .int v2), (3, .int v3)]) hx hb dX9_digestOf_3 hl (Nat.le_of_ble_eq_true rfl) rfl (fun ls hl => ?_)
  refine lv_ldc2 (v := (1000003 : Int64)) hx hb hown (hts _ kl_X9_141) dX9_digestOf_5 ?_
  refine lv_lload hx hb dX9_digestOf_8 (lv_at hl 0 rfl) ?_
  refine lv_lmul hx hb dX9_digestOf_10 ?_
  refine lv_iload_n hx hb dX9_digestOf_11 rfl (lv_at hl 1 rfl) ?_
  refine lv_i2l (v := (v0).toInt64) hx hb dX9_digestOf_12 rfl ?_
  refine lv_ladd hx hb dX9_digestOf_13 ?_
  refine lv_ldc2 (v := (2147483647 : Int64)) hx hb hown (hts _ kl_X9_143) dX9_digestOf_14 ?_
  refine lv_lrem hx hb dX9_digestOf_17 (by decide) ?_
  refine lv_lstore (lv' := [(4, .long ((((1000003 : Int64) * (17 : Int64)) + ((v0).toInt64)) - (((1000003 : Int64) * (17 : Int64)) + ((v0).toInt64)) / (2147483647 : Int64) * (2147483647 : Int64))), (0, .int v0), (1, .int v1), (2, .int v2), (3, .int v3)]) hx hb dX9_digestOf_18 hl (Nat.le_of_ble_eq_true rfl) rfl (fun ls hl => ?_)
  refine lv_ldc2 (v := (1000003 : Int64)) hx hb hown (hts _ kl_X9_141) dX9_digestOf_20 ?_
  refine lv_lload hx hb dX9_digestOf_23 (lv_at hl 0 rfl) ?_
  refine lv_lmul hx hb dX9_digestOf_25 ?_
  refine lv_iload_n hx hb dX9_digestOf_26 rfl (lv_at hl 2 rfl) ?_
  refine lv_i2l (v := (v1).toInt64) hx hb dX9_digestOf_27 rfl ?_
  refine lv_ladd hx hb dX9_digestOf_28 ?_
  refine lv_ldc2 (v := (2147483647 : Int64)) hx hb hown (hts _ kl_X9_143) dX9_digestOf_29 ?_
  refine lv_lrem hx hb dX9_digestOf_32 (by decide) ?_
  refine lv_lstore (lv' := [(4, .long ((((1000003 : Int64) * ((((1000003 : Int64) * (17 : Int64)) + ((v0).toInt64)) - (((1000003 : Int64) * (17 : Int64)) + ((v0).toInt64)) / (2147483647 : Int64) * (2147483647 : Int64))) + ((v1).toInt64)) - (((1000003 : Int64) * ((((1000003 : Int64) * (17 : Int64)) + ((v0).toInt64)) - (((1000003 : Int64) * (17 : Int64)) + ((v0).toInt64)) / (2147483647 : Int64) * (2147483647 : Int64))) + ((v1).toInt64)) / (2147483647 : Int64) * (2147483647 : Int64))), (0, .int v0), (1, .int v1), (2, .int v2), (3, .int v3)]) hx hb dX9_digestOf_33 hl (Nat.le_of_ble_eq_true rfl) rfl (fun ls hl => ?_)
  refine lv_ldc2 (v := (1000003 : Int64)) hx hb hown (hts _ kl_X9_141) dX9_digestOf_35 ?_
  refine lv_lload hx hb dX9_digestOf_38 (lv_at hl 0 rfl) ?_
  refine lv_lmul hx hb dX9_digestOf_40 ?_
  refine lv_iload_n hx hb dX9_digestOf_41 rfl (lv_at hl 3 rfl) ?_
  refine lv_i2l (v := (v2).toInt64) hx hb dX9_digestOf_42 rfl ?_
  refine lv_ladd hx hb dX9_digestOf_43 ?_
  refine lv_ldc2 (v := (2147483647 : Int64)) hx hb hown (hts _ kl_X9_143) dX9_digestOf_44 ?_
  refine lv_lrem hx hb dX9_digestOf_47 (by decide) ?_
  refine lv_lstore (lv' := [(4, .long ((((1000003 : Int64) * ((((1000003 : Int64) * ((((1000003 : Int64) * (17 : Int64)) + ((v0).toInt64)) - (((1000003 : Int64) * (17 : Int64)) + ((v0).toInt64)) / (2147483647 : Int64) * (2147483647 : Int64))) + ((v1).toInt64)) - (((1000003 : Int64) * ((((1000003 : Int64) * (17 : Int64)) + ((v0).toInt64)) - (((1000003 : Int64) * (17 : Int64)) + ((v0).toInt64)) / (2147483647 : Int64) * (2147483647 : Int64))) + ((v1).toInt64)) / (2147483647 : Int64) * (2147483647 : Int64))) + ((v2).toInt64)) - (((1000003 : Int64) * ((((1000003 : Int64) * ((((1000003 : Int64) * (17 : Int64)) + ((v0).toInt64)) - (((1000003 : Int64) * (17 : Int64)) + ((v0).toInt64)) / (2147483647 : Int64) * (2147483647 : Int64))) + ((v1).toInt64)) - (((1000003 : Int64) * ((((1000003 : Int64) * (17 : Int64)) + ((v0).toInt64)) - (((1000003 : Int64) * (17 : Int64)) + ((v0).toInt64)) / (2147483647 : Int64) * (2147483647 : Int64))) + ((v1).toInt64)) / (2147483647 : Int64) * (2147483647 : Int64))) + ((v2).toInt64)) / (2147483647 : Int64) * (2147483647 : Int64))), (0, .int v0), (1, .int v1), (2, .int v2), (3, .int v3)]) hx hb dX9_digestOf_48 hl (Nat.le_of_ble_eq_true rfl) rfl (fun ls hl => ?_)
  refine lv_ldc2 (v := (1000003 : Int64)) hx hb hown (hts _ kl_X9_141) dX9_digestOf_50 ?_
  refine lv_lload hx hb dX9_digestOf_53 (lv_at hl 0 rfl) ?_
  refine lv_lmul hx hb dX9_digestOf_55 ?_
  refine lv_iload_n hx hb dX9_digestOf_56 rfl (lv_at hl 4 rfl) ?_
  refine lv_i2l (v := (v3).toInt64) hx hb dX9_digestOf_57 rfl ?_
  refine lv_ladd hx hb dX9_digestOf_58 ?_
  refine lv_ldc2 (v := (2147483647 : Int64)) hx hb hown (hts _ kl_X9_143) dX9_digestOf_59 ?_
  refine lv_lrem hx hb dX9_digestOf_62 (by decide) ?_
  refine lv_lstore (lv' := [(4, .long ((((1000003 : Int64) * ((((1000003 : Int64) * ((((1000003 : Int64) * ((((1000003 : Int64) * (17 : Int64)) + ((v0).toInt64)) - (((1000003 : Int64) * (17 : Int64)) + ((v0).toInt64)) / (2147483647 : Int64) * (2147483647 : Int64))) + ((v1).toInt64)) - (((1000003 : Int64) * ((((1000003 : Int64) * (17 : Int64)) + ((v0).toInt64)) - (((1000003 : Int64) * (17 : Int64)) + ((v0).toInt64)) / (2147483647 : Int64) * (2147483647 : Int64))) + ((v1).toInt64)) / (2147483647 : Int64) * (2147483647 : Int64))) + ((v2).toInt64)) - (((1000003 : Int64) * ((((1000003 : Int64) * ((((1000003 : Int64) * (17 : Int64)) + ((v0).toInt64)) - (((1000003 : Int64) * (17 : Int64)) + ((v0).toInt64)) / (2147483647 : Int64) * (2147483647 : Int64))) + ((v1).toInt64)) - (((1000003 : Int64) * ((((1000003 : Int64) * (17 : Int64)) + ((v0).toInt64)) - (((1000003 : Int64) * (17 : Int64)) + ((v0).toInt64)) / (2147483647 : Int64) * (2147483647 : Int64))) + ((v1).toInt64)) / (2147483647 : Int64) * (2147483647 : Int64))) + ((v2).toInt64)) / (2147483647 : Int64) * (2147483647 : Int64))) + ((v3).toInt64)) - (((1000003 : Int64) * ((((1000003 : Int64) * ((((1000003 : Int64) * ((((1000003 : Int64) * (17 : Int64)) + ((v0).toInt64)) - (((1000003 : Int64) * (17 : Int64)) + ((v0).toInt64)) / (2147483647 : Int64) * (2147483647 : Int64))) + ((v1).toInt64)) - (((1000003 : Int64) * ((((1000003 : Int64) * (17 : Int64)) + ((v0).toInt64)) - (((1000003 : Int64) * (17 : Int64)) + ((v0).toInt64)) / (2147483647 : Int64) * (2147483647 : Int64))) + ((v1).toInt64)) / (2147483647 : Int64) * (2147483647 : Int64))) + ((v2).toInt64)) - (((1000003 : Int64) * ((((1000003 : Int64) * ((((1000003 : Int64) * (17 : Int64)) + ((v0).toInt64)) - (((1000003 : Int64) * (17 : Int64)) + ((v0).toInt64)) / (2147483647 : Int64) * (2147483647 : Int64))) + ((v1).toInt64)) - (((1000003 : Int64) * ((((1000003 : Int64) * (17 : Int64)) + ((v0).toInt64)) - (((1000003 : Int64) * (17 : Int64)) + ((v0).toInt64)) / (2147483647 : Int64) * (2147483647 : Int64))) + ((v1).toInt64)) / (2147483647 : Int64) * (2147483647 : Int64))) + ((v2).toInt64)) / (2147483647 : Int64) * (2147483647 : Int64))) + ((v3).toInt64)) / (2147483647 : Int64) * (2147483647 : Int64))), (0, .int v0), (1, .int v1), (2, .int v2), (3, .int v3)]) hx hb dX9_digestOf_63 hl (Nat.le_of_ble_eq_true rfl) rfl (fun ls hl => ?_)
  refine lv_lload hx hb dX9_digestOf_65 (lv_at hl 0 rfl) ?_
  refine lv_l2i (v := (((((1000003 : Int64) * ((((1000003 : Int64) * ((((1000003 : Int64) * ((((1000003 : Int64) * (17 : Int64)) + ((v0).toInt64)) - (((1000003 : Int64) * (17 : Int64)) + ((v0).toInt64)) / (2147483647 : Int64) * (2147483647 : Int64))) + ((v1).toInt64)) - (((1000003 : Int64) * ((((1000003 : Int64) * (17 : Int64)) + ((v0).toInt64)) - (((1000003 : Int64) * (17 : Int64)) + ((v0).toInt64)) / (2147483647 : Int64) * (2147483647 : Int64))) + ((v1).toInt64)) / (2147483647 : Int64) * (2147483647 : Int64))) + ((v2).toInt64)) - (((1000003 : Int64) * ((((1000003 : Int64) * ((((1000003 : Int64) * (17 : Int64)) + ((v0).toInt64)) - (((1000003 : Int64) * (17 : Int64)) + ((v0).toInt64)) / (2147483647 : Int64) * (2147483647 : Int64))) + ((v1).toInt64)) - (((1000003 : Int64) * ((((1000003 : Int64) * (17 : Int64)) + ((v0).toInt64)) - (((1000003 : Int64) * (17 : Int64)) + ((v0).toInt64)) / (2147483647 : Int64) * (2147483647 : Int64))) + ((v1).toInt64)) / (2147483647 : Int64) * (2147483647 : Int64))) + ((v2).toInt64)) / (2147483647 : Int64) * (2147483647 : Int64))) + ((v3).toInt64)) - (((1000003 : Int64) * ((((1000003 : Int64) * ((((1000003 : Int64) * ((((1000003 : Int64) * (17 : Int64)) + ((v0).toInt64)) - (((1000003 : Int64) * (17 : Int64)) + ((v0).toInt64)) / (2147483647 : Int64) * (2147483647 : Int64))) + ((v1).toInt64)) - (((1000003 : Int64) * ((((1000003 : Int64) * (17 : Int64)) + ((v0).toInt64)) - (((1000003 : Int64) * (17 : Int64)) + ((v0).toInt64)) / (2147483647 : Int64) * (2147483647 : Int64))) + ((v1).toInt64)) / (2147483647 : Int64) * (2147483647 : Int64))) + ((v2).toInt64)) - (((1000003 : Int64) * ((((1000003 : Int64) * ((((1000003 : Int64) * (17 : Int64)) + ((v0).toInt64)) - (((1000003 : Int64) * (17 : Int64)) + ((v0).toInt64)) / (2147483647 : Int64) * (2147483647 : Int64))) + ((v1).toInt64)) - (((1000003 : Int64) * ((((1000003 : Int64) * (17 : Int64)) + ((v0).toInt64)) - (((1000003 : Int64) * (17 : Int64)) + ((v0).toInt64)) / (2147483647 : Int64) * (2147483647 : Int64))) + ((v1).toInt64)) / (2147483647 : Int64) * (2147483647 : Int64))) + ((v2).toInt64)) / (2147483647 : Int64) * (2147483647 : Int64))) + ((v3).toInt64)) / (2147483647 : Int64) * (2147483647 : Int64))).toInt32) hx hb dX9_digestOf_67 rfl ?_
  refine lv_iconst (v := (1 : Int32)) hx hb dX9_digestOf_68 rfl ?_
  refine lv_iadd hx hb dX9_digestOf_69 ?_
  obtain ⟨hr1, hs1⟩ := Prod.mk.inj (Option.some.inj hf)
  exact xr_i E hR hS rfl (by rw [hr1]) hs1.symm hc hs dX9_digestOf_70
theorem C_X9_digestOf {g : GG} {v0 : Int32} {v1 : Int32} {v2 : Int32} {v3 : Int32} {σ : Mm} {r : Int32} {σ' : Mm} (hf : f_X9_digestOf v0 v1 v2 v3 σ = some (r, σ')) : Ct g yX9_digestOf cX9_digestOf 6 (some .int) rm_X9_digestOf [.int v0, .int v1, .int v2, .int v3] σ (some (.int r)) σ' :=
  Ct.of false (by decide +kernel) (fun h => by cases h) (Nat.le_of_ble_eq_true rfl) (V_X9_digestOf_0 _ _ _ _ _ _ _ hf)
