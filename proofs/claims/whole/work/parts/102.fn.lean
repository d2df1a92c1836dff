abbrev rm_X8_mixed : Room := { frames := 0, cells := 0, slots := 0, locals := 0 }
set_option maxRecDepth 100000 in
def f_X8_mixed (v0 : Int64) (v2 : Int32) (σ : Mm) : Option (Int64 × Mm) :=
  some (((((1000003 : Int64) * v0) + ((v2).toInt64)) - (((1000003 : Int64) * v0) + ((v2).toInt64)) / (2147483647 : Int64) * (2147483647 : Int64)), σ)
set_option maxRecDepth 100000 in
set_option maxHeartbeats 4000000 in
theorem V_X8_mixed_0 {g : GG} (v0 : Int64) (v2 : Int32) (σ : Mm) (r : Int64) (σ' : Mm) (hf : f_X8_mixed v0 v2 σ = some (r, σ')) : VJ g RX8 cX8_mixed 3 (some .long) false rm_X8_mixed (some (.long r)) σ' (0) (0) 0 [(0, .long v0), (2, .int v2)] [] σ := by
  intro p e s m args below meth c H locs cells slots ls E hR hS hl hc hs
  obtain ⟨hx, hb, hml, hr, hlocks, hown, hts, hin, hT⟩ := id E
  unfold f_X8_mixed at hf
  refine lv_ldc2 (v := (1000003 : Int64)) hx hb hown (hts _ kl_X8_290) dX8_mixed_0 ?_
  refine lv_lload_n hx hb dX8_mixed_3 rfl (lv_at hl 0 rfl) ?_
  refine lv_lmul hx hb dX8_mixed_4 ?_
  refine lv_iload_n hx hb dX8_mixed_5 rfl (lv_at hl 1 rfl) ?_
  refine lv_i2l (v := (v2).toInt64) hx hb dX8_mixed_6 rfl ?_
  refine lv_ladd hx hb dX8_mixed_7 ?_
  refine lv_ldc2 (v := (2147483647 : Int64)) hx hb hown (hts _ kl_X8_292) dX8_mixed_8 ?_
  refine lv_lrem hx hb dX8_mixed_11 (by decide) ?_
  obtain ⟨hr1, hs1⟩ := Prod.mk.inj (Option.some.inj hf)
  exact xr_l E hR hS rfl (by rw [hr1]) hs1.symm hc hs dX8_mixed_12
theorem C_X8_mixed {g : GG} {v0 : Int64} {v2 : Int32} {σ : Mm} {r : Int64} {σ' : Mm} (hf : f_X8_mixed v0 v2 σ = some (r, σ')) : Ct g yX8_mixed cX8_mixed 3 (some .long) rm_X8_mixed [.long v0, .int v2] σ (some (.long r)) σ' :=
  Ct.of false (by decide +kernel) (fun h => by cases h) (Nat.le_of_ble_eq_true rfl) (V_X8_mixed_0 _ _ _ _ _ hf)
abbrev rm_X8_digestOfNode : Room := { frames := 1, cells := 0, slots := 0, locals := 22 }
set_option maxRecDepth 100000 in
def f_X8_digestOfNode (v0 : Int32) (v1 : Int32) (v2 : Int32) (v3 : Int32) (σ : Mm) : Option (Int32 × Mm) :=
  zcb (f_X8_mixed (17 : Int64) v0 σ) (fun r1 σ2 => zcb (f_X8_mixed r1 v1 σ2) (fun r3 σ4 => zcb (f_X8_mixed r3 v2 σ4) (fun r5 σ6 => zcb (f_X8_mixed r5 v3 σ6) (fun r7 σ8 => some (((((1 : Int64) + r7)).toInt32), σ8)))))
set_option maxRecDepth 100000 in
set_option maxHeartbeats 4000000 in
theorem V_X8_digestOfNode_0 {g : GG} (v0 : Int32) (v1 : Int32) (v2 : Int32) (v3 : Int32) (σ : Mm) (r : Int32) (σ' : Mm) (hf : f_X8_digestOfNode v0 v1 v2 v3 σ = some (r, σ')) : VJ g RX8 cX8_digestOfNode 6 (some .int) false rm_X8_digestOfNode (some (.int r)) σ' (0) (0) 0 [(0, .int v0), (1, .int v1), (2, .int v2), (3, .int v3)] [] σ := by
  intro p e s m args below meth c H locs cells slots ls E hR hS hl hc hs
  obtain ⟨hx, hb, hml, hr, hlocks, hown, hts, hin, hT⟩ := id E
  unfold f_X8_digestOfNode at hf
  refine lv_ldc2 (v := (17 : Int64)) hx hb hown (hts _ kl_X8_284) dX8_digestOfNode_0 ?_
  refine lv_lstore (lv' := [(4, .long (17 : Int64)), (0, .int v0), (1, .int v1), (2, .int v2), (3, .int v3)]) hx hb dX8_digestOfNode_3 hl (Nat.le_of_ble_eq_true rfl) rfl (fun ls hl => ?_)
  refine lv_lload hx hb dX8_digestOfNode_5 (lv_at hl 0 rfl) ?_
  refine lv_iload_n hx hb dX8_digestOfNode_7 rfl (lv_at hl 1 rfl) ?_
  obtain ⟨r1, σ2, hcr1, hf⟩ := zq_s hf
  refine xS (As := [.long (17 : Int64), .int v0]) (rest := []) (st1 := [.long r1]) E hR hS hl (C_X8_mixed hcr1) lb_X8_mixed ls_X8_mixed ml_X8_286 ⟨Nat.le_of_ble_eq_true rfl, Nat.le_of_ble_eq_true rfl⟩ rfl rfl rfl (Nat.le_of_ble_eq_true rfl) dX8_digestOfNode_8 ⟨hc, hs⟩ (fun H locs hR hS => ?_)
  refine lv_lstore (lv' := [(4, .long r1), (0, .int v0), (1, .int v1), (2, .int v2), (3, .int v3)]) hx hb dX8_digestOfNode_11 hl (Nat.le_of_ble_eq_true rfl) rfl (fun ls hl => ?_)
  refine lv_lload hx hb dX8_digestOfNode_13 (lv_at hl 0 rfl) ?_
  refine lv_iload_n hx hb dX8_digestOfNode_15 rfl (lv_at hl 2 rfl) ?_
  obtain ⟨r3, σ4, hcr3, hf⟩ := zq_s hf
  refine xS (As := [.long r1, .int v1]) (rest := []) (st1 := [.long r3]) E hR hS hl (C_X8_mixed hcr3) lb_X8_mixed ls_X8_mixed ml_X8_286 ⟨Nat.le_of_ble_eq_true rfl, Nat.le_of_ble_eq_true rfl⟩ rfl rfl rfl (Nat.le_of_ble_eq_true rfl) dX8_digestOfNode_16 ⟨hc, hs⟩ (fun H locs hR hS => ?_)
  refine lv_lstore (lv' := [(4, .long r3), (0, .int v0), (1, .int v1), (2, .int v2), (3, .int v3)]) hx hb dX8_digestOfNode_19 hl (Nat.le_of_ble_eq_true rfl) rfl (fun ls hl => ?_)
  refine lv_lload hx hb dX8_digestOfNode_21 (lv_at hl 0 rfl) ?_
  refine lv_iload_n hx hb dX8_digestOfNode_23 rfl (lv_at hl 3 rfl) ?_
  obtain ⟨r5, σ6, hcr5, hf⟩ := zq_s hf
  refine xS (As := [.long r3, .int v2]) (rest := []) (st1 := [.long r5]) E hR hS hl (C_X8_mixed hcr5) lb_X8_mixed ls_X8_mixed ml_X8_286 ⟨Nat.le_of_ble_eq_true rfl, Nat.le_of_ble_eq_true rfl⟩ rfl rfl rfl (Nat.le_of_ble_eq_true rfl) dX8_digestOfNode_24 ⟨hc, hs⟩ (fun H locs hR hS => ?_)
  refine lv_lstore (lv' := [(4, .long r5), (0, .int v0), (1, .int v1), (2, .int v2), (3, .int v3)]) hx hb dX8_digestOfNode_27 hl (Nat.le_of_ble_eq_true rfl) rfl (fun ls hl => ?_)
  refine lv_lload hx hb dX8_digestOfNode_29 (lv_at hl 0 rfl) ?_
  refine lv_iload_n hx hb dX8_digestOfNode_31 rfl (lv_at hl 4 rfl) ?_
  obtain ⟨r7, σ8, hcr7, hf⟩ := zq_s hf
  refine xS (As := [.long r5, .int v3]) (rest := []) (st1 := [.long r7]) E hR hS hl (C_X8_mixed hcr7) lb_X8_mixed ls_X8_mixed ml_X8_286 ⟨Nat.le_of_ble_eq_true rfl, Nat.le_of_ble_eq_true rfl⟩ rfl rfl rfl (Nat.le_of_ble_eq_true rfl) dX8_digestOfNode_32 ⟨hc, hs⟩ (fun H locs hR hS => ?_)
  refine lv_lstore (lv' := [(4, .long r7), (0, .int v0), (1, .int v1), (2, .int v2), (3, .int v3)]) hx hb dX8_digestOfNode_35 hl (Nat.le_of_ble_eq_true rfl) rfl (fun ls hl => ?_)
  refine lv_lconst (v := (1 : Int64)) hx hb dX8_digestOfNode_37 rfl ?_
  refine lv_lload hx hb dX8_digestOfNode_38 (lv_at hl 0 rfl) ?_
  refine lv_ladd hx hb dX8_digestOfNode_40 ?_
  refine lv_l2i (v := (((1 : Int64) + r7)).toInt32) hx hb dX8_digestOfNode_41 rfl ?_
  obtain ⟨hr1, hs1⟩ := Prod.mk.inj (Option.some.inj hf)
  exact xr_i E hR hS rfl (by rw [hr1]) hs1.symm hc hs dX8_digestOfNode_42
theorem C_X8_digestOfNode {g : GG} {v0 : Int32} {v1 : Int32} {v2 : Int32} {v3 : Int32} {σ : Mm} {r : Int32} {σ' : Mm} (hf : f_X8_digestOfNode v0 v1 v2 v3 σ = some (r, σ')) : Ct g yX8_digestOfNode cX8_digestOfNode 6 (some .int) rm_X8_digestOfNode [.int v0, .int v1, .int v2, .int v3] σ (some (.int r)) σ' :=
  Ct.of false (by decide +kernel) (fun h => by cases h) (Nat.le_of_ble_eq_true rfl) (V_X8_digestOfNode_0 _ _ _ _ _ _ _ hf)
abbrev rm_X7_closeBefore : Room := { frames := 2, cells := 0, slots := 0, locals := 47 }
set_option maxRecDepth 100000 in
def f_X7_closeBefore_60 (k_6 : Nat → Int32 → Nat → Int32 → Int32 → Mm → Option (Int32 × Mm)) (v0 : Nat) (v1 : Int32) (v2 : Nat) (v3 : Int32) (v4 : Int32) (v5 : Int32) (σ : Mm) : Option (Int32 × Mm) :=
  zck (kO σ v0 7) (zlt (sD σ v0 5 ((mD σ v0 5) - (1 : Int32))) (fun σ2 => zrb (mR σ2 v0 1) (fun b3 => zck (kA σ2 1 b3 v5) (zlt (sD σ2 b3 (ix v5) v3) (fun σ5 => zrb (mR σ5 v0 2) (fun b6 => zck (kO σ5 v2 2) (zcb (f_X2_valueOf v2 v5 σ5) (fun r8 σ9 => zck (kO σ9 v0 7) (zrb (mR σ9 v0 0) (fun b11 => zck (kA σ9 1 b11 v5) (zcb (f_X7_digestOr v0 (mD σ9 b11 (ix v5)) v5 σ9) (fun r13 σ14 => zck (kO σ14 v0 7) (zcb (f_X7_digestOr v0 v3 v1 σ14) (fun r16 σ17 => zcb (f_X8_digestOfNode v5 r8 r13 r16 σ17) (fun r18 σ19 => zck (kA σ19 1 b6 v5) (zlt (sD σ19 b6 (ix v5) r18) (fun σ21 => k_6 v0 v1 v2 v5 (v4 + (1 : Int32)) σ21)))))))))))))))))
set_option maxRecDepth 100000 in
set_option maxHeartbeats 4000000 in
theorem V_X7_closeBefore_60 {g : GG} (k_6 : Nat → Int32 → Nat → Int32 → Int32 → Mm → Option (Int32 × Mm)) (hk_6 : ∀ (v0 : Nat) (v1 : Int32) (v2 : Nat) (v3 : Int32) (v4 : Int32) (σ : Mm) (r : Int32) (σ' : Mm), k_6 v0 v1 v2 v3 v4 σ = some (r, σ') → VJ g RX7 cX7_closeBefore 6 (some .int) false rm_X7_closeBefore (some (.int r)) σ' (0) (0) 6 [(0, .ref (gB g + v0)), (1, .int v1), (2, .ref (gB g + v2)), (3, .int v3), (4, .int v4)] [] σ) (v0 : Nat) (v1 : Int32) (v2 : Nat) (v3 : Int32) (v4 : Int32) (v5 : Int32) (σ : Mm) (r : Int32) (σ' : Mm) (hf : f_X7_closeBefore_60 k_6 v0 v1 v2 v3 v4 v5 σ = some (r, σ')) : VJ g RX7 cX7_closeBefore 6 (some .int) false rm_X7_closeBefore (some (.int r)) σ' (0) (0) 60 [(0, .ref (gB g + v0)), (1, .int v1), (2, .ref (gB g + v2)), (3, .int v3), (4, .int v4), (5, .int v5)] [] σ := by
  intro p e s m args below meth c H locs cells slots ls E hR hS hl hc hs
  obtain ⟨hx, hb, hml, hr, hlocks, hown, hts, hin, hT⟩ := id E
  unfold f_X7_closeBefore_60 at hf
  refine lv_aload_n hx hb dX7_closeBefore_60 rfl (lv_at hl 0 rfl) ?_
  refine lv_dup hx hb dX7_closeBefore_61 rfl ?_
  obtain ⟨hk1, hf⟩ := zc_s hf
  refine x_getI E hR hk1 ok7 5 (Nat.le_of_ble_eq_true rfl) rfl fl_X7_52 dX7_closeBefore_62 ?_
  refine lv_iconst (v := (1 : Int32)) hx hb dX7_closeBefore_65 rfl ?_
  refine lv_isub hx hb dX7_closeBefore_66 ?_
  obtain ⟨σ2, eσ2, hf⟩ := zl_s hf
  refine x_putI E hR hS hk1 ok7 5 (Nat.le_of_ble_eq_true rfl) rfl fl_X7_52 (Or.inl rfl) rfl rfl dX7_closeBefore_67 (fun H locs hR hS => ?_)
  rw [← eσ2] at hR
  refine lv_aload_n hx hb dX7_closeBefore_70 rfl (lv_at hl 0 rfl) ?_
  obtain ⟨b3, hb3, hf⟩ := zr_s hf
  refine x_getR E hR (by rw [eσ2]; exact hk1) hb3 ok7 (Nat.le_of_ble_eq_true rfl) rfl fl_X7_15 dX7_closeBefore_71 ?_
  refine lv_iload hx hb dX7_closeBefore_74 (lv_at hl 5 rfl) ?_
  refine lv_iload_n hx hb dX7_closeBefore_76 rfl (lv_at hl 3 rfl) ?_
  obtain ⟨hk4, hf⟩ := zc_s hf
  obtain ⟨σ5, eσ5, hf⟩ := zl_s hf
  refine x_ist E hR hS hk4 dX7_closeBefore_77 (fun H locs hR hS => ?_)
  rw [← eσ5] at hR
  refine lv_aload_n hx hb dX7_closeBefore_78 rfl (lv_at hl 0 rfl) ?_
  obtain ⟨b6, hb6, hf⟩ := zr_s hf
  refine x_getR E hR (by rw [eσ5, eσ2]; exact hk1) hb6 ok7 (Nat.le_of_ble_eq_true rfl) rfl fl_X7_18 dX7_closeBefore_79 ?_
  refine lv_iload hx hb dX7_closeBefore_82 (lv_at hl 5 rfl) ?_
  refine lv_iload hx hb dX7_closeBefore_84 (lv_at hl 5 rfl) ?_
  refine lv_aload_n hx hb dX7_closeBefore_86 rfl (lv_at hl 2 rfl) ?_
  refine lv_iload hx hb dX7_closeBefore_87 (lv_at hl 5 rfl) ?_
  obtain ⟨hk7, hf⟩ := zc_s hf
  obtain ⟨r8, σ9, hcr8, hf⟩ := zq_s hf
  refine xV (As := [.int v5]) (rest := [.int v5, .int v5, .ref (gB g + b6)]) (st1 := [.int r8, .int v5, .int v5, .ref (gB g + b6)]) E hR hS hl (C_X2_valueOf hcr8) hk7 ok2 lb_X2_valueOf lv_X2_valueOf ml_X7_68 ⟨Nat.le_of_ble_eq_true rfl, Nat.le_of_ble_eq_true rfl⟩ rfl rfl rfl (Nat.le_of_ble_eq_true rfl) dX7_closeBefore_89 ⟨hc, hs⟩ (fun H locs hR hS => ?_)
  refine lv_aload_n hx hb dX7_closeBefore_92 rfl (lv_at hl 0 rfl) ?_
  refine lv_aload_n hx hb dX7_closeBefore_93 rfl (lv_at hl 0 rfl) ?_
  obtain ⟨hk10, hf⟩ := zc_s hf
  obtain ⟨b11, hb11, hf⟩ := zr_s hf
  refine x_getR E hR hk10 hb11 ok7 (Nat.le_of_ble_eq_true rfl) rfl fl_X7_9 dX7_closeBefore_94 ?_
  refine lv_iload hx hb dX7_closeBefore_97 (lv_at hl 5 rfl) ?_
  obtain ⟨hk12, hf⟩ := zc_s hf
  refine x_ild E hR hk12 dX7_closeBefore_99 ?_
  refine lv_iload hx hb dX7_closeBefore_100 (lv_at hl 5 rfl) ?_
  obtain ⟨r13, σ14, hcr13, hf⟩ := zq_s hf
  refine xV (As := [.int (mD σ9 b11 (ix v5)), .int v5]) (rest := [.int r8, .int v5, .int v5, .ref (gB g + b6)]) (st1 := [.int r13, .int r8, .int v5, .int v5, .ref (gB g + b6)]) E hR hS hl (C_X7_digestOr hcr13) hk10 ok7 lb_X7_digestOr lv_X7_digestOr ml_X7_38 ⟨Nat.le_of_ble_eq_true rfl, Nat.le_of_ble_eq_true rfl⟩ rfl rfl rfl (Nat.le_of_ble_eq_true rfl) dX7_closeBefore_102 ⟨hc, hs⟩ (fun H locs hR hS => ?_)
  refine lv_aload_n hx hb dX7_closeBefore_105 rfl (lv_at hl 0 rfl) ?_
  refine lv_iload_n hx hb dX7_closeBefore_106 rfl (lv_at hl 3 rfl) ?_
  refine lv_iload_n hx hb dX7_closeBefore_107 rfl (lv_at hl 1 rfl) ?_
  obtain ⟨hk15, hf⟩ := zc_s hf
  obtain ⟨r16, σ17, hcr16, hf⟩ := zq_s hf
  refine xV (As := [.int v3, .int v1]) (rest := [.int r13, .int r8, .int v5, .int v5, .ref (gB g + b6)]) (st1 := [.int r16, .int r13, .int r8, .int v5, .int v5, .ref (gB g + b6)]) E hR hS hl (C_X7_digestOr hcr16) hk15 ok7 lb_X7_digestOr lv_X7_digestOr ml_X7_38 ⟨Nat.le_of_ble_eq_true rfl, Nat.le_of_ble_eq_true rfl⟩ rfl rfl rfl (Nat.le_of_ble_eq_true rfl) dX7_closeBefore_108 ⟨hc, hs⟩ (fun H locs hR hS => ?_)
  obtain ⟨r18, σ19, hcr18, hf⟩ := zq_s hf
  refine xSN (As := [.int v5, .int r8, .int r13, .int r16]) (rest := [.int v5, .ref (gB g + b6)]) (st1 := [.int r18, .int v5, .ref (gB g + b6)]) E hR hS hl (C_X8_digestOfNode hcr18) lb_X8_digestOfNode ls_X8_digestOfNode nl_X7_72 ⟨Nat.le_of_ble_eq_true rfl, Nat.le_of_ble_eq_true rfl⟩ rfl rfl rfl (Nat.le_of_ble_eq_true rfl) dX7_closeBefore_111 ⟨hc, hs⟩ (fun H locs hR hS => ?_)
  obtain ⟨hk20, hf⟩ := zc_s hf
  obtain ⟨σ21, eσ21, hf⟩ := zl_s hf
  refine x_ist E hR hS hk20 dX7_closeBefore_114 (fun H locs hR hS => ?_)
  rw [← eσ21] at hR
  refine lv_iload hx hb dX7_closeBefore_115 (lv_at hl 5 rfl) ?_
  refine lv_istore_n (lv' := [(3, .int v5), (0, .ref (gB g + v0)), (1, .int v1), (2, .ref (gB g + v2)), (4, .int v4), (5, .int v5)]) hx hb dX7_closeBefore_117 rfl hl (Nat.le_of_ble_eq_true rfl) rfl (fun ls hl => ?_)
  refine lv_iinc (v := (v4 + (1 : Int32))) (lv' := [(4, .int (v4 + (1 : Int32))), (3, .int v5), (0, .ref (gB g + v0)), (1, .int v1), (2, .ref (gB g + v2)), (5, .int v5)]) hx hb dX7_closeBefore_118 hl (k := 4) rfl rfl (Nat.le_of_ble_eq_true rfl) rfl (fun ls hl => ?_)
  refine lv_goto (tgt := 6) hx hb dX7_closeBefore_121 (by decide) ?_
  exact hk_6 _ _ _ _ _ _ _ _ hf p e s m args below meth c _ _ _ _ _ E hR hS (lv_sub hl [2, 3, 4, 1, 0] rfl) hc hs
set_option maxRecDepth 100000 in
def f_X7_closeBefore_6 : Nat → Nat → Int32 → Nat → Int32 → Int32 → Mm → Option (Int32 × Mm)
  | 0, _, _, _, _, _, _ => none
  | n + 1, v0, v1, v2, v3, v4, σ =>
    if (100 : Int32) ≤ v4 then (some (v3, σ)) else (zck (kO σ v0 7) (if (mD σ v0 5) ≤ 0 then (some (v3, σ)) else (zrb (mR σ v0 4) (fun b25 => zck (kA σ 1 b25 ((mD σ v0 5) - (1 : Int32))) (zcb (f_X8_isNumber (mD σ b25 (ix ((mD σ v0 5) - (1 : Int32)))) σ) (fun r27 σ28 => if r27 = 0 then (some (v3, σ28)) else (zcb (f_X8_isNumber v1 σ28) (fun r30 σ31 => if r30 = 0 then (f_X7_closeBefore_60 (f_X7_closeBefore_6 n) v0 v1 v2 v3 v4 (mD σ b25 (ix ((mD σ v0 5) - (1 : Int32)))) σ31) else (zcb (f_X8_isAbove (mD σ b25 (ix ((mD σ v0 5) - (1 : Int32)))) v1 σ31) (fun r33 σ34 => if r33 = 0 then (f_X7_closeBefore_60 (f_X7_closeBefore_6 n) v0 v1 v2 v3 v4 (mD σ b25 (ix ((mD σ v0 5) - (1 : Int32)))) σ34) else (some (v3, σ34))))))))))))
set_option maxRecDepth 100000 in
set_option maxHeartbeats 4000000 in
theorem V_X7_closeBefore_6 {g : GG} : ∀ (n : Nat) (v0 : Nat) (v1 : Int32) (v2 : Nat) (v3 : Int32) (v4 : Int32) (σ : Mm) (r : Int32) (σ' : Mm), f_X7_closeBefore_6 n v0 v1 v2 v3 v4 σ = some (r, σ') → VJ g RX7 cX7_closeBefore 6 (some .int) false rm_X7_closeBefore (some (.int r)) σ' (0) (0) 6 [(0, .ref (gB g + v0)), (1, .int v1), (2, .ref (gB g + v2)), (3, .int v3), (4, .int v4)] [] σ := by
  intro n
  induction n with
  | zero =>
    intro v0 v1 v2 v3 v4 σ r σ' hf
    unfold f_X7_closeBefore_6 at hf
    cases hf
  | succ n ih =>
    intro v0 v1 v2 v3 v4 σ r σ' hf p e s m args below meth c H locs cells slots ls E hR hS hl hc hs
    obtain ⟨hx, hb, hml, hr, hlocks, hown, hts, hin, hT⟩ := id E
    unfold f_X7_closeBefore_6 at hf
    refine lv_iload hx hb dX7_closeBefore_6 (lv_at hl 4 rfl) ?_
    refine lv_bipush (v := (100 : Int32)) hx hb dX7_closeBefore_8 rfl ?_
    refine lv_icmp_ge (tgt := 124) hx hb dX7_closeBefore_10 (by decide) (fun hq22 => ?_) (fun hq22 => ?_)
    · have hf := ite_p hq22 hf
      refine lv_iload_n hx hb dX7_closeBefore_124 rfl (lv_at hl 3 rfl) ?_
      obtain ⟨hr1, hs1⟩ := Prod.mk.inj (Option.some.inj hf)
      exact xr_i E hR hS rfl (by rw [hr1]) hs1.symm hc hs dX7_closeBefore_125
    · have hf := ite_n hq22 hf
      refine lv_aload_n hx hb dX7_closeBefore_13 rfl (lv_at hl 0 rfl) ?_
      obtain ⟨hk23, hf⟩ := zc_s hf
      refine x_getI E hR hk23 ok7 5 (Nat.le_of_ble_eq_true rfl) rfl fl_X7_52 dX7_closeBefore_14 ?_
      refine lv_if_le (tgt := 124) hx hb dX7_closeBefore_17 (by decide) (fun hq24 => ?_) (fun hq24 => ?_)
      · have hf := ite_p hq24 hf
        refine lv_iload_n hx hb dX7_closeBefore_124 rfl (lv_at hl 3 rfl) ?_
        obtain ⟨hr1, hs1⟩ := Prod.mk.inj (Option.some.inj hf)
        exact xr_i E hR hS rfl (by rw [hr1]) hs1.symm hc hs dX7_closeBefore_125
      · have hf := ite_n hq24 hf
        refine lv_aload_n hx hb dX7_closeBefore_20 rfl (lv_at hl 0 rfl) ?_
        obtain ⟨b25, hb25, hf⟩ := zr_s hf
        refine x_getR E hR hk23 hb25 ok7 (Nat.le_of_ble_eq_true rfl) rfl fl_X7_24 dX7_closeBefore_21 ?_
        refine lv_aload_n hx hb dX7_closeBefore_24 rfl (lv_at hl 0 rfl) ?_
        refine x_getI E hR hk23 ok7 5 (Nat.le_of_ble_eq_true rfl) rfl fl_X7_52 dX7_closeBefore_25 ?_
        refine lv_iconst (v := (1 : Int32)) hx hb dX7_closeBefore_28 rfl ?_
        refine lv_isub hx hb dX7_closeBefore_29 ?_
        obtain ⟨hk26, hf⟩ := zc_s hf
        refine x_ild E hR hk26 dX7_closeBefore_30 ?_
        refine lv_istore (lv' := [(5, .int (mD σ b25 (ix ((mD σ v0 5) - (1 : Int32))))), (0, .ref (gB g + v0)), (1, .int v1), (2, .ref (gB g + v2)), (3, .int v3), (4, .int v4)]) hx hb dX7_closeBefore_31 hl (Nat.le_of_ble_eq_true rfl) rfl (fun ls hl => ?_)
        refine lv_iload hx hb dX7_closeBefore_33 (lv_at hl 0 rfl) ?_
        obtain ⟨r27, σ28, hcr27, hf⟩ := zq_s hf
        refine xSN (As := [.int (mD σ b25 (ix ((mD σ v0 5) - (1 : Int32))))]) (rest := []) (st1 := [.int r27]) E hR hS hl (C_X8_isNumber hcr27) lb_X8_isNumber ls_X8_isNumber nl_X7_42 ⟨Nat.le_of_ble_eq_true rfl, Nat.le_of_ble_eq_true rfl⟩ rfl rfl rfl (Nat.le_of_ble_eq_true rfl) dX7_closeBefore_35 ⟨hc, hs⟩ (fun H locs hR hS => ?_)
        refine lv_if_eq (tgt := 124) hx hb dX7_closeBefore_38 (by decide) (fun hq29 => ?_) (fun hq29 => ?_)
        · have hf := ite_p hq29 hf
          refine lv_iload_n hx hb dX7_closeBefore_124 rfl (lv_at hl 4 rfl) ?_
          obtain ⟨hr1, hs1⟩ := Prod.mk.inj (Option.some.inj hf)
          exact xr_i E hR hS rfl (by rw [hr1]) hs1.symm hc hs dX7_closeBefore_125
        · have hf := ite_n hq29 hf
          refine lv_iload_n hx hb dX7_closeBefore_41 rfl (lv_at hl 2 rfl) ?_
          obtain ⟨r30, σ31, hcr30, hf⟩ := zq_s hf
          refine xSN (As := [.int v1]) (rest := []) (st1 := [.int r30]) E hR hS hl (C_X8_isNumber hcr30) lb_X8_isNumber ls_X8_isNumber nl_X7_42 ⟨Nat.le_of_ble_eq_true rfl, Nat.le_of_ble_eq_true rfl⟩ rfl rfl rfl (Nat.le_of_ble_eq_true rfl) dX7_closeBefore_42 ⟨hc, hs⟩ (fun H locs hR hS => ?_)
          refine lv_if_eq (tgt := 60) hx hb dX7_closeBefore_45 (by decide) (fun hq32 => ?_) (fun hq32 => ?_)
          · have hf := ite_p hq32 hf
            exact V_X7_closeBefore_60 _ ih _ _ _ _ _ _ _ _ _ hf p e s m args below meth c _ _ _ _ _ E hR hS (lv_sub hl [1, 2, 3, 4, 5, 0] rfl) hc hs
          · have hf := ite_n hq32 hf
            refine lv_iload hx hb dX7_closeBefore_48 (lv_at hl 0 rfl) ?_
            refine lv_iload_n hx hb dX7_closeBefore_50 rfl (lv_at hl 2 rfl) ?_
            obtain ⟨r33, σ34, hcr33, hf⟩ := zq_s hf
            refine xSN (As := [.int (mD σ b25 (ix ((mD σ v0 5) - (1 : Int32)))), .int v1]) (rest := []) (st1 := [.int r33]) E hR hS hl (C_X8_isAbove hcr33) lb_X8_isAbove ls_X8_isAbove nl_X7_64 ⟨Nat.le_of_ble_eq_true rfl, Nat.le_of_ble_eq_true rfl⟩ rfl rfl rfl (Nat.le_of_ble_eq_true rfl) dX7_closeBefore_51 ⟨hc, hs⟩ (fun H locs hR hS => ?_)
            refine lv_if_eq (tgt := 60) hx hb dX7_closeBefore_54 (by decide) (fun hq35 => ?_) (fun hq35 => ?_)
            · have hf := ite_p hq35 hf
              exact V_X7_closeBefore_60 _ ih _ _ _ _ _ _ _ _ _ hf p e s m args below meth c _ _ _ _ _ E hR hS (lv_sub hl [1, 2, 3, 4, 5, 0] rfl) hc hs
            · have hf := ite_n hq35 hf
              refine lv_goto (tgt := 124) hx hb dX7_closeBefore_57 (by decide) ?_
              refine lv_iload_n hx hb dX7_closeBefore_124 rfl (lv_at hl 4 rfl) ?_
              obtain ⟨hr1, hs1⟩ := Prod.mk.inj (Option.some.inj hf)
              exact xr_i E hR hS rfl (by rw [hr1]) hs1.symm hc hs dX7_closeBefore_125
set_option maxRecDepth 100000 in
def f_X7_closeBefore (v0 : Nat) (v1 : Int32) (v2 : Nat) (σ : Mm) : Option (Int32 × Mm) :=
  f_X7_closeBefore_6 1000 v0 v1 v2 (-9 : Int32) (0 : Int32) σ
set_option maxRecDepth 100000 in
set_option maxHeartbeats 4000000 in
theorem V_X7_closeBefore_0 {g : GG} (v0 : Nat) (v1 : Int32) (v2 : Nat) (σ : Mm) (r : Int32) (σ' : Mm) (hf : f_X7_closeBefore v0 v1 v2 σ = some (r, σ')) : VJ g RX7 cX7_closeBefore 6 (some .int) false rm_X7_closeBefore (some (.int r)) σ' (0) (0) 0 [(0, .ref (gB g + v0)), (1, .int v1), (2, .ref (gB g + v2))] [] σ := by
  intro p e s m args below meth c H locs cells slots ls E hR hS hl hc hs
  obtain ⟨hx, hb, hml, hr, hlocks, hown, hts, hin, hT⟩ := id E
  unfold f_X7_closeBefore at hf
  refine lv_bipush (v := (-9 : Int32)) hx hb dX7_closeBefore_0 rfl ?_
  refine lv_istore_n (lv' := [(3, .int (-9 : Int32)), (0, .ref (gB g + v0)), (1, .int v1), (2, .ref (gB g + v2))]) hx hb dX7_closeBefore_2 rfl hl (Nat.le_of_ble_eq_true rfl) rfl (fun ls hl => ?_)
  refine lv_iconst (v := (0 : Int32)) hx hb dX7_closeBefore_3 rfl ?_
  refine lv_istore (lv' := [(4, .int (0 : Int32)), (3, .int (-9 : Int32)), (0, .ref (gB g + v0)), (1, .int v1), (2, .ref (gB g + v2))]) hx hb dX7_closeBefore_4 hl (Nat.le_of_ble_eq_true rfl) rfl (fun ls hl => ?_)
  exact V_X7_closeBefore_6  1000 _ _ _ _ _ _ _ _ hf p e s m args below meth c _ _ _ _ _ E hR hS (lv_sub hl [2, 3, 4, 1, 0] rfl) hc hs
theorem C_X7_closeBefore {g : GG} {v0 : Nat} {v1 : Int32} {v2 : Nat} {σ : Mm} {r : Int32} {σ' : Mm} (hf : f_X7_closeBefore v0 v1 v2 σ = some (r, σ')) : Ct g yX7_closeBefore cX7_closeBefore 6 (some .int) rm_X7_closeBefore [.ref (gB g + v0), .int v1, .ref (gB g + v2)] σ (some (.int r)) σ' :=
  Ct.of false (by decide +kernel) (fun h => by cases h) (Nat.le_of_ble_eq_true rfl) (V_X7_closeBefore_0 _ _ _ _ _ _ hf)
abbrev rm_X7_grow : Room := { frames := 3, cells := 0, slots := 0, locals := 72 }
set_option maxRecDepth 100000 in
def f_X7_grow_70 (k_15 : Nat → Nat → Int32 → Mm → Option (Unit × Mm)) (v0 : Nat) (v1 : Nat) (v2 : Int32) (σ : Mm) : Option (Unit × Mm) :=
  k_15 v0 v1 (v2 + (1 : Int32)) σ
set_option maxRecDepth 100000 in
set_option maxHeartbeats 4000000 in
theorem V_X7_grow_70 {g : GG} (k_15 : Nat → Nat → Int32 → Mm → Option (Unit × Mm)) (hk_15 : ∀ (v0 : Nat) (v1 : Nat) (v2 : Int32) (σ : Mm) (r : Unit) (σ' : Mm), k_15 v0 v1 v2 σ = some (r, σ') → VJ g RX7 cX7_grow 3 none false rm_X7_grow none σ' (0) (0) 15 [(0, .ref (gB g + v0)), (1, .ref (gB g + v1)), (2, .int v2)] [] σ) (v0 : Nat) (v1 : Nat) (v2 : Int32) (σ : Mm) (r : Unit) (σ' : Mm) (hf : f_X7_grow_70 k_15 v0 v1 v2 σ = some (r, σ')) : VJ g RX7 cX7_grow 3 none false rm_X7_grow none σ' (0) (0) 70 [(0, .ref (gB g + v0)), (1, .ref (gB g + v1)), (2, .int v2)] [] σ := by
  intro p e s m args below meth c H locs cells slots ls E hR hS hl hc hs
  obtain ⟨hx, hb, hml, hr, hlocks, hown, hts, hin, hT⟩ := id E
  unfold f_X7_grow_70 at hf
  refine lv_iinc (v := (v2 + (1 : Int32))) (lv' := [(2, .int (v2 + (1 : Int32))), (0, .ref (gB g + v0)), (1, .ref (gB g + v1))]) hx hb dX7_grow_70 hl (k := 2) rfl rfl (Nat.le_of_ble_eq_true rfl) rfl (fun ls hl => ?_)
  refine lv_goto (tgt := 15) hx hb dX7_grow_73 (by decide) ?_
  exact hk_15 _ _ _ _ _ _ hf p e s m args below meth c _ _ _ _ _ E hR hS (lv_sub hl [1, 2, 0] rfl) hc hs
set_option maxRecDepth 100000 in
def f_X7_grow_15 : Nat → Nat → Nat → Int32 → Mm → Option (Unit × Mm)
  | 0, _, _, _, _ => none
  | n + 1, v0, v1, v2, σ =>
    if (100 : Int32) ≤ v2 then (zck (kO σ v0 7) (zcb (f_X7_closeBefore v0 (100 : Int32) v1 σ) (fun r3 σ4 => zck (kO σ4 v0 7) (zlt (sD σ4 v0 6 r3) (fun σ6 => some ((), σ6)))))) else (zck (kO σ v1 2) (zcb (f_X2_has v1 v2 σ) (fun r8 σ9 => if r8 = 0 then (f_X7_grow_70 (f_X7_grow_15 n) v0 v1 v2 σ9) else (zck (kO σ9 v0 7) (zrb (mR σ9 v0 0) (fun b12 => zcb (f_X7_closeBefore v0 v2 v1 σ9) (fun r13 σ14 => zck (kA σ14 1 b12 v2) (zlt (sD σ14 b12 (ix v2) r13) (fun σ16 => zck (kO σ16 v0 7) (if (100 : Int32) ≤ (mD σ16 v0 5) then (f_X7_grow_70 (f_X7_grow_15 n) v0 v1 v2 σ16) else (zrb (mR σ16 v0 4) (fun b19 => zck (kA σ16 1 b19 (mD σ16 v0 5)) (zlt (sD σ16 b19 (ix (mD σ16 v0 5)) v2) (fun σ21 => zlt (sD σ21 v0 5 ((mD σ21 v0 5) + (1 : Int32))) (fun σ22 => f_X7_grow_70 (f_X7_grow_15 n) v0 v1 v2 σ22)))))))))))))))
set_option maxRecDepth 100000 in
set_option maxHeartbeats 4000000 in
theorem V_X7_grow_15 {g : GG} : ∀ (n : Nat) (v0 : Nat) (v1 : Nat) (v2 : Int32) (σ : Mm) (r : Unit) (σ' : Mm), f_X7_grow_15 n v0 v1 v2 σ = some (r, σ') → VJ g RX7 cX7_grow 3 none false rm_X7_grow none σ' (0) (0) 15 [(0, .ref (gB g + v0)), (1, .ref (gB g + v1)), (2, .int v2)] [] σ := by
  intro n
  induction n with
  | zero =>
    intro v0 v1 v2 σ r σ' hf
    unfold f_X7_grow_15 at hf
    cases hf
  | succ n ih =>
    intro v0 v1 v2 σ r σ' hf p e s m args below meth c H locs cells slots ls E hR hS hl hc hs
    obtain ⟨hx, hb, hml, hr, hlocks, hown, hts, hin, hT⟩ := id E
    unfold f_X7_grow_15 at hf
    refine lv_iload_n hx hb dX7_grow_15 rfl (lv_at hl 2 rfl) ?_
    refine lv_bipush (v := (100 : Int32)) hx hb dX7_grow_16 rfl ?_
    refine lv_icmp_ge (tgt := 76) hx hb dX7_grow_18 (by decide) (fun hq1 => ?_) (fun hq1 => ?_)
    · have hf := ite_p hq1 hf
      refine lv_aload_n hx hb dX7_grow_76 rfl (lv_at hl 0 rfl) ?_
      refine lv_aload_n hx hb dX7_grow_77 rfl (lv_at hl 0 rfl) ?_
      refine lv_bipush (v := (100 : Int32)) hx hb dX7_grow_78 rfl ?_
      refine lv_aload_n hx hb dX7_grow_80 rfl (lv_at hl 1 rfl) ?_
      obtain ⟨hk2, hf⟩ := zc_s hf
      obtain ⟨r3, σ4, hcr3, hf⟩ := zq_s hf
      refine xV (As := [.int (100 : Int32), .ref (gB g + v1)]) (rest := [.ref (gB g + v0)]) (st1 := [.int r3, .ref (gB g + v0)]) E hR hS hl (C_X7_closeBefore hcr3) hk2 ok7 lb_X7_closeBefore lv_X7_closeBefore ml_X7_60 ⟨Nat.le_of_ble_eq_true rfl, Nat.le_of_ble_eq_true rfl⟩ rfl rfl rfl (Nat.le_of_ble_eq_true rfl) dX7_grow_81 ⟨hc, hs⟩ (fun H locs hR hS => ?_)
      obtain ⟨hk5, hf⟩ := zc_s hf
      obtain ⟨σ6, eσ6, hf⟩ := zl_s hf
      refine x_putI E hR hS hk5 ok7 6 (Nat.le_of_ble_eq_true rfl) rfl fl_X7_27 (Or.inl rfl) rfl rfl dX7_grow_84 (fun H locs hR hS => ?_)
      rw [← eσ6] at hR
      obtain ⟨hr1, hs1⟩ := Prod.mk.inj (Option.some.inj hf)
      exact xr_v E hR hS rfl rfl hs1.symm hc hs dX7_grow_87
    · have hf := ite_n hq1 hf
      refine lv_aload_n hx hb dX7_grow_21 rfl (lv_at hl 1 rfl) ?_
      refine lv_iload_n hx hb dX7_grow_22 rfl (lv_at hl 2 rfl) ?_
      obtain ⟨hk7, hf⟩ := zc_s hf
      obtain ⟨r8, σ9, hcr8, hf⟩ := zq_s hf
      refine xV (As := [.int v2]) (rest := []) (st1 := [.int r8]) E hR hS hl (C_X2_has hcr8) hk7 ok2 lb_X2_has lv_X2_has ml_X7_55 ⟨Nat.le_of_ble_eq_true rfl, Nat.le_of_ble_eq_true rfl⟩ rfl rfl rfl (Nat.le_of_ble_eq_true rfl) dX7_grow_23 ⟨hc, hs⟩ (fun H locs hR hS => ?_)
      refine lv_if_eq (tgt := 70) hx hb dX7_grow_26 (by decide) (fun hq10 => ?_) (fun hq10 => ?_)
      · have hf := ite_p hq10 hf
        exact V_X7_grow_70 _ ih _ _ _ _ _ _ hf p e s m args below meth c _ _ _ _ _ E hR hS (lv_sub hl [0, 1, 2] rfl) hc hs
      · have hf := ite_n hq10 hf
        refine lv_aload_n hx hb dX7_grow_29 rfl (lv_at hl 0 rfl) ?_
        obtain ⟨hk11, hf⟩ := zc_s hf
        obtain ⟨b12, hb12, hf⟩ := zr_s hf
        refine x_getR E hR hk11 hb12 ok7 (Nat.le_of_ble_eq_true rfl) rfl fl_X7_9 dX7_grow_30 ?_
        refine lv_iload_n hx hb dX7_grow_33 rfl (lv_at hl 2 rfl) ?_
        refine lv_aload_n hx hb dX7_grow_34 rfl (lv_at hl 0 rfl) ?_
        refine lv_iload_n hx hb dX7_grow_35 rfl (lv_at hl 2 rfl) ?_
        refine lv_aload_n hx hb dX7_grow_36 rfl (lv_at hl 1 rfl) ?_
        obtain ⟨r13, σ14, hcr13, hf⟩ := zq_s hf
        refine xV (As := [.int v2, .ref (gB g + v1)]) (rest := [.int v2, .ref (gB g + b12)]) (st1 := [.int r13, .int v2, .ref (gB g + b12)]) E hR hS hl (C_X7_closeBefore hcr13) hk11 ok7 lb_X7_closeBefore lv_X7_closeBefore ml_X7_60 ⟨Nat.le_of_ble_eq_true rfl, Nat.le_of_ble_eq_true rfl⟩ rfl rfl rfl (Nat.le_of_ble_eq_true rfl) dX7_grow_37 ⟨hc, hs⟩ (fun H locs hR hS => ?_)
        obtain ⟨hk15, hf⟩ := zc_s hf
        obtain ⟨σ16, eσ16, hf⟩ := zl_s hf
        refine x_ist E hR hS hk15 dX7_grow_40 (fun H locs hR hS => ?_)
        rw [← eσ16] at hR
        refine lv_aload_n hx hb dX7_grow_41 rfl (lv_at hl 0 rfl) ?_
        obtain ⟨hk17, hf⟩ := zc_s hf
        refine x_getI E hR hk17 ok7 5 (Nat.le_of_ble_eq_true rfl) rfl fl_X7_52 dX7_grow_42 ?_
        refine lv_bipush (v := (100 : Int32)) hx hb dX7_grow_45 rfl ?_
        refine lv_icmp_ge (tgt := 70) hx hb dX7_grow_47 (by decide) (fun hq18 => ?_) (fun hq18 => ?_)
        · have hf := ite_p hq18 hf
          exact V_X7_grow_70 _ ih _ _ _ _ _ _ hf p e s m args below meth c _ _ _ _ _ E hR hS (lv_sub hl [0, 1, 2] rfl) hc hs
        · have hf := ite_n hq18 hf
          refine lv_aload_n hx hb dX7_grow_50 rfl (lv_at hl 0 rfl) ?_
          obtain ⟨b19, hb19, hf⟩ := zr_s hf
          refine x_getR E hR hk17 hb19 ok7 (Nat.le_of_ble_eq_true rfl) rfl fl_X7_24 dX7_grow_51 ?_
          refine lv_aload_n hx hb dX7_grow_54 rfl (lv_at hl 0 rfl) ?_
          refine x_getI E hR hk17 ok7 5 (Nat.le_of_ble_eq_true rfl) rfl fl_X7_52 dX7_grow_55 ?_
          refine lv_iload_n hx hb dX7_grow_58 rfl (lv_at hl 2 rfl) ?_
          obtain ⟨hk20, hf⟩ := zc_s hf
          obtain ⟨σ21, eσ21, hf⟩ := zl_s hf
          refine x_ist E hR hS hk20 dX7_grow_59 (fun H locs hR hS => ?_)
          rw [← eσ21] at hR
          refine lv_aload_n hx hb dX7_grow_60 rfl (lv_at hl 0 rfl) ?_
          refine lv_dup hx hb dX7_grow_61 rfl ?_
          refine x_getI E hR (by rw [eσ21]; exact hk17) ok7 5 (Nat.le_of_ble_eq_true rfl) rfl fl_X7_52 dX7_grow_62 ?_
          refine lv_iconst (v := (1 : Int32)) hx hb dX7_grow_65 rfl ?_
          refine lv_iadd hx hb dX7_grow_66 ?_
          obtain ⟨σ22, eσ22, hf⟩ := zl_s hf
          refine x_putI E hR hS (by rw [eσ21]; exact hk17) ok7 5 (Nat.le_of_ble_eq_true rfl) rfl fl_X7_52 (Or.inl rfl) rfl rfl dX7_grow_67 (fun H locs hR hS => ?_)
          rw [← eσ22] at hR
          exact V_X7_grow_70 _ ih _ _ _ _ _ _ hf p e s m args below meth c _ _ _ _ _ E hR hS (lv_sub hl [0, 1, 2] rfl) hc hs
set_option maxRecDepth 100000 in
def f_X7_grow (v0 : Nat) (v1 : Nat) (σ : Mm) : Option (Unit × Mm) :=
  zck (kO σ v0 7) (zrb (mR σ v0 2) (fun b24 => zcb (f_J7_fill_53178 b24 (0 : Int32) σ) (fun r25 σ26 => zck (kO σ26 v0 7) (zlt (sD σ26 v0 5 (0 : Int32)) (fun σ28 => f_X7_grow_15 1000 v0 v1 (0 : Int32) σ28)))))
set_option maxRecDepth 100000 in
set_option maxHeartbeats 4000000 in
theorem V_X7_grow_0 {g : GG} (v0 : Nat) (v1 : Nat) (σ : Mm) (r : Unit) (σ' : Mm) (hf : f_X7_grow v0 v1 σ = some (r, σ')) : VJ g RX7 cX7_grow 3 none false rm_X7_grow none σ' (0) (0) 0 [(0, .ref (gB g + v0)), (1, .ref (gB g + v1))] [] σ := by
  intro p e s m args below meth c H locs cells slots ls E hR hS hl hc hs
  obtain ⟨hx, hb, hml, hr, hlocks, hown, hts, hin, hT⟩ := id E
  unfold f_X7_grow at hf
  refine lv_aload_n hx hb dX7_grow_0 rfl (lv_at hl 0 rfl) ?_
  obtain ⟨hk23, hf⟩ := zc_s hf
  obtain ⟨b24, hb24, hf⟩ := zr_s hf
  refine x_getR E hR hk23 hb24 ok7 (Nat.le_of_ble_eq_true rfl) rfl fl_X7_18 dX7_grow_1 ?_
  refine lv_iconst (v := (0 : Int32)) hx hb dX7_grow_4 rfl ?_
  obtain ⟨r25, σ26, hcr25, hf⟩ := zq_s hf
  refine xS (As := [.ref (gB g + b24), .int (0 : Int32)]) (rest := []) (st1 := []) E hR hS hl (C_J7_fill_53178 hcr25) lb_J7_fill_53178 ls_J7_fill_53178 ml_X7_46 ⟨Nat.le_of_ble_eq_true rfl, Nat.le_of_ble_eq_true rfl⟩ rfl rfl rfl (Nat.le_of_ble_eq_true rfl) dX7_grow_5 ⟨hc, hs⟩ (fun H locs hR hS => ?_)
  refine lv_aload_n hx hb dX7_grow_8 rfl (lv_at hl 0 rfl) ?_
  refine lv_iconst (v := (0 : Int32)) hx hb dX7_grow_9 rfl ?_
  obtain ⟨hk27, hf⟩ := zc_s hf
  obtain ⟨σ28, eσ28, hf⟩ := zl_s hf
  refine x_putI E hR hS hk27 ok7 5 (Nat.le_of_ble_eq_true rfl) rfl fl_X7_52 (Or.inl rfl) rfl rfl dX7_grow_10 (fun H locs hR hS => ?_)
  rw [← eσ28] at hR
  refine lv_iconst (v := (0 : Int32)) hx hb dX7_grow_13 rfl ?_
  refine lv_istore_n (lv' := [(2, .int (0 : Int32)), (0, .ref (gB g + v0)), (1, .ref (gB g + v1))]) hx hb dX7_grow_14 rfl hl (Nat.le_of_ble_eq_true rfl) rfl (fun ls hl => ?_)
  exact V_X7_grow_15  1000 _ _ _ _ _ _ hf p e s m args below meth c _ _ _ _ _ E hR hS (lv_sub hl [1, 2, 0] rfl) hc hs
theorem C_X7_grow {g : GG} {v0 : Nat} {v1 : Nat} {σ : Mm} {r : Unit} {σ' : Mm} (hf : f_X7_grow v0 v1 σ = some (r, σ')) : Ct g yX7_grow cX7_grow 3 none rm_X7_grow [.ref (gB g + v0), .ref (gB g + v1)] σ none σ' :=
  Ct.of false (by decide +kernel) (fun h => by cases h) (Nat.le_of_ble_eq_true rfl) (V_X7_grow_0 _ _ _ _ _ hf)
abbrev rm_X7_rootDigest : Room := { frames := 2, cells := 0, slots := 0, locals := 42 }
set_option maxRecDepth 100000 in
def f_X7_rootDigest (v0 : Nat) (σ : Mm) : Option (Int32 × Mm) :=
  zck (kO σ v0 7) (zcb (f_X7_digestOr v0 (mD σ v0 6) (100 : Int32) σ) (fun r2 σ3 => some (r2, σ3)))
set_option maxRecDepth 100000 in
set_option maxHeartbeats 4000000 in
theorem V_X7_rootDigest_0 {g : GG} (v0 : Nat) (σ : Mm) (r : Int32) (σ' : Mm) (hf : f_X7_rootDigest v0 σ = some (r, σ')) : VJ g RX7 cX7_rootDigest 1 (some .int) false rm_X7_rootDigest (some (.int r)) σ' (0) (0) 0 [(0, .ref (gB g + v0))] [] σ := by
  intro p e s m args below meth c H locs cells slots ls E hR hS hl hc hs
  obtain ⟨hx, hb, hml, hr, hlocks, hown, hts, hin, hT⟩ := id E
  unfold f_X7_rootDigest at hf
  refine lv_aload_n hx hb dX7_rootDigest_0 rfl (lv_at hl 0 rfl) ?_
  refine lv_aload_n hx hb dX7_rootDigest_1 rfl (lv_at hl 0 rfl) ?_
  obtain ⟨hk1, hf⟩ := zc_s hf
  refine x_getI E hR hk1 ok7 6 (Nat.le_of_ble_eq_true rfl) rfl fl_X7_27 dX7_rootDigest_2 ?_
  refine lv_bipush (v := (100 : Int32)) hx hb dX7_rootDigest_5 rfl ?_
  obtain ⟨r2, σ3, hcr2, hf⟩ := zq_s hf
  refine xV (As := [.int (mD σ v0 6), .int (100 : Int32)]) (rest := []) (st1 := [.int r2]) E hR hS hl (C_X7_digestOr hcr2) hk1 ok7 lb_X7_digestOr lv_X7_digestOr ml_X7_38 ⟨Nat.le_of_ble_eq_true rfl, Nat.le_of_ble_eq_true rfl⟩ rfl rfl rfl (Nat.le_of_ble_eq_true rfl) dX7_rootDigest_7 ⟨hc, hs⟩ (fun H locs hR hS => ?_)
  obtain ⟨hr1, hs1⟩ := Prod.mk.inj (Option.some.inj hf)
  exact xr_i E hR hS rfl (by rw [hr1]) hs1.symm hc hs dX7_rootDigest_10
theorem C_X7_rootDigest {g : GG} {v0 : Nat} {σ : Mm} {r : Int32} {σ' : Mm} (hf : f_X7_rootDigest v0 σ = some (r, σ')) : Ct g yX7_rootDigest cX7_rootDigest 1 (some .int) rm_X7_rootDigest [.ref (gB g + v0)] σ (some (.int r)) σ' :=
  Ct.of false (by decide +kernel) (fun h => by cases h) (Nat.le_of_ble_eq_true rfl) (V_X7_rootDigest_0 _ _ _ _ hf)
abbrev rm_X5_reasonBy : Room := { frames := 4, cells := 0, slots := 0, locals := 96 }
set_option maxRecDepth 100000 in
def f_X5_reasonBy (v0 : Nat) (v1 : Int32) (v2 : Int32) (σ : Mm) : Option (Int32 × Mm) :=
  zck (kO σ v0 5) (zcb (f_X5_takeIn v0 v1 v2 σ) (fun r2 σ3 => if r2 = 0 then (zck (kO σ3 v0 5) (zrb (mR σ3 v0 5) (fun b6 => zrb (mR σ3 v0 4) (fun b7 => zck (kO σ3 b6 7) (zcb (f_X7_grow b6 b7 σ3) (fun r9 σ10 => zck (kO σ10 v0 5) (zrb (mR σ10 v0 5) (fun b12 => zck (kO σ10 b12 7) (zcb (f_X7_rootDigest b12 σ10) (fun r14 σ15 => zck (kO σ15 v0 5) (if r14 = (mD σ15 v0 1) then (some ((0 : Int32), σ15)) else (zcb (f_X5_isFormer v0 r14 σ15) (fun r18 σ19 => if r18 = 0 then (some ((6 : Int32), σ19)) else (some ((7 : Int32), σ19))))))))))))))) else (some (r2, σ3))))
set_option maxRecDepth 100000 in
set_option maxHeartbeats 4000000 in
theorem V_X5_reasonBy_0 {g : GG} (v0 : Nat) (v1 : Int32) (v2 : Int32) (σ : Mm) (r : Int32) (σ' : Mm) (hf : f_X5_reasonBy v0 v1 v2 σ = some (r, σ')) : VJ g RX5 cX5_reasonBy 5 (some .int) false rm_X5_reasonBy (some (.int r)) σ' (0) (0) 0 [(0, .ref (gB g + v0)), (1, .int v1), (2, .int v2)] [] σ := by
  intro p e s m args below meth c H locs cells slots ls E hR hS hl hc hs
  obtain ⟨hx, hb, hml, hr, hlocks, hown, hts, hin, hT⟩ := id E
  unfold f_X5_reasonBy at hf
  refine lv_aload_n hx hb dX5_reasonBy_0 rfl (lv_at hl 0 rfl) ?_
  refine lv_iload_n hx hb dX5_reasonBy_1 rfl (lv_at hl 1 rfl) ?_
  refine lv_iload_n hx hb dX5_reasonBy_2 rfl (lv_at hl 2 rfl) ?_
  obtain ⟨hk1, hf⟩ := zc_s hf
  obtain ⟨r2, σ3, hcr2, hf⟩ := zq_s hf
  refine xV (As := [.int v1, .int v2]) (rest := []) (st1 := [.int r2]) E hR hS hl (C_X5_takeIn hcr2) hk1 ok5 lb_X5_takeIn lv_X5_takeIn ml_X5_60 ⟨Nat.le_of_ble_eq_true rfl, Nat.le_of_ble_eq_true rfl⟩ rfl rfl rfl (Nat.le_of_ble_eq_true rfl) dX5_reasonBy_3 ⟨hc, hs⟩ (fun H locs hR hS => ?_)
  refine lv_istore_n (lv' := [(3, .int r2), (0, .ref (gB g + v0)), (1, .int v1), (2, .int v2)]) hx hb dX5_reasonBy_6 rfl hl (Nat.le_of_ble_eq_true rfl) rfl (fun ls hl => ?_)
  refine lv_iload_n hx hb dX5_reasonBy_7 rfl (lv_at hl 0 rfl) ?_
  refine lv_if_eq (tgt := 13) hx hb dX5_reasonBy_8 (by decide) (fun hq4 => ?_) (fun hq4 => ?_)
  · have hf := ite_p hq4 hf
    refine lv_aload_n hx hb dX5_reasonBy_13 rfl (lv_at hl 1 rfl) ?_
    obtain ⟨hk5, hf⟩ := zc_s hf
    obtain ⟨b6, hb6, hf⟩ := zr_s hf
    refine x_getR E hR hk5 hb6 ok5 (Nat.le_of_ble_eq_true rfl) rfl fl_X5_32 dX5_reasonBy_14 ?_
    refine lv_aload_n hx hb dX5_reasonBy_17 rfl (lv_at hl 1 rfl) ?_
    obtain ⟨b7, hb7, hf⟩ := zr_s hf
    refine x_getR E hR hk5 hb7 ok5 (Nat.le_of_ble_eq_true rfl) rfl fl_X5_25 dX5_reasonBy_18 ?_
    obtain ⟨hk8, hf⟩ := zc_s hf
    obtain ⟨r9, σ10, hcr9, hf⟩ := zq_s hf
    refine xV (As := [.ref (gB g + b7)]) (rest := []) (st1 := []) E hR hS hl (C_X7_grow hcr9) hk8 ok7 lb_X7_grow lv_X7_grow ml_X5_63 ⟨Nat.le_of_ble_eq_true rfl, Nat.le_of_ble_eq_true rfl⟩ rfl rfl rfl (Nat.le_of_ble_eq_true rfl) dX5_reasonBy_21 ⟨hc, hs⟩ (fun H locs hR hS => ?_)
    refine lv_aload_n hx hb dX5_reasonBy_24 rfl (lv_at hl 1 rfl) ?_
    obtain ⟨hk11, hf⟩ := zc_s hf
    obtain ⟨b12, hb12, hf⟩ := zr_s hf
    refine x_getR E hR hk11 hb12 ok5 (Nat.le_of_ble_eq_true rfl) rfl fl_X5_32 dX5_reasonBy_25 ?_
    obtain ⟨hk13, hf⟩ := zc_s hf
    obtain ⟨r14, σ15, hcr14, hf⟩ := zq_s hf
    refine xV (As := []) (rest := []) (st1 := [.int r14]) E hR hS hl (C_X7_rootDigest hcr14) hk13 ok7 lb_X7_rootDigest lv_X7_rootDigest ml_X5_67 ⟨Nat.le_of_ble_eq_true rfl, Nat.le_of_ble_eq_true rfl⟩ rfl rfl rfl (Nat.le_of_ble_eq_true rfl) dX5_reasonBy_28 ⟨hc, hs⟩ (fun H locs hR hS => ?_)
    refine lv_istore (lv' := [(4, .int r14), (3, .int r2), (0, .ref (gB g + v0)), (1, .int v1), (2, .int v2)]) hx hb dX5_reasonBy_31 hl (Nat.le_of_ble_eq_true rfl) rfl (fun ls hl => ?_)
    refine lv_iload hx hb dX5_reasonBy_33 (lv_at hl 0 rfl) ?_
    refine lv_aload_n hx hb dX5_reasonBy_35 rfl (lv_at hl 2 rfl) ?_
    obtain ⟨hk16, hf⟩ := zc_s hf
    refine x_getI E hR hk16 ok5 1 (Nat.le_of_ble_eq_true rfl) rfl fl_X5_43 dX5_reasonBy_36 ?_
    refine lv_icmp_ne (tgt := 44) hx hb dX5_reasonBy_39 (by decide) (fun hq17 => ?_) (fun hq17 => ?_)
    · have hf := ite_n hq17 hf
      refine lv_aload_n hx hb dX5_reasonBy_44 rfl (lv_at hl 2 rfl) ?_
      refine lv_iload hx hb dX5_reasonBy_45 (lv_at hl 0 rfl) ?_
      obtain ⟨r18, σ19, hcr18, hf⟩ := zq_s hf
      refine xV (As := [.int r14]) (rest := []) (st1 := [.int r18]) E hR hS hl (C_X5_isFormer hcr18) hk16 ok5 lb_X5_isFormer lv_X5_isFormer ml_X5_71 ⟨Nat.le_of_ble_eq_true rfl, Nat.le_of_ble_eq_true rfl⟩ rfl rfl rfl (Nat.le_of_ble_eq_true rfl) dX5_reasonBy_47 ⟨hc, hs⟩ (fun H locs hR hS => ?_)
      refine lv_if_eq (tgt := 58) hx hb dX5_reasonBy_50 (by decide) (fun hq20 => ?_) (fun hq20 => ?_)
      · have hf := ite_p hq20 hf
        refine lv_bipush (v := (6 : Int32)) hx hb dX5_reasonBy_58 rfl ?_
        obtain ⟨hr1, hs1⟩ := Prod.mk.inj (Option.some.inj hf)
        exact xr_i E hR hS rfl (by rw [hr1]) hs1.symm hc hs dX5_reasonBy_60
      · have hf := ite_n hq20 hf
        refine lv_bipush (v := (7 : Int32)) hx hb dX5_reasonBy_53 rfl ?_
        refine lv_goto (tgt := 60) hx hb dX5_reasonBy_55 (by decide) ?_
        obtain ⟨hr1, hs1⟩ := Prod.mk.inj (Option.some.inj hf)
        exact xr_i E hR hS rfl (by rw [hr1]) hs1.symm hc hs dX5_reasonBy_60
    · have hf := ite_p hq17 hf
      refine lv_iconst (v := (0 : Int32)) hx hb dX5_reasonBy_42 rfl ?_
      obtain ⟨hr1, hs1⟩ := Prod.mk.inj (Option.some.inj hf)
      exact xr_i E hR hS rfl (by rw [hr1]) hs1.symm hc hs dX5_reasonBy_43
  · have hf := ite_n hq4 hf
    refine lv_iload_n hx hb dX5_reasonBy_11 rfl (lv_at hl 0 rfl) ?_
    obtain ⟨hr1, hs1⟩ := Prod.mk.inj (Option.some.inj hf)
    exact xr_i E hR hS rfl (by rw [hr1]) hs1.symm hc hs dX5_reasonBy_12
theorem C_X5_reasonBy {g : GG} {v0 : Nat} {v1 : Int32} {v2 : Int32} {σ : Mm} {r : Int32} {σ' : Mm} (hf : f_X5_reasonBy v0 v1 v2 σ = some (r, σ')) : Ct g yX5_reasonBy cX5_reasonBy 5 (some .int) rm_X5_reasonBy [.ref (gB g + v0), .int v1, .int v2] σ (some (.int r)) σ' :=
  Ct.of false (by decide +kernel) (fun h => by cases h) (Nat.le_of_ble_eq_true rfl) (V_X5_reasonBy_0 _ _ _ _ _ _ hf)
abbrev rm_J9_max_7cf53 : Room := { frames := 0, cells := 0, slots := 0, locals := 0 }
set_option maxRecDepth 100000 in
def f_J9_max_7cf53 (v0 : Int32) (v1 : Int32) (σ : Mm) : Option (Int32 × Mm) :=
  if v0 < v1 then (some (v1, σ)) else (some (v0, σ))
set_option maxRecDepth 100000 in
set_option maxHeartbeats 4000000 in
theorem V_J9_max_7cf53_0 {g : GG} (v0 : Int32) (v1 : Int32) (σ : Mm) (r : Int32) (σ' : Mm) (hf : f_J9_max_7cf53 v0 v1 σ = some (r, σ')) : VJ g RJ9 cJ9_max_7cf53 2 (some .int) false rm_J9_max_7cf53 (some (.int r)) σ' (0) (0) 0 [(0, .int v0), (1, .int v1)] [] σ := by
  intro p e s m args below meth c H locs cells slots ls E hR hS hl hc hs
  obtain ⟨hx, hb, hml, hr, hlocks, hown, hts, hin, hT⟩ := id E
  unfold f_J9_max_7cf53 at hf
  refine lv_iload_n hx hb dJ9_max_7cf53_0 rfl (lv_at hl 0 rfl) ?_
  refine lv_iload_n hx hb dJ9_max_7cf53_1 rfl (lv_at hl 1 rfl) ?_
  refine lv_icmp_lt (tgt := 9) hx hb dJ9_max_7cf53_2 (by decide) (fun hq1 => ?_) (fun hq1 => ?_)
  · have hf := ite_p hq1 hf
    refine lv_iload_n hx hb dJ9_max_7cf53_9 rfl (lv_at hl 1 rfl) ?_
    obtain ⟨hr1, hs1⟩ := Prod.mk.inj (Option.some.inj hf)
    exact xr_i E hR hS rfl (by rw [hr1]) hs1.symm hc hs dJ9_max_7cf53_10
  · have hf := ite_n hq1 hf
    refine lv_iload_n hx hb dJ9_max_7cf53_5 rfl (lv_at hl 0 rfl) ?_
    refine lv_goto (tgt := 10) hx hb dJ9_max_7cf53_6 (by decide) ?_
    obtain ⟨hr1, hs1⟩ := Prod.mk.inj (Option.some.inj hf)
    exact xr_i E hR hS rfl (by rw [hr1]) hs1.symm hc hs dJ9_max_7cf53_10
theorem C_J9_max_7cf53 {g : GG} {v0 : Int32} {v1 : Int32} {σ : Mm} {r : Int32} {σ' : Mm} (hf : f_J9_max_7cf53 v0 v1 σ = some (r, σ')) : Ct g yJ9_max_7cf53 cJ9_max_7cf53 2 (some .int) rm_J9_max_7cf53 [.int v0, .int v1] σ (some (.int r)) σ' :=
  Ct.of false (by decide +kernel) (fun h => by cases h) (Nat.le_of_ble_eq_true rfl) (V_J9_max_7cf53_0 _ _ _ _ _ hf)
abbrev rm_X5_digestAfter : Room := { frames := 5, cells := 0, slots := 0, locals := 120 }
set_option maxRecDepth 100000 in
def f_X5_digestAfter_73 (v0 : Nat) (σ : Mm) : Option (Int32 × Mm) :=
  zck (kO σ v0 5) (zrb (mR σ v0 5) (fun b2 => zrb (mR σ v0 4) (fun b3 => zck (kO σ b2 7) (zcb (f_X7_grow b2 b3 σ) (fun r5 σ6 => zck (kO σ6 v0 5) (zrb (mR σ6 v0 5) (fun b8 => zck (kO σ6 b8 7) (zcb (f_X7_rootDigest b8 σ6) (fun r10 σ11 => some (r10, σ11))))))))))
set_option maxRecDepth 100000 in
set_option maxHeartbeats 4000000 in
theorem V_X5_digestAfter_73 {g : GG} (v0 : Nat) (σ : Mm) (r : Int32) (σ' : Mm) (hf : f_X5_digestAfter_73 v0 σ = some (r, σ')) : VJ g RX5 cX5_digestAfter 5 (some .int) false rm_X5_digestAfter (some (.int r)) σ' (0) (0) 73 [(0, .ref (gB g + v0))] [] σ := by
  intro p e s m args below meth c H locs cells slots ls E hR hS hl hc hs
  obtain ⟨hx, hb, hml, hr, hlocks, hown, hts, hin, hT⟩ := id E
  unfold f_X5_digestAfter_73 at hf
  refine lv_aload_n hx hb dX5_digestAfter_73 rfl (lv_at hl 0 rfl) ?_
  obtain ⟨hk1, hf⟩ := zc_s hf
  obtain ⟨b2, hb2, hf⟩ := zr_s hf
  refine x_getR E hR hk1 hb2 ok5 (Nat.le_of_ble_eq_true rfl) rfl fl_X5_32 dX5_digestAfter_74 ?_
  refine lv_aload_n hx hb dX5_digestAfter_77 rfl (lv_at hl 0 rfl) ?_
  obtain ⟨b3, hb3, hf⟩ := zr_s hf
  refine x_getR E hR hk1 hb3 ok5 (Nat.le_of_ble_eq_true rfl) rfl fl_X5_25 dX5_digestAfter_78 ?_
  obtain ⟨hk4, hf⟩ := zc_s hf
  obtain ⟨r5, σ6, hcr5, hf⟩ := zq_s hf
  refine xV (As := [.ref (gB g + b3)]) (rest := []) (st1 := []) E hR hS hl (C_X7_grow hcr5) hk4 ok7 lb_X7_grow lv_X7_grow ml_X5_63 ⟨Nat.le_of_ble_eq_true rfl, Nat.le_of_ble_eq_true rfl⟩ rfl rfl rfl (Nat.le_of_ble_eq_true rfl) dX5_digestAfter_81 ⟨hc, hs⟩ (fun H locs hR hS => ?_)
  refine lv_aload_n hx hb dX5_digestAfter_84 rfl (lv_at hl 0 rfl) ?_
  obtain ⟨hk7, hf⟩ := zc_s hf
  obtain ⟨b8, hb8, hf⟩ := zr_s hf
  refine x_getR E hR hk7 hb8 ok5 (Nat.le_of_ble_eq_true rfl) rfl fl_X5_32 dX5_digestAfter_85 ?_
  obtain ⟨hk9, hf⟩ := zc_s hf
  obtain ⟨r10, σ11, hcr10, hf⟩ := zq_s hf
  refine xV (As := []) (rest := []) (st1 := [.int r10]) E hR hS hl (C_X7_rootDigest hcr10) hk9 ok7 lb_X7_rootDigest lv_X7_rootDigest ml_X5_67 ⟨Nat.le_of_ble_eq_true rfl, Nat.le_of_ble_eq_true rfl⟩ rfl rfl rfl (Nat.le_of_ble_eq_true rfl) dX5_digestAfter_88 ⟨hc, hs⟩ (fun H locs hR hS => ?_)
  obtain ⟨hr1, hs1⟩ := Prod.mk.inj (Option.some.inj hf)
  exact xr_i E hR hS rfl (by rw [hr1]) hs1.symm hc hs dX5_digestAfter_91
set_option maxRecDepth 100000 in
def f_X5_digestAfter (v0 : Nat) (v1 : Int32) (v2 : Int32) (σ : Mm) : Option (Int32 × Mm) :=
  zcb (f_J9_max_7cf53 (v1 - (1 : Int32)) (0 : Int32) σ) (fun r12 σ13 => zcb (f_J9_min_7cf53 (v1 + (1 : Int32)) (99 : Int32) σ13) (fun r14 σ15 => zck (kO σ15 v0 5) (zcb (f_X5_reasonBy v0 r12 r14 σ15) (fun r17 σ18 => if r17 = 0 then (if v2 = (-9 : Int32) then (zck (kO σ18 v0 5) (zrb (mR σ18 v0 4) (fun b22 => zck (kO σ18 b22 2) (zcb (f_X2_has b22 v1 σ18) (fun r24 σ25 => if r24 = 0 then (some ((-1 : Int32), σ25)) else (zck (kO σ25 v0 5) (zrb (mR σ25 v0 4) (fun b28 => zck (kO σ25 b28 2) (zcb (f_X2_drop b28 v1 σ25) (fun r30 σ31 => f_X5_digestAfter_73 v0 σ31)))))))))) else (zck (kO σ18 v0 5) (zrb (mR σ18 v0 4) (fun b33 => zck (kO σ18 b33 2) (zcb (f_X2_give b33 v1 v2 σ18) (fun r35 σ36 => f_X5_digestAfter_73 v0 σ36)))))) else (some ((-3 : Int32), σ18))))))
set_option maxRecDepth 100000 in
set_option maxHeartbeats 4000000 in
theorem V_X5_digestAfter_0 {g : GG} (v0 : Nat) (v1 : Int32) (v2 : Int32) (σ : Mm) (r : Int32) (σ' : Mm) (hf : f_X5_digestAfter v0 v1 v2 σ = some (r, σ')) : VJ g RX5 cX5_digestAfter 5 (some .int) false rm_X5_digestAfter (some (.int r)) σ' (0) (0) 0 [(0, .ref (gB g + v0)), (1, .int v1), (2, .int v2)] [] σ := by
  intro p e s m args below meth c H locs cells slots ls E hR hS hl hc hs
  obtain ⟨hx, hb, hml, hr, hlocks, hown, hts, hin, hT⟩ := id E
  unfold f_X5_digestAfter at hf
  refine lv_iload_n hx hb dX5_digestAfter_0 rfl (lv_at hl 1 rfl) ?_
  refine lv_iconst (v := (1 : Int32)) hx hb dX5_digestAfter_1 rfl ?_
  refine lv_isub hx hb dX5_digestAfter_2 ?_
  refine lv_iconst (v := (0 : Int32)) hx hb dX5_digestAfter_3 rfl ?_
  obtain ⟨r12, σ13, hcr12, hf⟩ := zq_s hf
  refine xS (As := [.int (v1 - (1 : Int32)), .int (0 : Int32)]) (rest := []) (st1 := [.int r12]) E hR hS hl (C_J9_max_7cf53 hcr12) lb_J9_max_7cf53 ls_J9_max_7cf53 ml_X5_129 ⟨Nat.le_of_ble_eq_true rfl, Nat.le_of_ble_eq_true rfl⟩ rfl rfl rfl (Nat.le_of_ble_eq_true rfl) dX5_digestAfter_4 ⟨hc, hs⟩ (fun H locs hR hS => ?_)
  refine lv_istore_n (lv' := [(3, .int r12), (0, .ref (gB g + v0)), (1, .int v1), (2, .int v2)]) hx hb dX5_digestAfter_7 rfl hl (Nat.le_of_ble_eq_true rfl) rfl (fun ls hl => ?_)
  refine lv_iload_n hx hb dX5_digestAfter_8 rfl (lv_at hl 2 rfl) ?_
  refine lv_iconst (v := (1 : Int32)) hx hb dX5_digestAfter_9 rfl ?_
  refine lv_iadd hx hb dX5_digestAfter_10 ?_
  refine lv_bipush (v := (99 : Int32)) hx hb dX5_digestAfter_11 rfl ?_
  obtain ⟨r14, σ15, hcr14, hf⟩ := zq_s hf
  refine xS (As := [.int (v1 + (1 : Int32)), .int (99 : Int32)]) (rest := []) (st1 := [.int r14]) E hR hS hl (C_J9_min_7cf53 hcr14) lb_J9_min_7cf53 ls_J9_min_7cf53 ml_X5_50 ⟨Nat.le_of_ble_eq_true rfl, Nat.le_of_ble_eq_true rfl⟩ rfl rfl rfl (Nat.le_of_ble_eq_true rfl) dX5_digestAfter_13 ⟨hc, hs⟩ (fun H locs hR hS => ?_)
  refine lv_istore (lv' := [(4, .int r14), (3, .int r12), (0, .ref (gB g + v0)), (1, .int v1), (2, .int v2)]) hx hb dX5_digestAfter_16 hl (Nat.le_of_ble_eq_true rfl) rfl (fun ls hl => ?_)
  refine lv_aload_n hx hb dX5_digestAfter_18 rfl (lv_at hl 2 rfl) ?_
  refine lv_iload_n hx hb dX5_digestAfter_19 rfl (lv_at hl 1 rfl) ?_
  refine lv_iload hx hb dX5_digestAfter_20 (lv_at hl 0 rfl) ?_
  obtain ⟨hk16, hf⟩ := zc_s hf
  obtain ⟨r17, σ18, hcr17, hf⟩ := zq_s hf
  refine xV (As := [.int r12, .int r14]) (rest := []) (st1 := [.int r17]) E hR hS hl (C_X5_reasonBy hcr17) hk16 ok5 lb_X5_reasonBy lv_X5_reasonBy ml_X5_132 ⟨Nat.le_of_ble_eq_true rfl, Nat.le_of_ble_eq_true rfl⟩ rfl rfl rfl (Nat.le_of_ble_eq_true rfl) dX5_digestAfter_22 ⟨hc, hs⟩ (fun H locs hR hS => ?_)
  refine lv_if_eq (tgt := 31) hx hb dX5_digestAfter_25 (by decide) (fun hq19 => ?_) (fun hq19 => ?_)
  · have hf := ite_p hq19 hf
    refine lv_iload_n hx hb dX5_digestAfter_31 rfl (lv_at hl 4 rfl) ?_
    refine lv_bipush (v := (-9 : Int32)) hx hb dX5_digestAfter_32 rfl ?_
    refine lv_icmp_eq (tgt := 49) hx hb dX5_digestAfter_34 (by decide) (fun hq20 => ?_) (fun hq20 => ?_)
    · have hf := ite_p hq20 hf
      refine lv_aload_n hx hb dX5_digestAfter_49 rfl (lv_at hl 2 rfl) ?_
      obtain ⟨hk21, hf⟩ := zc_s hf
      obtain ⟨b22, hb22, hf⟩ := zr_s hf
      refine x_getR E hR hk21 hb22 ok5 (Nat.le_of_ble_eq_true rfl) rfl fl_X5_25 dX5_digestAfter_50 ?_
      refine lv_iload_n hx hb dX5_digestAfter_53 rfl (lv_at hl 3 rfl) ?_
      obtain ⟨hk23, hf⟩ := zc_s hf
      obtain ⟨r24, σ25, hcr24, hf⟩ := zq_s hf
      refine xV (As := [.int v1]) (rest := []) (st1 := [.int r24]) E hR hS hl (C_X2_has hcr24) hk23 ok2 lb_X2_has lv_X2_has ml_X5_135 ⟨Nat.le_of_ble_eq_true rfl, Nat.le_of_ble_eq_true rfl⟩ rfl rfl rfl (Nat.le_of_ble_eq_true rfl) dX5_digestAfter_54 ⟨hc, hs⟩ (fun H locs hR hS => ?_)
      refine lv_if_eq (tgt := 71) hx hb dX5_digestAfter_57 (by decide) (fun hq26 => ?_) (fun hq26 => ?_)
      · have hf := ite_p hq26 hf
        refine lv_iconst (v := (-1 : Int32)) hx hb dX5_digestAfter_71 rfl ?_
        obtain ⟨hr1, hs1⟩ := Prod.mk.inj (Option.some.inj hf)
        exact xr_i E hR hS rfl (by rw [hr1]) hs1.symm hc hs dX5_digestAfter_72
      · have hf := ite_n hq26 hf
        refine lv_aload_n hx hb dX5_digestAfter_60 rfl (lv_at hl 2 rfl) ?_
        obtain ⟨hk27, hf⟩ := zc_s hf
        obtain ⟨b28, hb28, hf⟩ := zr_s hf
        refine x_getR E hR hk27 hb28 ok5 (Nat.le_of_ble_eq_true rfl) rfl fl_X5_25 dX5_digestAfter_61 ?_
        refine lv_iload_n hx hb dX5_digestAfter_64 rfl (lv_at hl 3 rfl) ?_
        obtain ⟨hk29, hf⟩ := zc_s hf
        obtain ⟨r30, σ31, hcr30, hf⟩ := zq_s hf
        refine xV (As := [.int v1]) (rest := []) (st1 := []) E hR hS hl (C_X2_drop hcr30) hk29 ok2 lb_X2_drop lv_X2_drop ml_X5_138 ⟨Nat.le_of_ble_eq_true rfl, Nat.le_of_ble_eq_true rfl⟩ rfl rfl rfl (Nat.le_of_ble_eq_true rfl) dX5_digestAfter_65 ⟨hc, hs⟩ (fun H locs hR hS => ?_)
        refine lv_goto (tgt := 73) hx hb dX5_digestAfter_68 (by decide) ?_
        exact V_X5_digestAfter_73  _ _ _ _ hf p e s m args below meth c _ _ _ _ _ E hR hS (lv_sub hl [2] rfl) hc hs
    · have hf := ite_n hq20 hf
      refine lv_aload_n hx hb dX5_digestAfter_37 rfl (lv_at hl 2 rfl) ?_
      obtain ⟨hk32, hf⟩ := zc_s hf
      obtain ⟨b33, hb33, hf⟩ := zr_s hf
      refine x_getR E hR hk32 hb33 ok5 (Nat.le_of_ble_eq_true rfl) rfl fl_X5_25 dX5_digestAfter_38 ?_
      refine lv_iload_n hx hb dX5_digestAfter_41 rfl (lv_at hl 3 rfl) ?_
      refine lv_iload_n hx hb dX5_digestAfter_42 rfl (lv_at hl 4 rfl) ?_
      obtain ⟨hk34, hf⟩ := zc_s hf
      obtain ⟨r35, σ36, hcr35, hf⟩ := zq_s hf
      refine xV (As := [.int v1, .int v2]) (rest := []) (st1 := []) E hR hS hl (C_X2_give hcr35) hk34 ok2 lb_X2_give lv_X2_give ml_X5_102 ⟨Nat.le_of_ble_eq_true rfl, Nat.le_of_ble_eq_true rfl⟩ rfl rfl rfl (Nat.le_of_ble_eq_true rfl) dX5_digestAfter_43 ⟨hc, hs⟩ (fun H locs hR hS => ?_)
      refine lv_goto (tgt := 73) hx hb dX5_digestAfter_46 (by decide) ?_
      exact V_X5_digestAfter_73  _ _ _ _ hf p e s m args below meth c _ _ _ _ _ E hR hS (lv_sub hl [2] rfl) hc hs
  · have hf := ite_n hq19 hf
    refine lv_bipush (v := (-3 : Int32)) hx hb dX5_digestAfter_28 rfl ?_
    obtain ⟨hr1, hs1⟩ := Prod.mk.inj (Option.some.inj hf)
    exact xr_i E hR hS rfl (by rw [hr1]) hs1.symm hc hs dX5_digestAfter_30
theorem C_X5_digestAfter {g : GG} {v0 : Nat} {v1 : Int32} {v2 : Int32} {σ : Mm} {r : Int32} {σ' : Mm} (hf : f_X5_digestAfter v0 v1 v2 σ = some (r, σ')) : Ct g yX5_digestAfter cX5_digestAfter 5 (some .int) rm_X5_digestAfter [.ref (gB g + v0), .int v1, .int v2] σ (some (.int r)) σ' :=
  Ct.of false (by decide +kernel) (fun h => by cases h) (Nat.le_of_ble_eq_true rfl) (V_X5_digestAfter_0 _ _ _ _ _ _ hf)
abbrev rm_X6_init : Room := { frames := 2, cells := 2, slots := 102, locals := 43 }
set_option maxRecDepth 100000 in
def f_X6_init (v0 : Nat) (σ : Mm) : Option (Unit × Mm) :=
  zlt (nw σ (0, 2)) (fun σ1 => zcb (f_X2_init (mN σ) σ1) (fun r2 σ3 => zck (kO σ3 v0 6) (zlt (sR σ3 v0 0 (mN σ)) (fun σ5 => some ((), σ5)))))
set_option maxRecDepth 100000 in
set_option maxHeartbeats 4000000 in
theorem V_X6_init_0 {g : GG} (v0 : Nat) (σ : Mm) (r : Unit) (σ' : Mm) (hf : f_X6_init v0 σ = some (r, σ')) (kc ks : Nat) (hqe : 2 ≤ kc ∧ 102 ≤ ks) : VJ g RX6 cX6_init 1 none true rm_X6_init none σ' (kc) (ks) 0 [(0, .ref (gB g + v0))] [] σ := by
  intro p e s m args below meth c H locs cells slots ls E hR hS hl hc hs
  have hc : cells + kc ≤ 2 := hc
  have hs : slots + ks ≤ 102 := hs
  obtain ⟨hx, hb, hml, hr, hlocks, hown, hts, hin, hT⟩ := id E
  unfold f_X6_init at hf
  refine lv_aload_n hx hb dX6_init_0 rfl (lv_at hl 0 rfl) ?_
  refine x_obj (rest := []) E hl ob_X6_1 obI obC (Nat.le_of_ble_eq_true rfl) (Nat.le_of_ble_eq_true rfl) dX6_init_1 ?_
  refine lv_aload_n hx hb dX6_init_4 rfl (lv_at hl 0 rfl) ?_
  obtain ⟨σ1, eσ1, hf⟩ := zl_s hf
  refine x_new E hR hS ok2 cd2 cl_X6_7 cn2 ci2 (show cells + 1 ≤ 2 by omega) (show slots + 2 ≤ 102 by omega) dX6_init_5 (fun H hR hS => ?_)
  rw [← eσ1] at hR
  refine lv_dup hx hb dX6_init_8 rfl ?_
  obtain ⟨r2, σ3, hcr2, hf⟩ := zq_s hf
  refine xI (As := []) (rest := [.ref (gB g + (mN σ)), .ref (gB g + v0)]) (st1 := [.ref (gB g + (mN σ)), .ref (gB g + v0)]) E hR hS hl (C_X2_init hcr2) lb_X2_init li_X2_init ml_X6_9 ⟨Nat.le_of_ble_eq_true rfl, Nat.le_of_ble_eq_true rfl⟩ rfl rfl rfl (Nat.le_of_ble_eq_true rfl) dX6_init_9 ⟨show cells + 1 + 1 ≤ 2 by omega, show slots + 2 + 100 ≤ 102 by omega⟩ (fun H locs hR hS => ?_)
  obtain ⟨hk4, hf⟩ := zc_s hf
  obtain ⟨σ5, eσ5, hf⟩ := zl_s hf
  refine x_putR E hR hS hk4 ok6 0 (Nat.le_of_ble_eq_true rfl) rfl fl_X6_10 (Or.inr ⟨rfl, rfl, rfl⟩) (fun _ => rfl) (fun _ => rfl) dX6_init_12 (fun H locs hR hS => ?_)
  rw [← eσ5] at hR
  obtain ⟨hr1, hs1⟩ := Prod.mk.inj (Option.some.inj hf)
  exact xr_v E hR hS rfl rfl hs1.symm (show cells + 1 + 1 ≤ 2 by omega) (show slots + 2 + 100 ≤ 102 by omega) dX6_init_15
theorem C_X6_init {g : GG} {v0 : Nat} {σ : Mm} {r : Unit} {σ' : Mm} (hf : f_X6_init v0 σ = some (r, σ')) : Ct g yX6_init cX6_init 1 none rm_X6_init [.ref (gB g + v0)] σ none σ' :=
  Ct.of true (by decide +kernel) (fun _ => rfl) (Nat.le_of_ble_eq_true rfl) (V_X6_init_0 _ _ _ _ hf 2 102 ⟨Nat.le_of_ble_eq_true rfl, Nat.le_of_ble_eq_true rfl⟩)
abbrev rm_X6_pairs : Room := { frames := 0, cells := 0, slots := 0, locals := 0 }
set_option maxRecDepth 100000 in
def f_X6_pairs (v0 : Nat) (σ : Mm) : Option (Nat × Mm) :=
  zck (kO σ v0 6) (zrb (mR σ v0 0) (fun b2 => some (b2, σ)))
set_option maxRecDepth 100000 in
set_option maxHeartbeats 4000000 in
theorem V_X6_pairs_0 {g : GG} (v0 : Nat) (σ : Mm) (r : Nat) (σ' : Mm) (hf : f_X6_pairs v0 σ = some (r, σ')) : VJ g RX6 cX6_pairs 1 (some (.object "BorderProofs$Pairs")) false rm_X6_pairs (some (.ref (gB g + r))) σ' (0) (0) 0 [(0, .ref (gB g + v0))] [] σ := by
  intro p e s m args below meth c H locs cells slots ls E hR hS hl hc hs
  obtain ⟨hx, hb, hml, hr, hlocks, hown, hts, hin, hT⟩ := id E
  unfold f_X6_pairs at hf
  refine lv_aload_n hx hb dX6_pairs_0 rfl (lv_at hl 0 rfl) ?_
  obtain ⟨hk1, hf⟩ := zc_s hf
  obtain ⟨b2, hb2, hf⟩ := zr_s hf
  refine x_getR E hR hk1 hb2 ok6 (Nat.le_of_ble_eq_true rfl) rfl fl_X6_10 dX6_pairs_1 ?_
  obtain ⟨hr1, hs1⟩ := Prod.mk.inj (Option.some.inj hf)
  exact xr_a E hR hS rfl (by rw [hr1]) hs1.symm hc hs dX6_pairs_4
theorem C_X6_pairs {g : GG} {v0 : Nat} {σ : Mm} {r : Nat} {σ' : Mm} (hf : f_X6_pairs v0 σ = some (r, σ')) : Ct g yX6_pairs cX6_pairs 1 (some (.object "BorderProofs$Pairs")) rm_X6_pairs [.ref (gB g + v0)] σ (some (.ref (gB g + r))) σ' :=
  Ct.of false (by decide +kernel) (fun h => by cases h) (Nat.le_of_ble_eq_true rfl) (V_X6_pairs_0 _ _ _ _ hf)
abbrev rm_X6_isFilled : Room := { frames := 0, cells := 0, slots := 0, locals := 0 }
set_option maxRecDepth 100000 in
def f_X6_isFilled (v0 : Nat) (σ : Mm) : Option (Int32 × Mm) :=
  zck (kO σ v0 6) (zck (zb (mD σ v0 1)) (some ((mD σ v0 1), σ)))
set_option maxRecDepth 100000 in
set_option maxHeartbeats 4000000 in
theorem V_X6_isFilled_0 {g : GG} (v0 : Nat) (σ : Mm) (r : Int32) (σ' : Mm) (hf : f_X6_isFilled v0 σ = some (r, σ')) : VJ g RX6 cX6_isFilled 1 (some .boolean) false rm_X6_isFilled (some (.int r)) σ' (0) (0) 0 [(0, .ref (gB g + v0))] [] σ := by
  intro p e s m args below meth c H locs cells slots ls E hR hS hl hc hs
  obtain ⟨hx, hb, hml, hr, hlocks, hown, hts, hin, hT⟩ := id E
  unfold f_X6_isFilled at hf
  refine lv_aload_n hx hb dX6_isFilled_0 rfl (lv_at hl 0 rfl) ?_
  obtain ⟨hk1, hf⟩ := zc_s hf
  refine x_getI E hR hk1 ok6 1 (Nat.le_of_ble_eq_true rfl) rfl fl_X6_16 dX6_isFilled_1 ?_
  obtain ⟨hz2, hf⟩ := zc_s hf
  obtain ⟨hr1, hs1⟩ := Prod.mk.inj (Option.some.inj hf)
  exact xr_z E hR hS rfl (zb_s hz2) (by rw [hr1]) hs1.symm hc hs dX6_isFilled_4
theorem C_X6_isFilled {g : GG} {v0 : Nat} {σ : Mm} {r : Int32} {σ' : Mm} (hf : f_X6_isFilled v0 σ = some (r, σ')) : Ct g yX6_isFilled cX6_isFilled 1 (some .boolean) rm_X6_isFilled [.ref (gB g + v0)] σ (some (.int r)) σ' :=
  Ct.of false (by decide +kernel) (fun h => by cases h) (Nat.le_of_ble_eq_true rfl) (V_X6_isFilled_0 _ _ _ _ hf)
abbrev rm_X6_fill : Room := { frames := 2, cells := 0, slots := 0, locals := 39 }
set_option maxRecDepth 100000 in
def f_X6_fill (v0 : Nat) (v1 : Nat) (σ : Mm) : Option (Unit × Mm) :=
  zck (kO σ v0 6) (zrb (mR σ v0 0) (fun b2 => zck (kO σ b2 2) (zcb (f_X2_become b2 v1 σ) (fun r4 σ5 => zck (kO σ5 v0 6) (zlt (sD σ5 v0 1 (1 : Int32)) (fun σ7 => some ((), σ7)))))))
set_option maxRecDepth 100000 in
set_option maxHeartbeats 4000000 in
theorem V_X6_fill_0 {g : GG} (v0 : Nat) (v1 : Nat) (σ : Mm) (r : Unit) (σ' : Mm) (hf : f_X6_fill v0 v1 σ = some (r, σ')) : VJ g RX6 cX6_fill 2 none false rm_X6_fill none σ' (0) (0) 0 [(0, .ref (gB g + v0)), (1, .ref (gB g + v1))] [] σ := by
  intro p e s m args below meth c H locs cells slots ls E hR hS hl hc hs
  obtain ⟨hx, hb, hml, hr, hlocks, hown, hts, hin, hT⟩ := id E
  unfold f_X6_fill at hf
  refine lv_aload_n hx hb dX6_fill_0 rfl (lv_at hl 0 rfl) ?_
  obtain ⟨hk1, hf⟩ := zc_s hf
  obtain ⟨b2, hb2, hf⟩ := zr_s hf
  refine x_getR E hR hk1 hb2 ok6 (Nat.le_of_ble_eq_true rfl) rfl fl_X6_10 dX6_fill_1 ?_
  refine lv_aload_n hx hb dX6_fill_4 rfl (lv_at hl 1 rfl) ?_
  obtain ⟨hk3, hf⟩ := zc_s hf
  obtain ⟨r4, σ5, hcr4, hf⟩ := zq_s hf
  refine xV (As := [.ref (gB g + v1)]) (rest := []) (st1 := []) E hR hS hl (C_X2_become hcr4) hk3 ok2 lb_X2_become lv_X2_become ml_X6_20 ⟨Nat.le_of_ble_eq_true rfl, Nat.le_of_ble_eq_true rfl⟩ rfl rfl rfl (Nat.le_of_ble_eq_true rfl) dX6_fill_5 ⟨hc, hs⟩ (fun H locs hR hS => ?_)
  refine lv_aload_n hx hb dX6_fill_8 rfl (lv_at hl 0 rfl) ?_
  refine lv_iconst (v := (1 : Int32)) hx hb dX6_fill_9 rfl ?_
  obtain ⟨hk6, hf⟩ := zc_s hf
  obtain ⟨σ7, eσ7, hf⟩ := zl_s hf
  refine x_putI E hR hS hk6 ok6 1 (Nat.le_of_ble_eq_true rfl) rfl fl_X6_16 (Or.inl rfl) rfl rfl dX6_fill_10 (fun H locs hR hS => ?_)
  rw [← eσ7] at hR
  obtain ⟨hr1, hs1⟩ := Prod.mk.inj (Option.some.inj hf)
  exact xr_v E hR hS rfl rfl hs1.symm hc hs dX6_fill_13
theorem C_X6_fill {g : GG} {v0 : Nat} {v1 : Nat} {σ : Mm} {r : Unit} {σ' : Mm} (hf : f_X6_fill v0 v1 σ = some (r, σ')) : Ct g yX6_fill cX6_fill 2 none rm_X6_fill [.ref (gB g + v0), .ref (gB g + v1)] σ none σ' :=
  Ct.of false (by decide +kernel) (fun h => by cases h) (Nat.le_of_ble_eq_true rfl) (V_X6_fill_0 _ _ _ _ _ hf)
abbrev rm_X7_leftOf : Room := { frames := 1, cells := 0, slots := 0, locals := 20 }
set_option maxRecDepth 100000 in
def f_X7_leftOf (v0 : Nat) (v1 : Int32) (σ : Mm) : Option (Int32 × Mm) :=
  zcb (f_X8_isNumber v1 σ) (fun r1 σ2 => if r1 = 0 then (some ((-9 : Int32), σ2)) else (zck (kO σ2 v0 7) (zrb (mR σ2 v0 0) (fun b5 => zck (kA σ2 1 b5 v1) (some ((mD σ2 b5 (ix v1)), σ2))))))
set_option maxRecDepth 100000 in
set_option maxHeartbeats 4000000 in
theorem V_X7_leftOf_0 {g : GG} (v0 : Nat) (v1 : Int32) (σ : Mm) (r : Int32) (σ' : Mm) (hf : f_X7_leftOf v0 v1 σ = some (r, σ')) : VJ g RX7 cX7_leftOf 2 (some .int) false rm_X7_leftOf (some (.int r)) σ' (0) (0) 0 [(0, .ref (gB g + v0)), (1, .int v1)] [] σ := by
  intro p e s m args below meth c H locs cells slots ls E hR hS hl hc hs
  obtain ⟨hx, hb, hml, hr, hlocks, hown, hts, hin, hT⟩ := id E
  unfold f_X7_leftOf at hf
  refine lv_iload_n hx hb dX7_leftOf_0 rfl (lv_at hl 1 rfl) ?_
  obtain ⟨r1, σ2, hcr1, hf⟩ := zq_s hf
  refine xSN (As := [.int v1]) (rest := []) (st1 := [.int r1]) E hR hS hl (C_X8_isNumber hcr1) lb_X8_isNumber ls_X8_isNumber nl_X7_42 ⟨Nat.le_of_ble_eq_true rfl, Nat.le_of_ble_eq_true rfl⟩ rfl rfl rfl (Nat.le_of_ble_eq_true rfl) dX7_leftOf_1 ⟨hc, hs⟩ (fun H locs hR hS => ?_)
  refine lv_if_eq (tgt := 16) hx hb dX7_leftOf_4 (by decide) (fun hq3 => ?_) (fun hq3 => ?_)
  · have hf := ite_p hq3 hf
    refine lv_bipush (v := (-9 : Int32)) hx hb dX7_leftOf_16 rfl ?_
    obtain ⟨hr1, hs1⟩ := Prod.mk.inj (Option.some.inj hf)
    exact xr_i E hR hS rfl (by rw [hr1]) hs1.symm hc hs dX7_leftOf_18
  · have hf := ite_n hq3 hf
    refine lv_aload_n hx hb dX7_leftOf_7 rfl (lv_at hl 0 rfl) ?_
    obtain ⟨hk4, hf⟩ := zc_s hf
    obtain ⟨b5, hb5, hf⟩ := zr_s hf
    refine x_getR E hR hk4 hb5 ok7 (Nat.le_of_ble_eq_true rfl) rfl fl_X7_9 dX7_leftOf_8 ?_
    refine lv_iload_n hx hb dX7_leftOf_11 rfl (lv_at hl 1 rfl) ?_
    obtain ⟨hk6, hf⟩ := zc_s hf
    refine x_ild E hR hk6 dX7_leftOf_12 ?_
    refine lv_goto (tgt := 18) hx hb dX7_leftOf_13 (by decide) ?_
    obtain ⟨hr1, hs1⟩ := Prod.mk.inj (Option.some.inj hf)
    exact xr_i E hR hS rfl (by rw [hr1]) hs1.symm hc hs dX7_leftOf_18
theorem C_X7_leftOf {g : GG} {v0 : Nat} {v1 : Int32} {σ : Mm} {r : Int32} {σ' : Mm} (hf : f_X7_leftOf v0 v1 σ = some (r, σ')) : Ct g yX7_leftOf cX7_leftOf 2 (some .int) rm_X7_leftOf [.ref (gB g + v0), .int v1] σ (some (.int r)) σ' :=
  Ct.of false (by decide +kernel) (fun h => by cases h) (Nat.le_of_ble_eq_true rfl) (V_X7_leftOf_0 _ _ _ _ _ hf)
abbrev rm_X7_rightOf : Room := { frames := 1, cells := 0, slots := 0, locals := 20 }
set_option maxRecDepth 100000 in
def f_X7_rightOf (v0 : Nat) (v1 : Int32) (σ : Mm) : Option (Int32 × Mm) :=
  zcb (f_X8_isNumber v1 σ) (fun r1 σ2 => if r1 = 0 then (some ((-9 : Int32), σ2)) else (zck (kO σ2 v0 7) (zrb (mR σ2 v0 1) (fun b5 => zck (kA σ2 1 b5 v1) (some ((mD σ2 b5 (ix v1)), σ2))))))
set_option maxRecDepth 100000 in
set_option maxHeartbeats 4000000 in
theorem V_X7_rightOf_0 {g : GG} (v0 : Nat) (v1 : Int32) (σ : Mm) (r : Int32) (σ' : Mm) (hf : f_X7_rightOf v0 v1 σ = some (r, σ')) : VJ g RX7 cX7_rightOf 2 (some .int) false rm_X7_rightOf (some (.int r)) σ' (0) (0) 0 [(0, .ref (gB g + v0)), (1, .int v1)] [] σ := by
  intro p e s m args below meth c H locs cells slots ls E hR hS hl hc hs
  obtain ⟨hx, hb, hml, hr, hlocks, hown, hts, hin, hT⟩ := id E
  unfold f_X7_rightOf at hf
  refine lv_iload_n hx hb dX7_rightOf_0 rfl (lv_at hl 1 rfl) ?_
  obtain ⟨r1, σ2, hcr1, hf⟩ := zq_s hf
  refine xSN (As := [.int v1]) (rest := []) (st1 := [.int r1]) E hR hS hl (C_X8_isNumber hcr1) lb_X8_isNumber ls_X8_isNumber nl_X7_42 ⟨Nat.le_of_ble_eq_true rfl, Nat.le_of_ble_eq_true rfl⟩ rfl rfl rfl (Nat.le_of_ble_eq_true rfl) dX7_rightOf_1 ⟨hc, hs⟩ (fun H locs hR hS => ?_)
  refine lv_if_eq (tgt := 16) hx hb dX7_rightOf_4 (by decide) (fun hq3 => ?_) (fun hq3 => ?_)
  · have hf := ite_p hq3 hf
    refine lv_bipush (v := (-9 : Int32)) hx hb dX7_rightOf_16 rfl ?_
    obtain ⟨hr1, hs1⟩ := Prod.mk.inj (Option.some.inj hf)
    exact xr_i E hR hS rfl (by rw [hr1]) hs1.symm hc hs dX7_rightOf_18
  · have hf := ite_n hq3 hf
    refine lv_aload_n hx hb dX7_rightOf_7 rfl (lv_at hl 0 rfl) ?_
    obtain ⟨hk4, hf⟩ := zc_s hf
    obtain ⟨b5, hb5, hf⟩ := zr_s hf
    refine x_getR E hR hk4 hb5 ok7 (Nat.le_of_ble_eq_true rfl) rfl fl_X7_15 dX7_rightOf_8 ?_
    refine lv_iload_n hx hb dX7_rightOf_11 rfl (lv_at hl 1 rfl) ?_
    obtain ⟨hk6, hf⟩ := zc_s hf
    refine x_ild E hR hk6 dX7_rightOf_12 ?_
    refine lv_goto (tgt := 18) hx hb dX7_rightOf_13 (by decide) ?_
    obtain ⟨hr1, hs1⟩ := Prod.mk.inj (Option.some.inj hf)
    exact xr_i E hR hS rfl (by rw [hr1]) hs1.symm hc hs dX7_rightOf_18
theorem C_X7_rightOf {g : GG} {v0 : Nat} {v1 : Int32} {σ : Mm} {r : Int32} {σ' : Mm} (hf : f_X7_rightOf v0 v1 σ = some (r, σ')) : Ct g yX7_rightOf cX7_rightOf 2 (some .int) rm_X7_rightOf [.ref (gB g + v0), .int v1] σ (some (.int r)) σ' :=
  Ct.of false (by decide +kernel) (fun h => by cases h) (Nat.le_of_ble_eq_true rfl) (V_X7_rightOf_0 _ _ _ _ _ hf)
abbrev rm_X7_digestOf : Room := { frames := 1, cells := 0, slots := 0, locals := 20 }
set_option maxRecDepth 100000 in
def f_X7_digestOf (v0 : Nat) (v1 : Int32) (σ : Mm) : Option (Int32 × Mm) :=
  zcb (f_X8_isNumber v1 σ) (fun r1 σ2 => if r1 = 0 then (some ((0 : Int32), σ2)) else (zck (kO σ2 v0 7) (zrb (mR σ2 v0 2) (fun b5 => zck (kA σ2 1 b5 v1) (some ((mD σ2 b5 (ix v1)), σ2))))))
set_option maxRecDepth 100000 in
set_option maxHeartbeats 4000000 in
theorem V_X7_digestOf_0 {g : GG} (v0 : Nat) (v1 : Int32) (σ : Mm) (r : Int32) (σ' : Mm) (hf : f_X7_digestOf v0 v1 σ = some (r, σ')) : VJ g RX7 cX7_digestOf 2 (some .int) false rm_X7_digestOf (some (.int r)) σ' (0) (0) 0 [(0, .ref (gB g + v0)), (1, .int v1)] [] σ := by
  intro p e s m args below meth c H locs cells slots ls E hR hS hl hc hs
  obtain ⟨hx, hb, hml, hr, hlocks, hown, hts, hin, hT⟩ := id E
  unfold f_X7_digestOf at hf
  refine lv_iload_n hx hb dX7_digestOf_0 rfl (lv_at hl 1 rfl) ?_
  obtain ⟨r1, σ2, hcr1, hf⟩ := zq_s hf
  refine xSN (As := [.int v1]) (rest := []) (st1 := [.int r1]) E hR hS hl (C_X8_isNumber hcr1) lb_X8_isNumber ls_X8_isNumber nl_X7_42 ⟨Nat.le_of_ble_eq_true rfl, Nat.le_of_ble_eq_true rfl⟩ rfl rfl rfl (Nat.le_of_ble_eq_true rfl) dX7_digestOf_1 ⟨hc, hs⟩ (fun H locs hR hS => ?_)
  refine lv_if_eq (tgt := 16) hx hb dX7_digestOf_4 (by decide) (fun hq3 => ?_) (fun hq3 => ?_)
  · have hf := ite_p hq3 hf
    refine lv_iconst (v := (0 : Int32)) hx hb dX7_digestOf_16 rfl ?_
    obtain ⟨hr1, hs1⟩ := Prod.mk.inj (Option.some.inj hf)
    exact xr_i E hR hS rfl (by rw [hr1]) hs1.symm hc hs dX7_digestOf_17
  · have hf := ite_n hq3 hf
    refine lv_aload_n hx hb dX7_digestOf_7 rfl (lv_at hl 0 rfl) ?_
    obtain ⟨hk4, hf⟩ := zc_s hf
    obtain ⟨b5, hb5, hf⟩ := zr_s hf
    refine x_getR E hR hk4 hb5 ok7 (Nat.le_of_ble_eq_true rfl) rfl fl_X7_18 dX7_digestOf_8 ?_
    refine lv_iload_n hx hb dX7_digestOf_11 rfl (lv_at hl 1 rfl) ?_
    obtain ⟨hk6, hf⟩ := zc_s hf
    refine x_ild E hR hk6 dX7_digestOf_12 ?_
    refine lv_goto (tgt := 17) hx hb dX7_digestOf_13 (by decide) ?_
    obtain ⟨hr1, hs1⟩ := Prod.mk.inj (Option.some.inj hf)
    exact xr_i E hR hS rfl (by rw [hr1]) hs1.symm hc hs dX7_digestOf_17
theorem C_X7_digestOf {g : GG} {v0 : Nat} {v1 : Int32} {σ : Mm} {r : Int32} {σ' : Mm} (hf : f_X7_digestOf v0 v1 σ = some (r, σ')) : Ct g yX7_digestOf cX7_digestOf 2 (some .int) rm_X7_digestOf [.ref (gB g + v0), .int v1] σ (some (.int r)) σ' :=
  Ct.of false (by decide +kernel) (fun h => by cases h) (Nat.le_of_ble_eq_true rfl) (V_X7_digestOf_0 _ _ _ _ _ hf)
abbrev rm_X7_childTowards : Room := { frames := 2, cells := 0, slots := 0, locals := 41 }
set_option maxRecDepth 100000 in
def f_X7_childTowards (v0 : Nat) (v1 : Int32) (v2 : Int32) (σ : Mm) : Option (Int32 × Mm) :=
  if v2 = v1 then (some ((-9 : Int32), σ)) else (if v1 ≤ v2 then (zck (kO σ v0 7) (zcb (f_X7_rightOf v0 v1 σ) (fun r4 σ5 => some (r4, σ5)))) else (zck (kO σ v0 7) (zcb (f_X7_leftOf v0 v1 σ) (fun r7 σ8 => some (r7, σ8)))))
set_option maxRecDepth 100000 in
set_option maxHeartbeats 4000000 in
theorem V_X7_childTowards_0 {g : GG} (v0 : Nat) (v1 : Int32) (v2 : Int32) (σ : Mm) (r : Int32) (σ' : Mm) (hf : f_X7_childTowards v0 v1 v2 σ = some (r, σ')) : VJ g RX7 cX7_childTowards 3 (some .int) false rm_X7_childTowards (some (.int r)) σ' (0) (0) 0 [(0, .ref (gB g + v0)), (1, .int v1), (2, .int v2)] [] σ := by
  intro p e s m args below meth c H locs cells slots ls E hR hS hl hc hs
  obtain ⟨hx, hb, hml, hr, hlocks, hown, hts, hin, hT⟩ := id E
  unfold f_X7_childTowards at hf
  refine lv_iload_n hx hb dX7_childTowards_0 rfl (lv_at hl 2 rfl) ?_
  refine lv_iload_n hx hb dX7_childTowards_1 rfl (lv_at hl 1 rfl) ?_
  refine lv_icmp_ne (tgt := 8) hx hb dX7_childTowards_2 (by decide) (fun hq1 => ?_) (fun hq1 => ?_)
  · have hf := ite_n hq1 hf
    refine lv_iload_n hx hb dX7_childTowards_8 rfl (lv_at hl 2 rfl) ?_
    refine lv_iload_n hx hb dX7_childTowards_9 rfl (lv_at hl 1 rfl) ?_
    refine lv_icmp_ge (tgt := 21) hx hb dX7_childTowards_10 (by decide) (fun hq2 => ?_) (fun hq2 => ?_)
    · have hf := ite_p hq2 hf
      refine lv_aload_n hx hb dX7_childTowards_21 rfl (lv_at hl 0 rfl) ?_
      refine lv_iload_n hx hb dX7_childTowards_22 rfl (lv_at hl 1 rfl) ?_
      obtain ⟨hk3, hf⟩ := zc_s hf
      obtain ⟨r4, σ5, hcr4, hf⟩ := zq_s hf
      refine xV (As := [.int v1]) (rest := []) (st1 := [.int r4]) E hR hS hl (C_X7_rightOf hcr4) hk3 ok7 lb_X7_rightOf lv_X7_rightOf ml_X7_79 ⟨Nat.le_of_ble_eq_true rfl, Nat.le_of_ble_eq_true rfl⟩ rfl rfl rfl (Nat.le_of_ble_eq_true rfl) dX7_childTowards_23 ⟨hc, hs⟩ (fun H locs hR hS => ?_)
      obtain ⟨hr1, hs1⟩ := Prod.mk.inj (Option.some.inj hf)
      exact xr_i E hR hS rfl (by rw [hr1]) hs1.symm hc hs dX7_childTowards_26
    · have hf := ite_n hq2 hf
      refine lv_aload_n hx hb dX7_childTowards_13 rfl (lv_at hl 0 rfl) ?_
      refine lv_iload_n hx hb dX7_childTowards_14 rfl (lv_at hl 1 rfl) ?_
      obtain ⟨hk6, hf⟩ := zc_s hf
      obtain ⟨r7, σ8, hcr7, hf⟩ := zq_s hf
      refine xV (As := [.int v1]) (rest := []) (st1 := [.int r7]) E hR hS hl (C_X7_leftOf hcr7) hk6 ok7 lb_X7_leftOf lv_X7_leftOf ml_X7_76 ⟨Nat.le_of_ble_eq_true rfl, Nat.le_of_ble_eq_true rfl⟩ rfl rfl rfl (Nat.le_of_ble_eq_true rfl) dX7_childTowards_15 ⟨hc, hs⟩ (fun H locs hR hS => ?_)
      refine lv_goto (tgt := 26) hx hb dX7_childTowards_18 (by decide) ?_
      obtain ⟨hr1, hs1⟩ := Prod.mk.inj (Option.some.inj hf)
      exact xr_i E hR hS rfl (by rw [hr1]) hs1.symm hc hs dX7_childTowards_26
  · have hf := ite_p hq1 hf
    refine lv_bipush (v := (-9 : Int32)) hx hb dX7_childTowards_5 rfl ?_
    obtain ⟨hr1, hs1⟩ := Prod.mk.inj (Option.some.inj hf)
    exact xr_i E hR hS rfl (by rw [hr1]) hs1.symm hc hs dX7_childTowards_7
theorem C_X7_childTowards {g : GG} {v0 : Nat} {v1 : Int32} {v2 : Int32} {σ : Mm} {r : Int32} {σ' : Mm} (hf : f_X7_childTowards v0 v1 v2 σ = some (r, σ')) : Ct g yX7_childTowards cX7_childTowards 3 (some .int) rm_X7_childTowards [.ref (gB g + v0), .int v1, .int v2] σ (some (.int r)) σ' :=
  Ct.of false (by decide +kernel) (fun h => by cases h) (Nat.le_of_ble_eq_true rfl) (V_X7_childTowards_0 _ _ _ _ _ _ hf)
abbrev rm_X7_countNodesAround : Room := { frames := 3, cells := 0, slots := 0, locals := 63 }
set_option maxRecDepth 100000 in
def f_X7_countNodesAround_10 : Nat → Nat → Int32 → Int32 → Int32 → Int32 → Mm → Option (Int32 × Mm)
  | 0, _, _, _, _, _, _ => none
  | n + 1, v0, v1, v2, v3, v4, σ =>
    if (100 : Int32) ≤ v4 then (some (v2, σ)) else (zcb (f_X8_isNumber v3 σ) (fun r2 σ3 => if r2 = 0 then (some (v2, σ3)) else (zck (kO σ3 v0 7) (zcb (f_X7_childTowards v0 v3 v1 σ3) (fun r6 σ7 => f_X7_countNodesAround_10 n v0 v1 (v2 + (1 : Int32)) r6 (v4 + (1 : Int32)) σ7)))))
set_option maxRecDepth 100000 in
set_option maxHeartbeats 4000000 in
theorem V_X7_countNodesAround_10 {g : GG} : ∀ (n : Nat) (v0 : Nat) (v1 : Int32) (v2 : Int32) (v3 : Int32) (v4 : Int32) (σ : Mm) (r : Int32) (σ' : Mm), f_X7_countNodesAround_10 n v0 v1 v2 v3 v4 σ = some (r, σ') → VJ g RX7 cX7_countNodesAround 5 (some .int) false rm_X7_countNodesAround (some (.int r)) σ' (0) (0) 10 [(0, .ref (gB g + v0)), (1, .int v1), (2, .int v2), (3, .int v3), (4, .int v4)] [] σ := by
  intro n
  induction n with
  | zero =>
    intro v0 v1 v2 v3 v4 σ r σ' hf
    unfold f_X7_countNodesAround_10 at hf
    cases hf
  | succ n ih =>
    intro v0 v1 v2 v3 v4 σ r σ' hf p e s m args below meth c H locs cells slots ls E hR hS hl hc hs
    obtain ⟨hx, hb, hml, hr, hlocks, hown, hts, hin, hT⟩ := id E
    unfold f_X7_countNodesAround_10 at hf
    refine lv_iload hx hb dX7_countNodesAround_10 (lv_at hl 4 rfl) ?_
    refine lv_bipush (v := (100 : Int32)) hx hb dX7_countNodesAround_12 rfl ?_
    refine lv_icmp_ge (tgt := 40) hx hb dX7_countNodesAround_14 (by decide) (fun hq1 => ?_) (fun hq1 => ?_)
    · have hf := ite_p hq1 hf
      refine lv_iload_n hx hb dX7_countNodesAround_40 rfl (lv_at hl 2 rfl) ?_
      obtain ⟨hr1, hs1⟩ := Prod.mk.inj (Option.some.inj hf)
      exact xr_i E hR hS rfl (by rw [hr1]) hs1.symm hc hs dX7_countNodesAround_41
    · have hf := ite_n hq1 hf
      refine lv_iload_n hx hb dX7_countNodesAround_17 rfl (lv_at hl 3 rfl) ?_
      obtain ⟨r2, σ3, hcr2, hf⟩ := zq_s hf
      refine xSN (As := [.int v3]) (rest := []) (st1 := [.int r2]) E hR hS hl (C_X8_isNumber hcr2) lb_X8_isNumber ls_X8_isNumber nl_X7_42 ⟨Nat.le_of_ble_eq_true rfl, Nat.le_of_ble_eq_true rfl⟩ rfl rfl rfl (Nat.le_of_ble_eq_true rfl) dX7_countNodesAround_18 ⟨hc, hs⟩ (fun H locs hR hS => ?_)
      refine lv_if_eq (tgt := 40) hx hb dX7_countNodesAround_21 (by decide) (fun hq4 => ?_) (fun hq4 => ?_)
      · have hf := ite_p hq4 hf
        refine lv_iload_n hx hb dX7_countNodesAround_40 rfl (lv_at hl 2 rfl) ?_
        obtain ⟨hr1, hs1⟩ := Prod.mk.inj (Option.some.inj hf)
        exact xr_i E hR hS rfl (by rw [hr1]) hs1.symm hc hs dX7_countNodesAround_41
      · have hf := ite_n hq4 hf
        refine lv_iinc (v := (v2 + (1 : Int32))) (lv' := [(2, .int (v2 + (1 : Int32))), (0, .ref (gB g + v0)), (1, .int v1), (3, .int v3), (4, .int v4)]) hx hb dX7_countNodesAround_24 hl (k := 2) rfl rfl (Nat.le_of_ble_eq_true rfl) rfl (fun ls hl => ?_)
        refine lv_aload_n hx hb dX7_countNodesAround_27 rfl (lv_at hl 1 rfl) ?_
        refine lv_iload_n hx hb dX7_countNodesAround_28 rfl (lv_at hl 3 rfl) ?_
        refine lv_iload_n hx hb dX7_countNodesAround_29 rfl (lv_at hl 2 rfl) ?_
        obtain ⟨hk5, hf⟩ := zc_s hf
        obtain ⟨r6, σ7, hcr6, hf⟩ := zq_s hf
        refine xV (As := [.int v3, .int v1]) (rest := []) (st1 := [.int r6]) E hR hS hl (C_X7_childTowards hcr6) hk5 ok7 lb_X7_childTowards lv_X7_childTowards ml_X7_82 ⟨Nat.le_of_ble_eq_true rfl, Nat.le_of_ble_eq_true rfl⟩ rfl rfl rfl (Nat.le_of_ble_eq_true rfl) dX7_countNodesAround_30 ⟨hc, hs⟩ (fun H locs hR hS => ?_)
        refine lv_istore_n (lv' := [(3, .int r6), (2, .int (v2 + (1 : Int32))), (0, .ref (gB g + v0)), (1, .int v1), (4, .int v4)]) hx hb dX7_countNodesAround_33 rfl hl (Nat.le_of_ble_eq_true rfl) rfl (fun ls hl => ?_)
        refine lv_iinc (v := (v4 + (1 : Int32))) (lv' := [(4, .int (v4 + (1 : Int32))), (3, .int r6), (2, .int (v2 + (1 : Int32))), (0, .ref (gB g + v0)), (1, .int v1)]) hx hb dX7_countNodesAround_34 hl (k := 4) rfl rfl (Nat.le_of_ble_eq_true rfl) rfl (fun ls hl => ?_)
        refine lv_goto (tgt := 10) hx hb dX7_countNodesAround_37 (by decide) ?_
        exact ih _ _ _ _ _ _ _ _ hf p e s m args below meth c _ _ _ _ _ E hR hS (lv_sub hl [3, 4, 2, 1, 0] rfl) hc hs
set_option maxRecDepth 100000 in
def f_X7_countNodesAround (v0 : Nat) (v1 : Int32) (σ : Mm) : Option (Int32 × Mm) :=
  zck (kO σ v0 7) (f_X7_countNodesAround_10 1000 v0 v1 (0 : Int32) (mD σ v0 6) (0 : Int32) σ)
set_option maxRecDepth 100000 in
set_option maxHeartbeats 4000000 in
theorem V_X7_countNodesAround_0 {g : GG} (v0 : Nat) (v1 : Int32) (σ : Mm) (r : Int32) (σ' : Mm) (hf : f_X7_countNodesAround v0 v1 σ = some (r, σ')) : VJ g RX7 cX7_countNodesAround 5 (some .int) false rm_X7_countNodesAround (some (.int r)) σ' (0) (0) 0 [(0, .ref (gB g + v0)), (1, .int v1)] [] σ := by
  intro p e s m args below meth c H locs cells slots ls E hR hS hl hc hs
  obtain ⟨hx, hb, hml, hr, hlocks, hown, hts, hin, hT⟩ := id E
  unfold f_X7_countNodesAround at hf
  refine lv_iconst (v := (0 : Int32)) hx hb dX7_countNodesAround_0 rfl ?_
  refine lv_istore_n (lv' := [(2, .int (0 : Int32)), (0, .ref (gB g + v0)), (1, .int v1)]) hx hb dX7_countNodesAround_1 rfl hl (Nat.le_of_ble_eq_true rfl) rfl (fun ls hl => ?_)
  refine lv_aload_n hx hb dX7_countNodesAround_2 rfl (lv_at hl 1 rfl) ?_
  obtain ⟨hk8, hf⟩ := zc_s hf
  refine x_getI E hR hk8 ok7 6 (Nat.le_of_ble_eq_true rfl) rfl fl_X7_27 dX7_countNodesAround_3 ?_
  refine lv_istore_n (lv' := [(3, .int (mD σ v0 6)), (2, .int (0 : Int32)), (0, .ref (gB g + v0)), (1, .int v1)]) hx hb dX7_countNodesAround_6 rfl hl (Nat.le_of_ble_eq_true rfl) rfl (fun ls hl => ?_)
  refine lv_iconst (v := (0 : Int32)) hx hb dX7_countNodesAround_7 rfl ?_
  refine lv_istore (lv' := [(4, .int (0 : Int32)), (3, .int (mD σ v0 6)), (2, .int (0 : Int32)), (0, .ref (gB g + v0)), (1, .int v1)]) hx hb dX7_countNodesAround_8 hl (Nat.le_of_ble_eq_true rfl) rfl (fun ls hl => ?_)
  exact V_X7_countNodesAround_10  1000 _ _ _ _ _ _ _ _ hf p e s m args below meth c _ _ _ _ _ E hR hS (lv_sub hl [3, 4, 2, 1, 0] rfl) hc hs
theorem C_X7_countNodesAround {g : GG} {v0 : Nat} {v1 : Int32} {σ : Mm} {r : Int32} {σ' : Mm} (hf : f_X7_countNodesAround v0 v1 σ = some (r, σ')) : Ct g yX7_countNodesAround cX7_countNodesAround 5 (some .int) rm_X7_countNodesAround [.ref (gB g + v0), .int v1] σ (some (.int r)) σ' :=
  Ct.of false (by decide +kernel) (fun h => by cases h) (Nat.le_of_ble_eq_true rfl) (V_X7_countNodesAround_0 _ _ _ _ _ hf)
abbrev rm_X7_proofLengthOf : Room := { frames := 4, cells := 0, slots := 0, locals := 87 }
set_option maxRecDepth 100000 in
def f_X7_proofLengthOf (v0 : Nat) (v1 : Int32) (σ : Mm) : Option (Int32 × Mm) :=
  zck (kO σ v0 7) (zcb (f_X7_countNodesAround v0 v1 σ) (fun r2 σ3 => some ((((2 : Int32) * r2) + (1 : Int32)), σ3)))
set_option maxRecDepth 100000 in
set_option maxHeartbeats 4000000 in
theorem V_X7_proofLengthOf_0 {g : GG} (v0 : Nat) (v1 : Int32) (σ : Mm) (r : Int32) (σ' : Mm) (hf : f_X7_proofLengthOf v0 v1 σ = some (r, σ')) : VJ g RX7 cX7_proofLengthOf 2 (some .int) false rm_X7_proofLengthOf (some (.int r)) σ' (0) (0) 0 [(0, .ref (gB g + v0)), (1, .int v1)] [] σ := by
  intro p e s m args below meth c H locs cells slots ls E hR hS hl hc hs
  obtain ⟨hx, hb, hml, hr, hlocks, hown, hts, hin, hT⟩ := id E
  unfold f_X7_proofLengthOf at hf
  refine lv_iconst (v := (2 : Int32)) hx hb dX7_proofLengthOf_0 rfl ?_
  refine lv_aload_n hx hb dX7_proofLengthOf_1 rfl (lv_at hl 0 rfl) ?_
  refine lv_iload_n hx hb dX7_proofLengthOf_2 rfl (lv_at hl 1 rfl) ?_
  obtain ⟨hk1, hf⟩ := zc_s hf
  obtain ⟨r2, σ3, hcr2, hf⟩ := zq_s hf
  refine xV (As := [.int v1]) (rest := [.int (2 : Int32)]) (st1 := [.int r2, .int (2 : Int32)]) E hR hS hl (C_X7_countNodesAround hcr2) hk1 ok7 lb_X7_countNodesAround lv_X7_countNodesAround ml_X7_85 ⟨Nat.le_of_ble_eq_true rfl, Nat.le_of_ble_eq_true rfl⟩ rfl rfl rfl (Nat.le_of_ble_eq_true rfl) dX7_proofLengthOf_3 ⟨hc, hs⟩ (fun H locs hR hS => ?_)
  refine lv_imul hx hb dX7_proofLengthOf_6 ?_
  refine lv_iconst (v := (1 : Int32)) hx hb dX7_proofLengthOf_7 rfl ?_
  refine lv_iadd hx hb dX7_proofLengthOf_8 ?_
  obtain ⟨hr1, hs1⟩ := Prod.mk.inj (Option.some.inj hf)
  exact xr_i E hR hS rfl (by rw [hr1]) hs1.symm hc hs dX7_proofLengthOf_9
theorem C_X7_proofLengthOf {g : GG} {v0 : Nat} {v1 : Int32} {σ : Mm} {r : Int32} {σ' : Mm} (hf : f_X7_proofLengthOf v0 v1 σ = some (r, σ')) : Ct g yX7_proofLengthOf cX7_proofLengthOf 2 (some .int) rm_X7_proofLengthOf [.ref (gB g + v0), .int v1] σ (some (.int r)) σ' :=
  Ct.of false (by decide +kernel) (fun h => by cases h) (Nat.le_of_ble_eq_true rfl) (V_X7_proofLengthOf_0 _ _ _ _ _ hf)
abbrev rm_X7_height : Room := { frames := 4, cells := 0, slots := 0, locals := 87 }
set_option maxRecDepth 100000 in
def f_X7_height_4 : Nat → Nat → Int32 → Int32 → Mm → Option (Int32 × Mm)
  | 0, _, _, _, _ => none
  | n + 1, v0, v1, v2, σ =>
    if (100 : Int32) ≤ v2 then (some (v1, σ)) else (zck (kO σ v0 7) (zcb (f_X7_countNodesAround v0 v2 σ) (fun r3 σ4 => zcb (f_J9_max_7cf53 v1 r3 σ4) (fun r5 σ6 => f_X7_height_4 n v0 r5 (v2 + (1 : Int32)) σ6))))
set_option maxRecDepth 100000 in
set_option maxHeartbeats 4000000 in
theorem V_X7_height_4 {g : GG} : ∀ (n : Nat) (v0 : Nat) (v1 : Int32) (v2 : Int32) (σ : Mm) (r : Int32) (σ' : Mm), f_X7_height_4 n v0 v1 v2 σ = some (r, σ') → VJ g RX7 cX7_height 3 (some .int) false rm_X7_height (some (.int r)) σ' (0) (0) 4 [(0, .ref (gB g + v0)), (1, .int v1), (2, .int v2)] [] σ := by
  intro n
  induction n with
  | zero =>
    intro v0 v1 v2 σ r σ' hf
    unfold f_X7_height_4 at hf
    cases hf
  | succ n ih =>
    intro v0 v1 v2 σ r σ' hf p e s m args below meth c H locs cells slots ls E hR hS hl hc hs
    obtain ⟨hx, hb, hml, hr, hlocks, hown, hts, hin, hT⟩ := id E
    unfold f_X7_height_4 at hf
    refine lv_iload_n hx hb dX7_height_4 rfl (lv_at hl 2 rfl) ?_
    refine lv_bipush (v := (100 : Int32)) hx hb dX7_height_5 rfl ?_
    refine lv_icmp_ge (tgt := 26) hx hb dX7_height_7 (by decide) (fun hq1 => ?_) (fun hq1 => ?_)
    · have hf := ite_p hq1 hf
      refine lv_iload_n hx hb dX7_height_26 rfl (lv_at hl 1 rfl) ?_
      obtain ⟨hr1, hs1⟩ := Prod.mk.inj (Option.some.inj hf)
      exact xr_i E hR hS rfl (by rw [hr1]) hs1.symm hc hs dX7_height_27
    · have hf := ite_n hq1 hf
      refine lv_iload_n hx hb dX7_height_10 rfl (lv_at hl 1 rfl) ?_
      refine lv_aload_n hx hb dX7_height_11 rfl (lv_at hl 0 rfl) ?_
      refine lv_iload_n hx hb dX7_height_12 rfl (lv_at hl 2 rfl) ?_
      obtain ⟨hk2, hf⟩ := zc_s hf
      obtain ⟨r3, σ4, hcr3, hf⟩ := zq_s hf
      refine xV (As := [.int v2]) (rest := [.int v1]) (st1 := [.int r3, .int v1]) E hR hS hl (C_X7_countNodesAround hcr3) hk2 ok7 lb_X7_countNodesAround lv_X7_countNodesAround ml_X7_85 ⟨Nat.le_of_ble_eq_true rfl, Nat.le_of_ble_eq_true rfl⟩ rfl rfl rfl (Nat.le_of_ble_eq_true rfl) dX7_height_13 ⟨hc, hs⟩ (fun H locs hR hS => ?_)
      obtain ⟨r5, σ6, hcr5, hf⟩ := zq_s hf
      refine xS (As := [.int v1, .int r3]) (rest := []) (st1 := [.int r5]) E hR hS hl (C_J9_max_7cf53 hcr5) lb_J9_max_7cf53 ls_J9_max_7cf53 ml_X7_88 ⟨Nat.le_of_ble_eq_true rfl, Nat.le_of_ble_eq_true rfl⟩ rfl rfl rfl (Nat.le_of_ble_eq_true rfl) dX7_height_16 ⟨hc, hs⟩ (fun H locs hR hS => ?_)
      refine lv_istore_n (lv' := [(1, .int r5), (0, .ref (gB g + v0)), (2, .int v2)]) hx hb dX7_height_19 rfl hl (Nat.le_of_ble_eq_true rfl) rfl (fun ls hl => ?_)
      refine lv_iinc (v := (v2 + (1 : Int32))) (lv' := [(2, .int (v2 + (1 : Int32))), (1, .int r5), (0, .ref (gB g + v0))]) hx hb dX7_height_20 hl (k := 2) rfl rfl (Nat.le_of_ble_eq_true rfl) rfl (fun ls hl => ?_)
      refine lv_goto (tgt := 4) hx hb dX7_height_23 (by decide) ?_
      exact ih _ _ _ _ _ _ hf p e s m args below meth c _ _ _ _ _ E hR hS (lv_sub hl [2, 1, 0] rfl) hc hs
set_option maxRecDepth 100000 in
def f_X7_height (v0 : Nat) (σ : Mm) : Option (Int32 × Mm) :=
  f_X7_height_4 1000 v0 (0 : Int32) (0 : Int32) σ
set_option maxRecDepth 100000 in
set_option maxHeartbeats 4000000 in
theorem V_X7_height_0 {g : GG} (v0 : Nat) (σ : Mm) (r : Int32) (σ' : Mm) (hf : f_X7_height v0 σ = some (r, σ')) : VJ g RX7 cX7_height 3 (some .int) false rm_X7_height (some (.int r)) σ' (0) (0) 0 [(0, .ref (gB g + v0))] [] σ := by
  intro p e s m args below meth c H locs cells slots ls E hR hS hl hc hs
  obtain ⟨hx, hb, hml, hr, hlocks, hown, hts, hin, hT⟩ := id E
  unfold f_X7_height at hf
  refine lv_iconst (v := (0 : Int32)) hx hb dX7_height_0 rfl ?_
  refine lv_istore_n (lv' := [(1, .int (0 : Int32)), (0, .ref (gB g + v0))]) hx hb dX7_height_1 rfl hl (Nat.le_of_ble_eq_true rfl) rfl (fun ls hl => ?_)
  refine lv_iconst (v := (0 : Int32)) hx hb dX7_height_2 rfl ?_
  refine lv_istore_n (lv' := [(2, .int (0 : Int32)), (1, .int (0 : Int32)), (0, .ref (gB g + v0))]) hx hb dX7_height_3 rfl hl (Nat.le_of_ble_eq_true rfl) rfl (fun ls hl => ?_)
  exact V_X7_height_4  1000 _ _ _ _ _ _ hf p e s m args below meth c _ _ _ _ _ E hR hS (lv_sub hl [2, 1, 0] rfl) hc hs
theorem C_X7_height {g : GG} {v0 : Nat} {σ : Mm} {r : Int32} {σ' : Mm} (hf : f_X7_height v0 σ = some (r, σ')) : Ct g yX7_height cX7_height 3 (some .int) rm_X7_height [.ref (gB g + v0)] σ (some (.int r)) σ' :=
  Ct.of false (by decide +kernel) (fun h => by cases h) (Nat.le_of_ble_eq_true rfl) (V_X7_height_0 _ _ _ _ hf)
abbrev rm_X7_placeOf : Room := { frames := 3, cells := 1, slots := 4, locals := 63 }
set_option maxRecDepth 100000 in
def f_X7_placeOf_69 (k_21 : Nat → Int32 → Int32 → Int32 → Int32 → Int32 → Int32 → Int32 → Mm → Option (Nat × Mm)) (v0 : Nat) (v1 : Int32) (v2 : Int32) (v3 : Int32) (v4 : Int32) (v5 : Int32) (v6 : Int32) (v7 : Int32) (σ : Mm) : Option (Nat × Mm) :=
  zck (kO σ v0 7) (zcb (f_X7_childTowards v0 v6 v1 σ) (fun r2 σ3 => k_21 v0 v1 v2 v3 v4 v5 r2 (v7 + (1 : Int32)) σ3))
set_option maxRecDepth 100000 in
set_option maxHeartbeats 4000000 in
theorem V_X7_placeOf_69 {g : GG} (k_21 : Nat → Int32 → Int32 → Int32 → Int32 → Int32 → Int32 → Int32 → Mm → Option (Nat × Mm)) (kc_21 ks_21 : Nat) (hk_21 : ∀ (v0 : Nat) (v1 : Int32) (v2 : Int32) (v3 : Int32) (v4 : Int32) (v5 : Int32) (v6 : Int32) (v7 : Int32) (σ : Mm) (r : Nat) (σ' : Mm), k_21 v0 v1 v2 v3 v4 v5 v6 v7 σ = some (r, σ') → VJ g RX7 cX7_placeOf 8 (some (.object "BorderProofs$Place")) false rm_X7_placeOf (some (.ref (gB g + r))) σ' (kc_21) (ks_21) 21 [(0, .ref (gB g + v0)), (1, .int v1), (2, .int v2), (3, .int v3), (4, .int v4), (5, .int v5), (6, .int v6), (7, .int v7)] [] σ) (v0 : Nat) (v1 : Int32) (v2 : Int32) (v3 : Int32) (v4 : Int32) (v5 : Int32) (v6 : Int32) (v7 : Int32) (σ : Mm) (r : Nat) (σ' : Mm) (hf : f_X7_placeOf_69 k_21 v0 v1 v2 v3 v4 v5 v6 v7 σ = some (r, σ')) (kc ks : Nat) (hq_21 : 0 + kc_21 ≤ kc ∧ 0 + ks_21 ≤ ks) : VJ g RX7 cX7_placeOf 8 (some (.object "BorderProofs$Place")) false rm_X7_placeOf (some (.ref (gB g + r))) σ' (kc) (ks) 69 [(0, .ref (gB g + v0)), (1, .int v1), (2, .int v2), (3, .int v3), (4, .int v4), (5, .int v5), (6, .int v6), (7, .int v7)] [] σ := by
  intro p e s m args below meth c H locs cells slots ls E hR hS hl hc hs
  have hc : cells + kc ≤ 1 := hc
  have hs : slots + ks ≤ 4 := hs
  obtain ⟨hx, hb, hml, hr, hlocks, hown, hts, hin, hT⟩ := id E
  unfold f_X7_placeOf_69 at hf
  refine lv_aload_n hx hb dX7_placeOf_69 rfl (lv_at hl 0 rfl) ?_
  refine lv_iload hx hb dX7_placeOf_70 (lv_at hl 6 rfl) ?_
  refine lv_iload_n hx hb dX7_placeOf_72 rfl (lv_at hl 1 rfl) ?_
  obtain ⟨hk1, hf⟩ := zc_s hf
  obtain ⟨r2, σ3, hcr2, hf⟩ := zq_s hf
  refine xV (As := [.int v6, .int v1]) (rest := []) (st1 := [.int r2]) E hR hS hl (C_X7_childTowards hcr2) hk1 ok7 lb_X7_childTowards lv_X7_childTowards ml_X7_82 ⟨Nat.le_of_ble_eq_true rfl, Nat.le_of_ble_eq_true rfl⟩ rfl rfl rfl (Nat.le_of_ble_eq_true rfl) dX7_placeOf_73 ⟨show cells + 0 ≤ 1 by omega, show slots + 0 ≤ 4 by omega⟩ (fun H locs hR hS => ?_)
  refine lv_istore (lv' := [(6, .int r2), (0, .ref (gB g + v0)), (1, .int v1), (2, .int v2), (3, .int v3), (4, .int v4), (5, .int v5), (7, .int v7)]) hx hb dX7_placeOf_76 hl (Nat.le_of_ble_eq_true rfl) rfl (fun ls hl => ?_)
  refine lv_iinc (v := (v7 + (1 : Int32))) (lv' := [(7, .int (v7 + (1 : Int32))), (6, .int r2), (0, .ref (gB g + v0)), (1, .int v1), (2, .int v2), (3, .int v3), (4, .int v4), (5, .int v5)]) hx hb dX7_placeOf_78 hl (k := 7) rfl rfl (Nat.le_of_ble_eq_true rfl) rfl (fun ls hl => ?_)
  refine lv_goto (tgt := 21) hx hb dX7_placeOf_81 (by decide) ?_
  exact hk_21 _ _ _ _ _ _ _ _ _ _ _ hf p e s m args below meth c _ _ _ _ _ E hR hS (lv_sub hl [2, 3, 4, 5, 6, 7, 1, 0] rfl) (show cells + 0 + (kc_21) ≤ 1 by omega) (show slots + 0 + (ks_21) ≤ 4 by omega)
set_option maxRecDepth 100000 in
def f_X7_placeOf_84 (v2 : Int32) (v3 : Int32) (v4 : Int32) (v5 : Int32) (σ : Mm) : Option (Nat × Mm) :=
  zlt (nw σ (0, 4)) (fun σ4 => zcb (f_X4_init (mN σ) v2 v3 v4 v5 σ4) (fun r5 σ6 => some ((mN σ), σ6)))
set_option maxRecDepth 100000 in
set_option maxHeartbeats 4000000 in
theorem V_X7_placeOf_84 {g : GG} (v2 : Int32) (v3 : Int32) (v4 : Int32) (v5 : Int32) (σ : Mm) (r : Nat) (σ' : Mm) (hf : f_X7_placeOf_84 v2 v3 v4 v5 σ = some (r, σ')) (kc ks : Nat) (hqe : 1 ≤ kc ∧ 4 ≤ ks) : VJ g RX7 cX7_placeOf 8 (some (.object "BorderProofs$Place")) false rm_X7_placeOf (some (.ref (gB g + r))) σ' (kc) (ks) 84 [(2, .int v2), (3, .int v3), (4, .int v4), (5, .int v5)] [] σ := by
  intro p e s m args below meth c H locs cells slots ls E hR hS hl hc hs
  have hc : cells + kc ≤ 1 := hc
  have hs : slots + ks ≤ 4 := hs
  obtain ⟨hx, hb, hml, hr, hlocks, hown, hts, hin, hT⟩ := id E
  unfold f_X7_placeOf_84 at hf
  obtain ⟨σ4, eσ4, hf⟩ := zl_s hf
  refine x_new E hR hS ok4 cd4 cl_X7_93 cn4 ci4 (show cells + 1 ≤ 1 by omega) (show slots + 4 ≤ 4 by omega) dX7_placeOf_84 (fun H hR hS => ?_)
  rw [← eσ4] at hR
  refine lv_dup hx hb dX7_placeOf_87 rfl ?_
  refine lv_iload_n hx hb dX7_placeOf_88 rfl (lv_at hl 0 rfl) ?_
  refine lv_iload_n hx hb dX7_placeOf_89 rfl (lv_at hl 1 rfl) ?_
  refine lv_iload hx hb dX7_placeOf_90 (lv_at hl 2 rfl) ?_
  refine lv_iload hx hb dX7_placeOf_92 (lv_at hl 3 rfl) ?_
  obtain ⟨r5, σ6, hcr5, hf⟩ := zq_s hf
  refine xI (As := [.int v2, .int v3, .int v4, .int v5]) (rest := [.ref (gB g + (mN σ))]) (st1 := [.ref (gB g + (mN σ))]) E hR hS hl (C_X4_init hcr5) lb_X4_init li_X4_init ml_X7_95 ⟨Nat.le_of_ble_eq_true rfl, Nat.le_of_ble_eq_true rfl⟩ rfl rfl rfl (Nat.le_of_ble_eq_true rfl) dX7_placeOf_94 ⟨show cells + 1 + 0 ≤ 1 by omega, show slots + 4 + 0 ≤ 4 by omega⟩ (fun H locs hR hS => ?_)
  obtain ⟨hr1, hs1⟩ := Prod.mk.inj (Option.some.inj hf)
  exact xr_a E hR hS rfl (by rw [hr1]) hs1.symm (show cells + 1 + 0 ≤ 1 by omega) (show slots + 4 + 0 ≤ 4 by omega) dX7_placeOf_97
set_option maxRecDepth 100000 in
def f_X7_placeOf_21 : Nat → Nat → Int32 → Int32 → Int32 → Int32 → Int32 → Int32 → Int32 → Mm → Option (Nat × Mm)
  | 0, _, _, _, _, _, _, _, _, _ => none
  | n + 1, v0, v1, v2, v3, v4, v5, v6, v7, σ =>
    if (100 : Int32) ≤ v7 then (f_X7_placeOf_84 v2 v3 v4 v5 σ) else (zcb (f_X8_isNumber v6 σ) (fun r8 σ9 => if r8 = 0 then (f_X7_placeOf_84 v2 v3 v4 v5 σ9) else (if v6 = v1 then (f_X7_placeOf_84 v2 v3 v4 v5 σ9) else (if v6 ≤ v1 then (f_X7_placeOf_69 (f_X7_placeOf_21 n) v0 v1 (v2 + (1 : Int32)) v6 (v6 + (1 : Int32)) v5 v6 v7 σ9) else (f_X7_placeOf_69 (f_X7_placeOf_21 n) v0 v1 (v2 + (1 : Int32)) v6 v4 (v6 - (1 : Int32)) v6 v7 σ9)))))
set_option maxRecDepth 100000 in
set_option maxHeartbeats 4000000 in
theorem V_X7_placeOf_21 {g : GG} : ∀ (n : Nat) (v0 : Nat) (v1 : Int32) (v2 : Int32) (v3 : Int32) (v4 : Int32) (v5 : Int32) (v6 : Int32) (v7 : Int32) (σ : Mm) (r : Nat) (σ' : Mm), f_X7_placeOf_21 n v0 v1 v2 v3 v4 v5 v6 v7 σ = some (r, σ') → VJ g RX7 cX7_placeOf 8 (some (.object "BorderProofs$Place")) false rm_X7_placeOf (some (.ref (gB g + r))) σ' (n * 0 + 1) (n * 0 + 4) 21 [(0, .ref (gB g + v0)), (1, .int v1), (2, .int v2), (3, .int v3), (4, .int v4), (5, .int v5), (6, .int v6), (7, .int v7)] [] σ := by
  intro n
  induction n with
  | zero =>
    intro v0 v1 v2 v3 v4 v5 v6 v7 σ r σ' hf
    unfold f_X7_placeOf_21 at hf
    cases hf
  | succ n ih =>
    intro v0 v1 v2 v3 v4 v5 v6 v7 σ r σ' hf p e s m args below meth c H locs cells slots ls E hR hS hl hc hs
    have hc : cells + ((n + 1) * 0 + 1) ≤ 1 := hc
    have hs : slots + ((n + 1) * 0 + 4) ≤ 4 := hs
    obtain ⟨hx, hb, hml, hr, hlocks, hown, hts, hin, hT⟩ := id E
    unfold f_X7_placeOf_21 at hf
    refine lv_iload hx hb dX7_placeOf_21 (lv_at hl 7 rfl) ?_
    refine lv_bipush (v := (100 : Int32)) hx hb dX7_placeOf_23 rfl ?_
    refine lv_icmp_ge (tgt := 84) hx hb dX7_placeOf_25 (by decide) (fun hq7 => ?_) (fun hq7 => ?_)
    · have hf := ite_p hq7 hf
      exact V_X7_placeOf_84  _ _ _ _ _ _ _ hf (1 - (cells)) (4 - (slots)) (by constructor <;> omega) p e s m args below meth c _ _ _ _ _ E hR hS (lv_sub hl [2, 3, 4, 5] rfl) (show cells + (1 - (cells)) ≤ 1 by omega) (show slots + (4 - (slots)) ≤ 4 by omega)
    · have hf := ite_n hq7 hf
      refine lv_iload hx hb dX7_placeOf_28 (lv_at hl 6 rfl) ?_
      obtain ⟨r8, σ9, hcr8, hf⟩ := zq_s hf
      refine xSN (As := [.int v6]) (rest := []) (st1 := [.int r8]) E hR hS hl (C_X8_isNumber hcr8) lb_X8_isNumber ls_X8_isNumber nl_X7_42 ⟨Nat.le_of_ble_eq_true rfl, Nat.le_of_ble_eq_true rfl⟩ rfl rfl rfl (Nat.le_of_ble_eq_true rfl) dX7_placeOf_30 ⟨show cells + 0 ≤ 1 by omega, show slots + 0 ≤ 4 by omega⟩ (fun H locs hR hS => ?_)
      refine lv_if_eq (tgt := 84) hx hb dX7_placeOf_33 (by decide) (fun hq10 => ?_) (fun hq10 => ?_)
      · have hf := ite_p hq10 hf
        exact V_X7_placeOf_84  _ _ _ _ _ _ _ hf (1 - (cells + 0)) (4 - (slots + 0)) (by constructor <;> omega) p e s m args below meth c _ _ _ _ _ E hR hS (lv_sub hl [2, 3, 4, 5] rfl) (show cells + 0 + (1 - (cells + 0)) ≤ 1 by omega) (show slots + 0 + (4 - (slots + 0)) ≤ 4 by omega)
      · have hf := ite_n hq10 hf
        refine lv_iload hx hb dX7_placeOf_36 (lv_at hl 6 rfl) ?_
        refine lv_iload_n hx hb dX7_placeOf_38 rfl (lv_at hl 1 rfl) ?_
        refine lv_icmp_eq (tgt := 84) hx hb dX7_placeOf_39 (by decide) (fun hq11 => ?_) (fun hq11 => ?_)
        · have hf := ite_p hq11 hf
          exact V_X7_placeOf_84  _ _ _ _ _ _ _ hf (1 - (cells + 0)) (4 - (slots + 0)) (by constructor <;> omega) p e s m args below meth c _ _ _ _ _ E hR hS (lv_sub hl [2, 3, 4, 5] rfl) (show cells + 0 + (1 - (cells + 0)) ≤ 1 by omega) (show slots + 0 + (4 - (slots + 0)) ≤ 4 by omega)
        · have hf := ite_n hq11 hf
          refine lv_iinc (v := (v2 + (1 : Int32))) (lv' := [(2, .int (v2 + (1 : Int32))), (0, .ref (gB g + v0)), (1, .int v1), (3, .int v3), (4, .int v4), (5, .int v5), (6, .int v6), (7, .int v7)]) hx hb dX7_placeOf_42 hl (k := 2) rfl rfl (Nat.le_of_ble_eq_true rfl) rfl (fun ls hl => ?_)
          refine lv_iload hx hb dX7_placeOf_45 (lv_at hl 6 rfl) ?_
          refine lv_istore_n (lv' := [(3, .int v6), (2, .int (v2 + (1 : Int32))), (0, .ref (gB g + v0)), (1, .int v1), (4, .int v4), (5, .int v5), (6, .int v6), (7, .int v7)]) hx hb dX7_placeOf_47 rfl hl (Nat.le_of_ble_eq_true rfl) rfl (fun ls hl => ?_)
          refine lv_iload_n hx hb dX7_placeOf_48 rfl (lv_at hl 3 rfl) ?_
          refine lv_iload hx hb dX7_placeOf_49 (lv_at hl 6 rfl) ?_
          refine lv_icmp_ge (tgt := 63) hx hb dX7_placeOf_51 (by decide) (fun hq12 => ?_) (fun hq12 => ?_)
          · have hf := ite_p hq12 hf
            refine lv_iload hx hb dX7_placeOf_63 (lv_at hl 6 rfl) ?_
            refine lv_iconst (v := (1 : Int32)) hx hb dX7_placeOf_65 rfl ?_
            refine lv_iadd hx hb dX7_placeOf_66 ?_
            refine lv_istore (lv' := [(4, .int (v6 + (1 : Int32))), (3, .int v6), (2, .int (v2 + (1 : Int32))), (0, .ref (gB g + v0)), (1, .int v1), (5, .int v5), (6, .int v6), (7, .int v7)]) hx hb dX7_placeOf_67 hl (Nat.le_of_ble_eq_true rfl) rfl (fun ls hl => ?_)
            exact V_X7_placeOf_69 _ (n * 0 + 1) (n * 0 + 4) ih _ _ _ _ _ _ _ _ _ _ _ hf (1 - (cells + 0)) (4 - (slots + 0)) (by constructor <;> omega) p e s m args below meth c _ _ _ _ _ E hR hS (lv_sub hl [3, 4, 2, 1, 0, 5, 6, 7] rfl) (show cells + 0 + (1 - (cells + 0)) ≤ 1 by omega) (show slots + 0 + (4 - (slots + 0)) ≤ 4 by omega)
          · have hf := ite_n hq12 hf
            refine lv_iload hx hb dX7_placeOf_54 (lv_at hl 6 rfl) ?_
            refine lv_iconst (v := (1 : Int32)) hx hb dX7_placeOf_56 rfl ?_
            refine lv_isub hx hb dX7_placeOf_57 ?_
            refine lv_istore (lv' := [(5, .int (v6 - (1 : Int32))), (3, .int v6), (2, .int (v2 + (1 : Int32))), (0, .ref (gB g + v0)), (1, .int v1), (4, .int v4), (6, .int v6), (7, .int v7)]) hx hb dX7_placeOf_58 hl (Nat.le_of_ble_eq_true rfl) rfl (fun ls hl => ?_)
            refine lv_goto (tgt := 69) hx hb dX7_placeOf_60 (by decide) ?_
            exact V_X7_placeOf_69 _ (n * 0 + 1) (n * 0 + 4) ih _ _ _ _ _ _ _ _ _ _ _ hf (1 - (cells + 0)) (4 - (slots + 0)) (by constructor <;> omega) p e s m args below meth c _ _ _ _ _ E hR hS (lv_sub hl [3, 4, 2, 1, 5, 0, 6, 7] rfl) (show cells + 0 + (1 - (cells + 0)) ≤ 1 by omega) (show slots + 0 + (4 - (slots + 0)) ≤ 4 by omega)
set_option maxRecDepth 100000 in
def f_X7_placeOf (v0 : Nat) (v1 : Int32) (σ : Mm) : Option (Nat × Mm) :=
  zck (kO σ v0 7) (f_X7_placeOf_21 1000 v0 v1 (0 : Int32) (-9 : Int32) (0 : Int32) (99 : Int32) (mD σ v0 6) (0 : Int32) σ)
set_option maxRecDepth 100000 in
set_option maxHeartbeats 4000000 in
theorem V_X7_placeOf_0 {g : GG} (v0 : Nat) (v1 : Int32) (σ : Mm) (r : Nat) (σ' : Mm) (hf : f_X7_placeOf v0 v1 σ = some (r, σ')) (kc ks : Nat) (hqe : 1 ≤ kc ∧ 4 ≤ ks) : VJ g RX7 cX7_placeOf 8 (some (.object "BorderProofs$Place")) false rm_X7_placeOf (some (.ref (gB g + r))) σ' (kc) (ks) 0 [(0, .ref (gB g + v0)), (1, .int v1)] [] σ := by
  intro p e s m args below meth c H locs cells slots ls E hR hS hl hc hs
  have hc : cells + kc ≤ 1 := hc
  have hs : slots + ks ≤ 4 := hs
  obtain ⟨hx, hb, hml, hr, hlocks, hown, hts, hin, hT⟩ := id E
  unfold f_X7_placeOf at hf
  refine lv_iconst (v := (0 : Int32)) hx hb dX7_placeOf_0 rfl ?_
  refine lv_istore_n (lv' := [(2, .int (0 : Int32)), (0, .ref (gB g + v0)), (1, .int v1)]) hx hb dX7_placeOf_1 rfl hl (Nat.le_of_ble_eq_true rfl) rfl (fun ls hl => ?_)
  refine lv_bipush (v := (-9 : Int32)) hx hb dX7_placeOf_2 rfl ?_
  refine lv_istore_n (lv' := [(3, .int (-9 : Int32)), (2, .int (0 : Int32)), (0, .ref (gB g + v0)), (1, .int v1)]) hx hb dX7_placeOf_4 rfl hl (Nat.le_of_ble_eq_true rfl) rfl (fun ls hl => ?_)
  refine lv_iconst (v := (0 : Int32)) hx hb dX7_placeOf_5 rfl ?_
  refine lv_istore (lv' := [(4, .int (0 : Int32)), (3, .int (-9 : Int32)), (2, .int (0 : Int32)), (0, .ref (gB g + v0)), (1, .int v1)]) hx hb dX7_placeOf_6 hl (Nat.le_of_ble_eq_true rfl) rfl (fun ls hl => ?_)
  refine lv_bipush (v := (99 : Int32)) hx hb dX7_placeOf_8 rfl ?_
  refine lv_istore (lv' := [(5, .int (99 : Int32)), (4, .int (0 : Int32)), (3, .int (-9 : Int32)), (2, .int (0 : Int32)), (0, .ref (gB g + v0)), (1, .int v1)]) hx hb dX7_placeOf_10 hl (Nat.le_of_ble_eq_true rfl) rfl (fun ls hl => ?_)
  refine lv_aload_n hx hb dX7_placeOf_12 rfl (lv_at hl 4 rfl) ?_
  obtain ⟨hk13, hf⟩ := zc_s hf
  refine x_getI E hR hk13 ok7 6 (Nat.le_of_ble_eq_true rfl) rfl fl_X7_27 dX7_placeOf_13 ?_
  refine lv_istore (lv' := [(6, .int (mD σ v0 6)), (5, .int (99 : Int32)), (4, .int (0 : Int32)), (3, .int (-9 : Int32)), (2, .int (0 : Int32)), (0, .ref (gB g + v0)), (1, .int v1)]) hx hb dX7_placeOf_16 hl (Nat.le_of_ble_eq_true rfl) rfl (fun ls hl => ?_)
  refine lv_iconst (v := (0 : Int32)) hx hb dX7_placeOf_18 rfl ?_
  refine lv_istore (lv' := [(7, .int (0 : Int32)), (6, .int (mD σ v0 6)), (5, .int (99 : Int32)), (4, .int (0 : Int32)), (3, .int (-9 : Int32)), (2, .int (0 : Int32)), (0, .ref (gB g + v0)), (1, .int v1)]) hx hb dX7_placeOf_19 hl (Nat.le_of_ble_eq_true rfl) rfl (fun ls hl => ?_)
  exact V_X7_placeOf_21  1000 _ _ _ _ _ _ _ _ _ _ _ hf p e s m args below meth c _ _ _ _ _ E hR hS (lv_sub hl [6, 7, 5, 4, 3, 2, 1, 0] rfl) (show cells + (1000 * 0 + 1) ≤ 1 by omega) (show slots + (1000 * 0 + 4) ≤ 4 by omega)
theorem C_X7_placeOf {g : GG} {v0 : Nat} {v1 : Int32} {σ : Mm} {r : Nat} {σ' : Mm} (hf : f_X7_placeOf v0 v1 σ = some (r, σ')) : Ct g yX7_placeOf cX7_placeOf 8 (some (.object "BorderProofs$Place")) rm_X7_placeOf [.ref (gB g + v0), .int v1] σ (some (.ref (gB g + r))) σ' :=
  Ct.of false (by decide +kernel) (fun h => by cases h) (Nat.le_of_ble_eq_true rfl) (V_X7_placeOf_0 _ _ _ _ _ hf 1 4 ⟨Nat.le_of_ble_eq_true rfl, Nat.le_of_ble_eq_true rfl⟩)
abbrev rm_X7_isLike : Room := { frames := 2, cells := 0, slots := 0, locals := 41 }
set_option maxRecDepth 100000 in
def f_X7_isLike (v0 : Nat) (v1 : Int32) (v2 : Nat) (σ : Mm) : Option (Int32 × Mm) :=
  zck (kO σ v0 7) (zcb (f_X7_digestOf v0 v1 σ) (fun r2 σ3 => if r2 = 0 then (some ((0 : Int32), σ3)) else (zck (kO σ3 v0 7) (zcb (f_X7_digestOf v0 v1 σ3) (fun r6 σ7 => zck (kO σ7 v2 7) (zcb (f_X7_digestOf v2 v1 σ7) (fun r9 σ10 => if r6 = r9 then (some ((1 : Int32), σ10)) else (some ((0 : Int32), σ10)))))))))
set_option maxRecDepth 100000 in
set_option maxHeartbeats 4000000 in
theorem V_X7_isLike_0 {g : GG} (v0 : Nat) (v1 : Int32) (v2 : Nat) (σ : Mm) (r : Int32) (σ' : Mm) (hf : f_X7_isLike v0 v1 v2 σ = some (r, σ')) : VJ g RX7 cX7_isLike 3 (some .boolean) false rm_X7_isLike (some (.int r)) σ' (0) (0) 0 [(0, .ref (gB g + v0)), (1, .int v1), (2, .ref (gB g + v2))] [] σ := by
  intro p e s m args below meth c H locs cells slots ls E hR hS hl hc hs
  obtain ⟨hx, hb, hml, hr, hlocks, hown, hts, hin, hT⟩ := id E
  unfold f_X7_isLike at hf
  refine lv_aload_n hx hb dX7_isLike_0 rfl (lv_at hl 0 rfl) ?_
  refine lv_iload_n hx hb dX7_isLike_1 rfl (lv_at hl 1 rfl) ?_
  obtain ⟨hk1, hf⟩ := zc_s hf
  obtain ⟨r2, σ3, hcr2, hf⟩ := zq_s hf
  refine xV (As := [.int v1]) (rest := []) (st1 := [.int r2]) E hR hS hl (C_X7_digestOf hcr2) hk1 ok7 lb_X7_digestOf lv_X7_digestOf ml_X7_98 ⟨Nat.le_of_ble_eq_true rfl, Nat.le_of_ble_eq_true rfl⟩ rfl rfl rfl (Nat.le_of_ble_eq_true rfl) dX7_isLike_2 ⟨hc, hs⟩ (fun H locs hR hS => ?_)
  refine lv_if_eq (tgt := 25) hx hb dX7_isLike_5 (by decide) (fun hq4 => ?_) (fun hq4 => ?_)
  · have hf := ite_p hq4 hf
    refine lv_iconst (v := (0 : Int32)) hx hb dX7_isLike_25 rfl ?_
    obtain ⟨hr1, hs1⟩ := Prod.mk.inj (Option.some.inj hf)
    exact xr_z E hR hS rfl rfl (by rw [hr1]) hs1.symm hc hs dX7_isLike_26
  · have hf := ite_n hq4 hf
    refine lv_aload_n hx hb dX7_isLike_8 rfl (lv_at hl 0 rfl) ?_
    refine lv_iload_n hx hb dX7_isLike_9 rfl (lv_at hl 1 rfl) ?_
    obtain ⟨hk5, hf⟩ := zc_s hf
    obtain ⟨r6, σ7, hcr6, hf⟩ := zq_s hf
    refine xV (As := [.int v1]) (rest := []) (st1 := [.int r6]) E hR hS hl (C_X7_digestOf hcr6) hk5 ok7 lb_X7_digestOf lv_X7_digestOf ml_X7_98 ⟨Nat.le_of_ble_eq_true rfl, Nat.le_of_ble_eq_true rfl⟩ rfl rfl rfl (Nat.le_of_ble_eq_true rfl) dX7_isLike_10 ⟨hc, hs⟩ (fun H locs hR hS => ?_)
    refine lv_aload_n hx hb dX7_isLike_13 rfl (lv_at hl 2 rfl) ?_
    refine lv_iload_n hx hb dX7_isLike_14 rfl (lv_at hl 1 rfl) ?_
    obtain ⟨hk8, hf⟩ := zc_s hf
    obtain ⟨r9, σ10, hcr9, hf⟩ := zq_s hf
    refine xV (As := [.int v1]) (rest := [.int r6]) (st1 := [.int r9, .int r6]) E hR hS hl (C_X7_digestOf hcr9) hk8 ok7 lb_X7_digestOf lv_X7_digestOf ml_X7_98 ⟨Nat.le_of_ble_eq_true rfl, Nat.le_of_ble_eq_true rfl⟩ rfl rfl rfl (Nat.le_of_ble_eq_true rfl) dX7_isLike_15 ⟨hc, hs⟩ (fun H locs hR hS => ?_)
    refine lv_icmp_ne (tgt := 25) hx hb dX7_isLike_18 (by decide) (fun hq11 => ?_) (fun hq11 => ?_)
    · have hf := ite_n hq11 hf
      refine lv_iconst (v := (0 : Int32)) hx hb dX7_isLike_25 rfl ?_
      obtain ⟨hr1, hs1⟩ := Prod.mk.inj (Option.some.inj hf)
      exact xr_z E hR hS rfl rfl (by rw [hr1]) hs1.symm hc hs dX7_isLike_26
    · have hf := ite_p hq11 hf
      refine lv_iconst (v := (1 : Int32)) hx hb dX7_isLike_21 rfl ?_
      refine lv_goto (tgt := 26) hx hb dX7_isLike_22 (by decide) ?_
      obtain ⟨hr1, hs1⟩ := Prod.mk.inj (Option.some.inj hf)
      exact xr_z E hR hS rfl rfl (by rw [hr1]) hs1.symm hc hs dX7_isLike_26
theorem C_X7_isLike {g : GG} {v0 : Nat} {v1 : Int32} {v2 : Nat} {σ : Mm} {r : Int32} {σ' : Mm} (hf : f_X7_isLike v0 v1 v2 σ = some (r, σ')) : Ct g yX7_isLike cX7_isLike 3 (some .boolean) rm_X7_isLike [.ref (gB g + v0), .int v1, .ref (gB g + v2)] σ (some (.int r)) σ' :=
  Ct.of false (by decide +kernel) (fun h => by cases h) (Nat.le_of_ble_eq_true rfl) (V_X7_isLike_0 _ _ _ _ _ _ hf)
abbrev rm_X7_isFirstLike : Room := { frames := 3, cells := 0, slots := 0, locals := 63 }
set_option maxRecDepth 100000 in
def f_X7_isFirstLike_51 (v0 : Nat) (v1 : Int32) (v2 : Nat) (v3 : Int32) (σ : Mm) : Option (Int32 × Mm) :=
  if v3 = v1 then (zck (kO σ v0 7) (zcb (f_X7_isLike v0 v1 v2 σ) (fun r3 σ4 => if r3 = 0 then (some ((0 : Int32), σ4)) else (some ((1 : Int32), σ4))))) else (some ((0 : Int32), σ))
set_option maxRecDepth 100000 in
set_option maxHeartbeats 4000000 in
theorem V_X7_isFirstLike_51 {g : GG} (v0 : Nat) (v1 : Int32) (v2 : Nat) (v3 : Int32) (σ : Mm) (r : Int32) (σ' : Mm) (hf : f_X7_isFirstLike_51 v0 v1 v2 v3 σ = some (r, σ')) : VJ g RX7 cX7_isFirstLike 5 (some .boolean) false rm_X7_isFirstLike (some (.int r)) σ' (0) (0) 51 [(0, .ref (gB g + v0)), (1, .int v1), (2, .ref (gB g + v2)), (3, .int v3)] [] σ := by
  intro p e s m args below meth c H locs cells slots ls E hR hS hl hc hs
  obtain ⟨hx, hb, hml, hr, hlocks, hown, hts, hin, hT⟩ := id E
  unfold f_X7_isFirstLike_51 at hf
  refine lv_iload_n hx hb dX7_isFirstLike_51 rfl (lv_at hl 3 rfl) ?_
  refine lv_iload_n hx hb dX7_isFirstLike_52 rfl (lv_at hl 1 rfl) ?_
  refine lv_icmp_ne (tgt := 69) hx hb dX7_isFirstLike_53 (by decide) (fun hq1 => ?_) (fun hq1 => ?_)
  · have hf := ite_n hq1 hf
    refine lv_iconst (v := (0 : Int32)) hx hb dX7_isFirstLike_69 rfl ?_
    obtain ⟨hr1, hs1⟩ := Prod.mk.inj (Option.some.inj hf)
    exact xr_z E hR hS rfl rfl (by rw [hr1]) hs1.symm hc hs dX7_isFirstLike_70
  · have hf := ite_p hq1 hf
    refine lv_aload_n hx hb dX7_isFirstLike_56 rfl (lv_at hl 0 rfl) ?_
    refine lv_iload_n hx hb dX7_isFirstLike_57 rfl (lv_at hl 1 rfl) ?_
    refine lv_aload_n hx hb dX7_isFirstLike_58 rfl (lv_at hl 2 rfl) ?_
    obtain ⟨hk2, hf⟩ := zc_s hf
    obtain ⟨r3, σ4, hcr3, hf⟩ := zq_s hf
    refine xV (As := [.int v1, .ref (gB g + v2)]) (rest := []) (st1 := [.int r3]) E hR hS hl (C_X7_isLike hcr3) hk2 ok7 lb_X7_isLike lv_X7_isLike ml_X7_101 ⟨Nat.le_of_ble_eq_true rfl, Nat.le_of_ble_eq_true rfl⟩ rfl rfl rfl (Nat.le_of_ble_eq_true rfl) dX7_isFirstLike_59 ⟨hc, hs⟩ (fun H locs hR hS => ?_)
    refine lv_if_eq (tgt := 69) hx hb dX7_isFirstLike_62 (by decide) (fun hq5 => ?_) (fun hq5 => ?_)
    · have hf := ite_p hq5 hf
      refine lv_iconst (v := (0 : Int32)) hx hb dX7_isFirstLike_69 rfl ?_
      obtain ⟨hr1, hs1⟩ := Prod.mk.inj (Option.some.inj hf)
      exact xr_z E hR hS rfl rfl (by rw [hr1]) hs1.symm hc hs dX7_isFirstLike_70
    · have hf := ite_n hq5 hf
      refine lv_iconst (v := (1 : Int32)) hx hb dX7_isFirstLike_65 rfl ?_
      refine lv_goto (tgt := 70) hx hb dX7_isFirstLike_66 (by decide) ?_
      obtain ⟨hr1, hs1⟩ := Prod.mk.inj (Option.some.inj hf)
      exact xr_z E hR hS rfl rfl (by rw [hr1]) hs1.symm hc hs dX7_isFirstLike_70
set_option maxRecDepth 100000 in
def f_X7_isFirstLike_8 : Nat → Nat → Int32 → Nat → Int32 → Int32 → Mm → Option (Int32 × Mm)
  | 0, _, _, _, _, _, _ => none
  | n + 1, v0, v1, v2, v3, v4, σ =>
    if (100 : Int32) ≤ v4 then (f_X7_isFirstLike_51 v0 v1 v2 v3 σ) else (zcb (f_X8_isNumber v3 σ) (fun r7 σ8 => if r7 = 0 then (f_X7_isFirstLike_51 v0 v1 v2 v3 σ8) else (if v3 = v1 then (f_X7_isFirstLike_51 v0 v1 v2 v3 σ8) else (zck (kO σ8 v0 7) (zcb (f_X7_isLike v0 v3 v2 σ8) (fun r12 σ13 => if r12 = 0 then (zck (kO σ13 v0 7) (zcb (f_X7_childTowards v0 v3 v1 σ13) (fun r16 σ17 => f_X7_isFirstLike_8 n v0 v1 v2 r16 (v4 + (1 : Int32)) σ17))) else (some ((0 : Int32), σ13))))))))
set_option maxRecDepth 100000 in
set_option maxHeartbeats 4000000 in
theorem V_X7_isFirstLike_8 {g : GG} : ∀ (n : Nat) (v0 : Nat) (v1 : Int32) (v2 : Nat) (v3 : Int32) (v4 : Int32) (σ : Mm) (r : Int32) (σ' : Mm), f_X7_isFirstLike_8 n v0 v1 v2 v3 v4 σ = some (r, σ') → VJ g RX7 cX7_isFirstLike 5 (some .boolean) false rm_X7_isFirstLike (some (.int r)) σ' (0) (0) 8 [(0, .ref (gB g + v0)), (1, .int v1), (2, .ref (gB g + v2)), (3, .int v3), (4, .int v4)] [] σ := by
  intro n
  induction n with
  | zero =>
    intro v0 v1 v2 v3 v4 σ r σ' hf
    unfold f_X7_isFirstLike_8 at hf
    cases hf
  | succ n ih =>
    intro v0 v1 v2 v3 v4 σ r σ' hf p e s m args below meth c H locs cells slots ls E hR hS hl hc hs
    obtain ⟨hx, hb, hml, hr, hlocks, hown, hts, hin, hT⟩ := id E
    unfold f_X7_isFirstLike_8 at hf
    refine lv_iload hx hb dX7_isFirstLike_8 (lv_at hl 4 rfl) ?_
    refine lv_bipush (v := (100 : Int32)) hx hb dX7_isFirstLike_10 rfl ?_
    refine lv_icmp_ge (tgt := 51) hx hb dX7_isFirstLike_12 (by decide) (fun hq6 => ?_) (fun hq6 => ?_)
    · have hf := ite_p hq6 hf
      exact V_X7_isFirstLike_51  _ _ _ _ _ _ _ hf p e s m args below meth c _ _ _ _ _ E hR hS (lv_sub hl [0, 1, 2, 3] rfl) hc hs
    · have hf := ite_n hq6 hf
      refine lv_iload_n hx hb dX7_isFirstLike_15 rfl (lv_at hl 3 rfl) ?_
      obtain ⟨r7, σ8, hcr7, hf⟩ := zq_s hf
      refine xSN (As := [.int v3]) (rest := []) (st1 := [.int r7]) E hR hS hl (C_X8_isNumber hcr7) lb_X8_isNumber ls_X8_isNumber nl_X7_42 ⟨Nat.le_of_ble_eq_true rfl, Nat.le_of_ble_eq_true rfl⟩ rfl rfl rfl (Nat.le_of_ble_eq_true rfl) dX7_isFirstLike_16 ⟨hc, hs⟩ (fun H locs hR hS => ?_)
      refine lv_if_eq (tgt := 51) hx hb dX7_isFirstLike_19 (by decide) (fun hq9 => ?_) (fun hq9 => ?_)
      · have hf := ite_p hq9 hf
        exact V_X7_isFirstLike_51  _ _ _ _ _ _ _ hf p e s m args below meth c _ _ _ _ _ E hR hS (lv_sub hl [0, 1, 2, 3] rfl) hc hs
      · have hf := ite_n hq9 hf
        refine lv_iload_n hx hb dX7_isFirstLike_22 rfl (lv_at hl 3 rfl) ?_
        refine lv_iload_n hx hb dX7_isFirstLike_23 rfl (lv_at hl 1 rfl) ?_
        refine lv_icmp_eq (tgt := 51) hx hb dX7_isFirstLike_24 (by decide) (fun hq10 => ?_) (fun hq10 => ?_)
        · have hf := ite_p hq10 hf
          exact V_X7_isFirstLike_51  _ _ _ _ _ _ _ hf p e s m args below meth c _ _ _ _ _ E hR hS (lv_sub hl [0, 1, 2, 3] rfl) hc hs
        · have hf := ite_n hq10 hf
          refine lv_aload_n hx hb dX7_isFirstLike_27 rfl (lv_at hl 0 rfl) ?_
          refine lv_iload_n hx hb dX7_isFirstLike_28 rfl (lv_at hl 3 rfl) ?_
          refine lv_aload_n hx hb dX7_isFirstLike_29 rfl (lv_at hl 2 rfl) ?_
          obtain ⟨hk11, hf⟩ := zc_s hf
          obtain ⟨r12, σ13, hcr12, hf⟩ := zq_s hf
          refine xV (As := [.int v3, .ref (gB g + v2)]) (rest := []) (st1 := [.int r12]) E hR hS hl (C_X7_isLike hcr12) hk11 ok7 lb_X7_isLike lv_X7_isLike ml_X7_101 ⟨Nat.le_of_ble_eq_true rfl, Nat.le_of_ble_eq_true rfl⟩ rfl rfl rfl (Nat.le_of_ble_eq_true rfl) dX7_isFirstLike_30 ⟨hc, hs⟩ (fun H locs hR hS => ?_)
          refine lv_if_eq (tgt := 38) hx hb dX7_isFirstLike_33 (by decide) (fun hq14 => ?_) (fun hq14 => ?_)
          · have hf := ite_p hq14 hf
            refine lv_aload_n hx hb dX7_isFirstLike_38 rfl (lv_at hl 0 rfl) ?_
            refine lv_iload_n hx hb dX7_isFirstLike_39 rfl (lv_at hl 3 rfl) ?_
            refine lv_iload_n hx hb dX7_isFirstLike_40 rfl (lv_at hl 1 rfl) ?_
            obtain ⟨hk15, hf⟩ := zc_s hf
            obtain ⟨r16, σ17, hcr16, hf⟩ := zq_s hf
            refine xV (As := [.int v3, .int v1]) (rest := []) (st1 := [.int r16]) E hR hS hl (C_X7_childTowards hcr16) hk15 ok7 lb_X7_childTowards lv_X7_childTowards ml_X7_82 ⟨Nat.le_of_ble_eq_true rfl, Nat.le_of_ble_eq_true rfl⟩ rfl rfl rfl (Nat.le_of_ble_eq_true rfl) dX7_isFirstLike_41 ⟨hc, hs⟩ (fun H locs hR hS => ?_)
            refine lv_istore_n (lv' := [(3, .int r16), (0, .ref (gB g + v0)), (1, .int v1), (2, .ref (gB g + v2)), (4, .int v4)]) hx hb dX7_isFirstLike_44 rfl hl (Nat.le_of_ble_eq_true rfl) rfl (fun ls hl => ?_)
            refine lv_iinc (v := (v4 + (1 : Int32))) (lv' := [(4, .int (v4 + (1 : Int32))), (3, .int r16), (0, .ref (gB g + v0)), (1, .int v1), (2, .ref (gB g + v2))]) hx hb dX7_isFirstLike_45 hl (k := 4) rfl rfl (Nat.le_of_ble_eq_true rfl) rfl (fun ls hl => ?_)
            refine lv_goto (tgt := 8) hx hb dX7_isFirstLike_48 (by decide) ?_
            exact ih _ _ _ _ _ _ _ _ hf p e s m args below meth c _ _ _ _ _ E hR hS (lv_sub hl [2, 3, 4, 1, 0] rfl) hc hs
          · have hf := ite_n hq14 hf
            refine lv_iconst (v := (0 : Int32)) hx hb dX7_isFirstLike_36 rfl ?_
            obtain ⟨hr1, hs1⟩ := Prod.mk.inj (Option.some.inj hf)
            exact xr_z E hR hS rfl rfl (by rw [hr1]) hs1.symm hc hs dX7_isFirstLike_37
set_option maxRecDepth 100000 in
def f_X7_isFirstLike (v0 : Nat) (v1 : Int32) (v2 : Nat) (σ : Mm) : Option (Int32 × Mm) :=
  zck (kO σ v0 7) (f_X7_isFirstLike_8 1000 v0 v1 v2 (mD σ v0 6) (0 : Int32) σ)
set_option maxRecDepth 100000 in
set_option maxHeartbeats 4000000 in
theorem V_X7_isFirstLike_0 {g : GG} (v0 : Nat) (v1 : Int32) (v2 : Nat) (σ : Mm) (r : Int32) (σ' : Mm) (hf : f_X7_isFirstLike v0 v1 v2 σ = some (r, σ')) : VJ g RX7 cX7_isFirstLike 5 (some .boolean) false rm_X7_isFirstLike (some (.int r)) σ' (0) (0) 0 [(0, .ref (gB g + v0)), (1, .int v1), (2, .ref (gB g + v2))] [] σ := by
  intro p e s m args below meth c H locs cells slots ls E hR hS hl hc hs
  obtain ⟨hx, hb, hml, hr, hlocks, hown, hts, hin, hT⟩ := id E
  unfold f_X7_isFirstLike at hf
  refine lv_aload_n hx hb dX7_isFirstLike_0 rfl (lv_at hl 0 rfl) ?_
  obtain ⟨hk18, hf⟩ := zc_s hf
  refine x_getI E hR hk18 ok7 6 (Nat.le_of_ble_eq_true rfl) rfl fl_X7_27 dX7_isFirstLike_1 ?_
  refine lv_istore_n (lv' := [(3, .int (mD σ v0 6)), (0, .ref (gB g + v0)), (1, .int v1), (2, .ref (gB g + v2))]) hx hb dX7_isFirstLike_4 rfl hl (Nat.le_of_ble_eq_true rfl) rfl (fun ls hl => ?_)
  refine lv_iconst (v := (0 : Int32)) hx hb dX7_isFirstLike_5 rfl ?_
  refine lv_istore (lv' := [(4, .int (0 : Int32)), (3, .int (mD σ v0 6)), (0, .ref (gB g + v0)), (1, .int v1), (2, .ref (gB g + v2))]) hx hb dX7_isFirstLike_6 hl (Nat.le_of_ble_eq_true rfl) rfl (fun ls hl => ?_)
  exact V_X7_isFirstLike_8  1000 _ _ _ _ _ _ _ _ hf p e s m args below meth c _ _ _ _ _ E hR hS (lv_sub hl [2, 3, 4, 1, 0] rfl) hc hs
theorem C_X7_isFirstLike {g : GG} {v0 : Nat} {v1 : Int32} {v2 : Nat} {σ : Mm} {r : Int32} {σ' : Mm} (hf : f_X7_isFirstLike v0 v1 v2 σ = some (r, σ')) : Ct g yX7_isFirstLike cX7_isFirstLike 5 (some .boolean) rm_X7_isFirstLike [.ref (gB g + v0), .int v1, .ref (gB g + v2)] σ (some (.int r)) σ' :=
  Ct.of false (by decide +kernel) (fun h => by cases h) (Nat.le_of_ble_eq_true rfl) (V_X7_isFirstLike_0 _ _ _ _ _ _ hf)
