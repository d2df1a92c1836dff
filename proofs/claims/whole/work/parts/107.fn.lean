abbrev rm_X9_get : Room := { frames := 2, cells := 0, slots := 0, locals := 45 }
set_option maxRecDepth 100000 in
def f_X9_get (v0 : Nat) (v1 : Int32) (σ : Mm) : Option (Int32 × Mm) :=
  zcb (f_X9_isNumber v1 σ) (fun r1 σ2 => if r1 = 0 then (some ((-2 : Int32), σ2)) else (zck (kO σ2 v0 9) (zrb (mR σ2 v0 0) (fun b5 => zck (kA σ2 1 b5 v1) (some ((mD σ2 b5 (ix v1)), σ2))))))
set_option maxRecDepth 100000 in
set_option maxHeartbeats 4000000 in
theorem V_X9_get_0 {g : GG} (v0 : Nat) (v1 : Int32) (σ : Mm) (r : Int32) (σ' : Mm) (hf : f_X9_get v0 v1 σ = some (r, σ')) : VJ g RX9 cX9_get 2 (some .int) false rm_X9_get (some (.int r)) σ' (0) (0) 0 [(0, .ref (gB g + v0)), (1, .int v1)] [] σ := by
  intro p e s m args below meth c H locs cells slots ls E hR hS hl hc hs
  obtain ⟨hx, hb, hml, hr, hlocks, hown, hts, hin, hT⟩ := id E
  unfold f_X9_get at hf
  refine lv_iload_n hx hb dX9_get_0 rfl (lv_at hl 1 rfl) ?_
  obtain ⟨r1, σ2, hcr1, hf⟩ := zq_s hf
  refine xS (As := [.int v1]) (rest := []) (st1 := [.int r1]) E hR hS hl (C_X9_isNumber hcr1) lb_X9_isNumber ls_X9_isNumber ml_X9_125 ⟨Nat.le_of_ble_eq_true rfl, Nat.le_of_ble_eq_true rfl⟩ rfl rfl rfl (Nat.le_of_ble_eq_true rfl) dX9_get_1 ⟨hc, hs⟩ (fun H locs hR hS => ?_)
  refine lv_if_eq (tgt := 16) hx hb dX9_get_4 (by decide) (fun hq3 => ?_) (fun hq3 => ?_)
  · have hf := ite_p hq3 hf
    refine lv_bipush (v := (-2 : Int32)) hx hb dX9_get_16 rfl ?_
    obtain ⟨hr1, hs1⟩ := Prod.mk.inj (Option.some.inj hf)
    exact xr_i E hR hS rfl (by rw [hr1]) hs1.symm hc hs dX9_get_18
  · have hf := ite_n hq3 hf
    refine lv_aload_n hx hb dX9_get_7 rfl (lv_at hl 0 rfl) ?_
    obtain ⟨hk4, hf⟩ := zc_s hf
    obtain ⟨b5, hb5, hf⟩ := zr_s hf
    refine x_getR E hR hk4 hb5 ok9 (Nat.le_of_ble_eq_true rfl) rfl fl_X9_7 dX9_get_8 ?_
    refine lv_iload_n hx hb dX9_get_11 rfl (lv_at hl 1 rfl) ?_
    obtain ⟨hk6, hf⟩ := zc_s hf
    refine x_ild E hR hk6 dX9_get_12 ?_
    refine lv_goto (tgt := 18) hx hb dX9_get_13 (by decide) ?_
    obtain ⟨hr1, hs1⟩ := Prod.mk.inj (Option.some.inj hf)
    exact xr_i E hR hS rfl (by rw [hr1]) hs1.symm hc hs dX9_get_18
theorem C_X9_get {g : GG} {v0 : Nat} {v1 : Int32} {σ : Mm} {r : Int32} {σ' : Mm} (hf : f_X9_get v0 v1 σ = some (r, σ')) : Ct g yX9_get cX9_get 2 (some .int) rm_X9_get [.ref (gB g + v0), .int v1] σ (some (.int r)) σ' :=
  Ct.of false (by decide +kernel) (fun h => by cases h) (Nat.le_of_ble_eq_true rfl) (V_X9_get_0 _ _ _ _ _ hf)
abbrev rm_X9_scatter : Room := { frames := 2, cells := 0, slots := 0, locals := 43 }
set_option maxRecDepth 100000 in
def f_X9_scatter_85 (k_25 : Nat → Int32 → Int64 → Int32 → Mm → Option (Int32 × Mm)) (v0 : Nat) (v1 : Int32) (v4 : Int64) (v6 : Int32) (σ : Mm) : Option (Int32 × Mm) :=
  k_25 v0 v1 v4 (v6 + (1 : Int32)) σ
set_option maxRecDepth 100000 in
set_option maxHeartbeats 4000000 in
theorem V_X9_scatter_85 {g : GG} (k_25 : Nat → Int32 → Int64 → Int32 → Mm → Option (Int32 × Mm)) (hk_25 : ∀ (v0 : Nat) (v1 : Int32) (v4 : Int64) (v6 : Int32) (σ : Mm) (r : Int32) (σ' : Mm), k_25 v0 v1 v4 v6 σ = some (r, σ') → VJ g RX9 cX9_scatter 8 (some .int) false rm_X9_scatter (some (.int r)) σ' (0) (0) 25 [(0, .ref (gB g + v0)), (1, .int v1), (4, .long v4), (6, .int v6)] [] σ) (v0 : Nat) (v1 : Int32) (v4 : Int64) (v6 : Int32) (σ : Mm) (r : Int32) (σ' : Mm) (hf : f_X9_scatter_85 k_25 v0 v1 v4 v6 σ = some (r, σ')) : VJ g RX9 cX9_scatter 8 (some .int) false rm_X9_scatter (some (.int r)) σ' (0) (0) 85 [(0, .ref (gB g + v0)), (1, .int v1), (4, .long v4), (6, .int v6)] [] σ := by
  intro p e s m args below meth c H locs cells slots ls E hR hS hl hc hs
  obtain ⟨hx, hb, hml, hr, hlocks, hown, hts, hin, hT⟩ := id E
  unfold f_X9_scatter_85 at hf
  refine lv_iinc (v := (v6 + (1 : Int32))) (lv' := [(6, .int (v6 + (1 : Int32))), (0, .ref (gB g + v0)), (1, .int v1), (4, .long v4)]) hx hb dX9_scatter_85 hl (k := 3) rfl rfl (Nat.le_of_ble_eq_true rfl) rfl (fun ls hl => ?_)
  refine lv_goto (tgt := 25) hx hb dX9_scatter_88 (by decide) ?_
  exact hk_25 _ _ _ _ _ _ _ hf p e s m args below meth c _ _ _ _ _ E hR hS (lv_sub hl [1, 2, 3, 0] rfl) hc hs
set_option maxRecDepth 100000 in
def f_X9_scatter_25 : Nat → Nat → Int32 → Int64 → Int32 → Mm → Option (Int32 × Mm)
  | 0, _, _, _, _, _ => none
  | n + 1, v0, v1, v4, v6, σ =>
    if v1 ≤ v6 then (zck (kO σ v0 9) (zrb (mR σ v0 0) (fun b3 => zcb (f_X9_manyOf b3 σ) (fun r4 σ5 => some (r4, σ5))))) else (zck (kO σ v0 9) (zrb (mR σ v0 0) (fun b7 => zcb (f_X9_mayPut b7 (((((((v4 * (6364136223846793005 : Int64)) + (1442695040888963407 : Int64)).toUInt64 >>> ((33 : Int32).toInt64.toUInt64 &&& Int64.toUInt64 63)).toInt64)).toInt32) - ((((((v4 * (6364136223846793005 : Int64)) + (1442695040888963407 : Int64)).toUInt64 >>> ((33 : Int32).toInt64.toUInt64 &&& Int64.toUInt64 63)).toInt64)).toInt32) / (100 : Int32) * (100 : Int32)) σ) (fun r8 σ9 => if r8 = 0 then (f_X9_scatter_85 (f_X9_scatter_25 n) v0 v1 ((v4 * (6364136223846793005 : Int64)) + (1442695040888963407 : Int64)) v6 σ9) else (zck (kO σ9 v0 9) (zrb (mR σ9 v0 0) (fun b12 => zck (kA σ9 1 b12 (((((((v4 * (6364136223846793005 : Int64)) + (1442695040888963407 : Int64)).toUInt64 >>> ((33 : Int32).toInt64.toUInt64 &&& Int64.toUInt64 63)).toInt64)).toInt32) - ((((((v4 * (6364136223846793005 : Int64)) + (1442695040888963407 : Int64)).toUInt64 >>> ((33 : Int32).toInt64.toUInt64 &&& Int64.toUInt64 63)).toInt64)).toInt32) / (100 : Int32) * (100 : Int32))) (zlt (sD σ9 b12 (ix (((((((v4 * (6364136223846793005 : Int64)) + (1442695040888963407 : Int64)).toUInt64 >>> ((33 : Int32).toInt64.toUInt64 &&& Int64.toUInt64 63)).toInt64)).toInt32) - ((((((v4 * (6364136223846793005 : Int64)) + (1442695040888963407 : Int64)).toUInt64 >>> ((33 : Int32).toInt64.toUInt64 &&& Int64.toUInt64 63)).toInt64)).toInt32) / (100 : Int32) * (100 : Int32))) ((((((((v4 * (6364136223846793005 : Int64)) + (1442695040888963407 : Int64)).toUInt64 >>> ((33 : Int32).toInt64.toUInt64 &&& Int64.toUInt64 63)).toInt64)).toInt32) / (128 : Int32)) - (((((((v4 * (6364136223846793005 : Int64)) + (1442695040888963407 : Int64)).toUInt64 >>> ((33 : Int32).toInt64.toUInt64 &&& Int64.toUInt64 63)).toInt64)).toInt32) / (128 : Int32)) / (100 : Int32) * (100 : Int32))) (fun σ14 => f_X9_scatter_85 (f_X9_scatter_25 n) v0 v1 ((v4 * (6364136223846793005 : Int64)) + (1442695040888963407 : Int64)) v6 σ14)))))))))
set_option maxRecDepth 100000 in
set_option maxHeartbeats 4000000 in
theorem V_X9_scatter_25 {g : GG} : ∀ (n : Nat) (v0 : Nat) (v1 : Int32) (v4 : Int64) (v6 : Int32) (σ : Mm) (r : Int32) (σ' : Mm), f_X9_scatter_25 n v0 v1 v4 v6 σ = some (r, σ') → VJ g RX9 cX9_scatter 8 (some .int) false rm_X9_scatter (some (.int r)) σ' (0) (0) 25 [(0, .ref (gB g + v0)), (1, .int v1), (4, .long v4), (6, .int v6)] [] σ := by
  intro n
  induction n with
  | zero =>
    intro v0 v1 v4 v6 σ r σ' hf
    unfold f_X9_scatter_25 at hf
    cases hf
  | succ n ih =>
    intro v0 v1 v4 v6 σ r σ' hf p e s m args below meth c H locs cells slots ls E hR hS hl hc hs
    obtain ⟨hx, hb, hml, hr, hlocks, hown, hts, hin, hT⟩ := id E
    unfold f_X9_scatter_25 at hf
    refine lv_iload hx hb dX9_scatter_25 (lv_at hl 3 rfl) ?_
    refine lv_iload_n hx hb dX9_scatter_27 rfl (lv_at hl 1 rfl) ?_
    refine lv_icmp_ge (tgt := 91) hx hb dX9_scatter_28 (by decide) (fun hq1 => ?_) (fun hq1 => ?_)
    · have hf := ite_p hq1 hf
      refine lv_aload_n hx hb dX9_scatter_91 rfl (lv_at hl 0 rfl) ?_
      obtain ⟨hk2, hf⟩ := zc_s hf
      obtain ⟨b3, hb3, hf⟩ := zr_s hf
      refine x_getR E hR hk2 hb3 ok9 (Nat.le_of_ble_eq_true rfl) rfl fl_X9_7 dX9_scatter_92 ?_
      obtain ⟨r4, σ5, hcr4, hf⟩ := zq_s hf
      refine xS (As := [.ref (gB g + b3)]) (rest := []) (st1 := [.int r4]) E hR hS hl (C_X9_manyOf hcr4) lb_X9_manyOf ls_X9_manyOf ml_X9_175 ⟨Nat.le_of_ble_eq_true rfl, Nat.le_of_ble_eq_true rfl⟩ rfl rfl rfl (Nat.le_of_ble_eq_true rfl) dX9_scatter_95 ⟨hc, hs⟩ (fun H locs hR hS => ?_)
      obtain ⟨hr1, hs1⟩ := Prod.mk.inj (Option.some.inj hf)
      exact xr_i E hR hS rfl (by rw [hr1]) hs1.symm hc hs dX9_scatter_98
    · have hf := ite_n hq1 hf
      refine lv_lload hx hb dX9_scatter_31 (lv_at hl 2 rfl) ?_
      refine lv_ldc2 (v := (6364136223846793005 : Int64)) hx hb hown (hts _ kl_X9_188) dX9_scatter_33 ?_
      refine lv_lmul hx hb dX9_scatter_36 ?_
      refine lv_ldc2 (v := (1442695040888963407 : Int64)) hx hb hown (hts _ kl_X9_190) dX9_scatter_37 ?_
      refine lv_ladd hx hb dX9_scatter_40 ?_
      refine lv_lstore (lv' := [(4, .long ((v4 * (6364136223846793005 : Int64)) + (1442695040888963407 : Int64))), (0, .ref (gB g + v0)), (1, .int v1), (6, .int v6)]) hx hb dX9_scatter_41 hl (Nat.le_of_ble_eq_true rfl) rfl (fun ls hl => ?_)
      refine lv_lload hx hb dX9_scatter_43 (lv_at hl 0 rfl) ?_
      refine lv_bipush (v := (33 : Int32)) hx hb dX9_scatter_45 rfl ?_
      refine lv_lushr (v := (((v4 * (6364136223846793005 : Int64)) + (1442695040888963407 : Int64)).toUInt64 >>> ((33 : Int32).toInt64.toUInt64 &&& Int64.toUInt64 63)).toInt64) hx hb dX9_scatter_47 rfl ?_
      refine lv_l2i (v := (((((v4 * (6364136223846793005 : Int64)) + (1442695040888963407 : Int64)).toUInt64 >>> ((33 : Int32).toInt64.toUInt64 &&& Int64.toUInt64 63)).toInt64)).toInt32) hx hb dX9_scatter_48 rfl ?_
      refine lv_istore (lv' := [(7, .int ((((((v4 * (6364136223846793005 : Int64)) + (1442695040888963407 : Int64)).toUInt64 >>> ((33 : Int32).toInt64.toUInt64 &&& Int64.toUInt64 63)).toInt64)).toInt32)), (4, .long ((v4 * (6364136223846793005 : Int64)) + (1442695040888963407 : Int64))), (0, .ref (gB g + v0)), (1, .int v1), (6, .int v6)]) hx hb dX9_scatter_49 hl (Nat.le_of_ble_eq_true rfl) rfl (fun ls hl => ?_)
      refine lv_aload_n hx hb dX9_scatter_51 rfl (lv_at hl 2 rfl) ?_
      obtain ⟨hk6, hf⟩ := zc_s hf
      obtain ⟨b7, hb7, hf⟩ := zr_s hf
      refine x_getR E hR hk6 hb7 ok9 (Nat.le_of_ble_eq_true rfl) rfl fl_X9_7 dX9_scatter_52 ?_
      refine lv_iload hx hb dX9_scatter_55 (lv_at hl 0 rfl) ?_
      refine lv_bipush (v := (100 : Int32)) hx hb dX9_scatter_57 rfl ?_
      refine lv_irem hx hb dX9_scatter_59 (by decide) ?_
      obtain ⟨r8, σ9, hcr8, hf⟩ := zq_s hf
      refine xS (As := [.ref (gB g + b7), .int (((((((v4 * (6364136223846793005 : Int64)) + (1442695040888963407 : Int64)).toUInt64 >>> ((33 : Int32).toInt64.toUInt64 &&& Int64.toUInt64 63)).toInt64)).toInt32) - ((((((v4 * (6364136223846793005 : Int64)) + (1442695040888963407 : Int64)).toUInt64 >>> ((33 : Int32).toInt64.toUInt64 &&& Int64.toUInt64 63)).toInt64)).toInt32) / (100 : Int32) * (100 : Int32))]) (rest := []) (st1 := [.int r8]) E hR hS hl (C_X9_mayPut hcr8) lb_X9_mayPut ls_X9_mayPut ml_X9_179 ⟨Nat.le_of_ble_eq_true rfl, Nat.le_of_ble_eq_true rfl⟩ rfl rfl rfl (Nat.le_of_ble_eq_true rfl) dX9_scatter_60 ⟨hc, hs⟩ (fun H locs hR hS => ?_)
      refine lv_if_eq (tgt := 85) hx hb dX9_scatter_63 (by decide) (fun hq10 => ?_) (fun hq10 => ?_)
      · have hf := ite_p hq10 hf
        exact V_X9_scatter_85 _ ih _ _ _ _ _ _ _ hf p e s m args below meth c _ _ _ _ _ E hR hS (lv_sub hl [2, 3, 1, 4] rfl) hc hs
      · have hf := ite_n hq10 hf
        refine lv_aload_n hx hb dX9_scatter_66 rfl (lv_at hl 2 rfl) ?_
        obtain ⟨hk11, hf⟩ := zc_s hf
        obtain ⟨b12, hb12, hf⟩ := zr_s hf
        refine x_getR E hR hk11 hb12 ok9 (Nat.le_of_ble_eq_true rfl) rfl fl_X9_7 dX9_scatter_67 ?_
        refine lv_iload hx hb dX9_scatter_70 (lv_at hl 0 rfl) ?_
        refine lv_bipush (v := (100 : Int32)) hx hb dX9_scatter_72 rfl ?_
        refine lv_irem hx hb dX9_scatter_74 (by decide) ?_
        refine lv_iload hx hb dX9_scatter_75 (lv_at hl 0 rfl) ?_
        refine lv_sipush (v := (128 : Int32)) hx hb dX9_scatter_77 rfl ?_
        refine lv_idiv hx hb dX9_scatter_80 (by decide) ?_
        refine lv_bipush (v := (100 : Int32)) hx hb dX9_scatter_81 rfl ?_
        refine lv_irem hx hb dX9_scatter_83 (by decide) ?_
        obtain ⟨hk13, hf⟩ := zc_s hf
        obtain ⟨σ14, eσ14, hf⟩ := zl_s hf
        refine x_ist E hR hS hk13 dX9_scatter_84 (fun H locs hR hS => ?_)
        rw [← eσ14] at hR
        exact V_X9_scatter_85 _ ih _ _ _ _ _ _ _ hf p e s m args below meth c _ _ _ _ _ E hR hS (lv_sub hl [2, 3, 1, 4] rfl) hc hs
set_option maxRecDepth 100000 in
def f_X9_scatter (v0 : Nat) (v1 : Int32) (v2 : Int64) (σ : Mm) : Option (Int32 × Mm) :=
  zcb (f_X9_in ((v1).toInt64) (1 : Int64) (20 : Int64) σ) (fun r15 σ16 => if r15 = 0 then (some ((-2 : Int32), σ16)) else (zck (kO σ16 v0 9) (zcb (f_X9_note v0 σ16) (fun r19 σ20 => f_X9_scatter_25 1000 v0 v1 v2 (0 : Int32) σ20))))
set_option maxRecDepth 100000 in
set_option maxHeartbeats 4000000 in
theorem V_X9_scatter_0 {g : GG} (v0 : Nat) (v1 : Int32) (v2 : Int64) (σ : Mm) (r : Int32) (σ' : Mm) (hf : f_X9_scatter v0 v1 v2 σ = some (r, σ')) : VJ g RX9 cX9_scatter 8 (some .int) false rm_X9_scatter (some (.int r)) σ' (0) (0) 0 [(0, .ref (gB g + v0)), (1, .int v1), (2, .long v2)] [] σ := by
  intro p e s m args below meth c H locs cells slots ls E hR hS hl hc hs
  obtain ⟨hx, hb, hml, hr, hlocks, hown, hts, hin, hT⟩ := id E
  unfold f_X9_scatter at hf
  refine lv_iload_n hx hb dX9_scatter_0 rfl (lv_at hl 1 rfl) ?_
  refine lv_i2l (v := (v1).toInt64) hx hb dX9_scatter_1 rfl ?_
  refine lv_lconst (v := (1 : Int64)) hx hb dX9_scatter_2 rfl ?_
  refine lv_ldc2 (v := (20 : Int64)) hx hb hown (hts _ kl_X9_186) dX9_scatter_3 ?_
  obtain ⟨r15, σ16, hcr15, hf⟩ := zq_s hf
  refine xS (As := [.long ((v1).toInt64), .long (1 : Int64), .long (20 : Int64)]) (rest := []) (st1 := [.int r15]) E hR hS hl (C_X9_in hcr15) lb_X9_in ls_X9_in ml_X9_121 ⟨Nat.le_of_ble_eq_true rfl, Nat.le_of_ble_eq_true rfl⟩ rfl rfl rfl (Nat.le_of_ble_eq_true rfl) dX9_scatter_6 ⟨hc, hs⟩ (fun H locs hR hS => ?_)
  refine lv_if_ne (tgt := 15) hx hb dX9_scatter_9 (by decide) (fun hq17 => ?_) (fun hq17 => ?_)
  · have hf := ite_n hq17 hf
    refine lv_aload_n hx hb dX9_scatter_15 rfl (lv_at hl 0 rfl) ?_
    obtain ⟨hk18, hf⟩ := zc_s hf
    obtain ⟨r19, σ20, hcr19, hf⟩ := zq_s hf
    refine xV (As := []) (rest := []) (st1 := []) E hR hS hl (C_X9_note hcr19) hk18 ok9 lb_X9_note lv_X9_note ml_X9_183 ⟨Nat.le_of_ble_eq_true rfl, Nat.le_of_ble_eq_true rfl⟩ rfl rfl rfl (Nat.le_of_ble_eq_true rfl) dX9_scatter_16 ⟨hc, hs⟩ (fun H locs hR hS => ?_)
    refine lv_lload_n hx hb dX9_scatter_19 rfl (lv_at hl 2 rfl) ?_
    refine lv_lstore (lv' := [(4, .long v2), (0, .ref (gB g + v0)), (1, .int v1), (2, .long v2)]) hx hb dX9_scatter_20 hl (Nat.le_of_ble_eq_true rfl) rfl (fun ls hl => ?_)
    refine lv_iconst (v := (0 : Int32)) hx hb dX9_scatter_22 rfl ?_
    refine lv_istore (lv' := [(6, .int (0 : Int32)), (4, .long v2), (0, .ref (gB g + v0)), (1, .int v1), (2, .long v2)]) hx hb dX9_scatter_23 hl (Nat.le_of_ble_eq_true rfl) rfl (fun ls hl => ?_)
    exact V_X9_scatter_25  1000 _ _ _ _ _ _ _ hf p e s m args below meth c _ _ _ _ _ E hR hS (lv_sub hl [2, 3, 1, 0] rfl) hc hs
  · have hf := ite_p hq17 hf
    refine lv_bipush (v := (-2 : Int32)) hx hb dX9_scatter_12 rfl ?_
    obtain ⟨hr1, hs1⟩ := Prod.mk.inj (Option.some.inj hf)
    exact xr_i E hR hS rfl (by rw [hr1]) hs1.symm hc hs dX9_scatter_14
theorem C_X9_scatter {g : GG} {v0 : Nat} {v1 : Int32} {v2 : Int64} {σ : Mm} {r : Int32} {σ' : Mm} (hf : f_X9_scatter v0 v1 v2 σ = some (r, σ')) : Ct g yX9_scatter cX9_scatter 8 (some .int) rm_X9_scatter [.ref (gB g + v0), .int v1, .long v2] σ (some (.int r)) σ' :=
  Ct.of false (by decide +kernel) (fun h => by cases h) (Nat.le_of_ble_eq_true rfl) (V_X9_scatter_0 _ _ _ _ _ _ hf)
abbrev rm_X9_undo : Room := { frames := 0, cells := 0, slots := 0, locals := 0 }
set_option maxRecDepth 100000 in
def f_X9_undo_38 : Nat → Nat → Int32 → Mm → Option (Int32 × Mm)
  | 0, _, _, _ => none
  | n + 1, v0, v1, σ =>
    if (100 : Int32) ≤ v1 then (zck (kO σ v0 9) (some ((mD σ v0 3), σ))) else (zck (kO σ v0 9) (zrb (mR σ v0 0) (fun b4 => zrb (mR σ v0 2) (fun b5 => zck (kA σ 1 b5 (((100 : Int32) * (mD σ v0 4)) + v1)) (zck (kA σ 1 b4 v1) (zlt (sD σ b4 (ix v1) (mD σ b5 (ix (((100 : Int32) * (mD σ v0 4)) + v1)))) (fun σ8 => f_X9_undo_38 n v0 (v1 + (1 : Int32)) σ8)))))))
set_option maxRecDepth 100000 in
set_option maxHeartbeats 4000000 in
theorem V_X9_undo_38 {g : GG} : ∀ (n : Nat) (v0 : Nat) (v1 : Int32) (σ : Mm) (r : Int32) (σ' : Mm), f_X9_undo_38 n v0 v1 σ = some (r, σ') → VJ g RX9 cX9_undo 2 (some .int) false rm_X9_undo (some (.int r)) σ' (0) (0) 38 [(0, .ref (gB g + v0)), (1, .int v1)] [] σ := by
  intro n
  induction n with
  | zero =>
    intro v0 v1 σ r σ' hf
    unfold f_X9_undo_38 at hf
    cases hf
  | succ n ih =>
    intro v0 v1 σ r σ' hf p e s m args below meth c H locs cells slots ls E hR hS hl hc hs
    obtain ⟨hx, hb, hml, hr, hlocks, hown, hts, hin, hT⟩ := id E
    unfold f_X9_undo_38 at hf
    refine lv_iload_n hx hb dX9_undo_38 rfl (lv_at hl 1 rfl) ?_
    refine lv_bipush (v := (100 : Int32)) hx hb dX9_undo_39 rfl ?_
    refine lv_icmp_ge (tgt := 70) hx hb dX9_undo_41 (by decide) (fun hq1 => ?_) (fun hq1 => ?_)
    · have hf := ite_p hq1 hf
      refine lv_aload_n hx hb dX9_undo_70 rfl (lv_at hl 0 rfl) ?_
      obtain ⟨hk2, hf⟩ := zc_s hf
      refine x_getI E hR hk2 ok9 3 (Nat.le_of_ble_eq_true rfl) rfl fl_X9_172 dX9_undo_71 ?_
      obtain ⟨hr1, hs1⟩ := Prod.mk.inj (Option.some.inj hf)
      exact xr_i E hR hS rfl (by rw [hr1]) hs1.symm hc hs dX9_undo_74
    · have hf := ite_n hq1 hf
      refine lv_aload_n hx hb dX9_undo_44 rfl (lv_at hl 0 rfl) ?_
      obtain ⟨hk3, hf⟩ := zc_s hf
      obtain ⟨b4, hb4, hf⟩ := zr_s hf
      refine x_getR E hR hk3 hb4 ok9 (Nat.le_of_ble_eq_true rfl) rfl fl_X9_7 dX9_undo_45 ?_
      refine lv_iload_n hx hb dX9_undo_48 rfl (lv_at hl 1 rfl) ?_
      refine lv_aload_n hx hb dX9_undo_49 rfl (lv_at hl 0 rfl) ?_
      obtain ⟨b5, hb5, hf⟩ := zr_s hf
      refine x_getR E hR hk3 hb5 ok9 (Nat.le_of_ble_eq_true rfl) rfl fl_X9_16 dX9_undo_50 ?_
      refine lv_bipush (v := (100 : Int32)) hx hb dX9_undo_53 rfl ?_
      refine lv_aload_n hx hb dX9_undo_55 rfl (lv_at hl 0 rfl) ?_
      refine x_getI E hR hk3 ok9 4 (Nat.le_of_ble_eq_true rfl) rfl fl_X9_169 dX9_undo_56 ?_
      refine lv_imul hx hb dX9_undo_59 ?_
      refine lv_iload_n hx hb dX9_undo_60 rfl (lv_at hl 1 rfl) ?_
      refine lv_iadd hx hb dX9_undo_61 ?_
      obtain ⟨hk6, hf⟩ := zc_s hf
      refine x_ild E hR hk6 dX9_undo_62 ?_
      obtain ⟨hk7, hf⟩ := zc_s hf
      obtain ⟨σ8, eσ8, hf⟩ := zl_s hf
      refine x_ist E hR hS hk7 dX9_undo_63 (fun H locs hR hS => ?_)
      rw [← eσ8] at hR
      refine lv_iinc (v := (v1 + (1 : Int32))) (lv' := [(1, .int (v1 + (1 : Int32))), (0, .ref (gB g + v0))]) hx hb dX9_undo_64 hl (k := 1) rfl rfl (Nat.le_of_ble_eq_true rfl) rfl (fun ls hl => ?_)
      refine lv_goto (tgt := 38) hx hb dX9_undo_67 (by decide) ?_
      exact ih _ _ _ _ _ hf p e s m args below meth c _ _ _ _ _ E hR hS (lv_sub hl [1, 0] rfl) hc hs
set_option maxRecDepth 100000 in
def f_X9_undo (v0 : Nat) (σ : Mm) : Option (Int32 × Mm) :=
  zck (kO σ v0 9) (if (mD σ v0 3) = 0 then (some ((-3 : Int32), σ)) else (zlt (sD σ v0 3 ((mD σ v0 3) - (1 : Int32))) (fun σ11 => zlt (sD σ11 v0 4 ((((mD σ11 v0 4) + (14 : Int32)) - (1 : Int32)) - (((mD σ11 v0 4) + (14 : Int32)) - (1 : Int32)) / (14 : Int32) * (14 : Int32))) (fun σ12 => f_X9_undo_38 1000 v0 (0 : Int32) σ12))))
set_option maxRecDepth 100000 in
set_option maxHeartbeats 4000000 in
theorem V_X9_undo_0 {g : GG} (v0 : Nat) (σ : Mm) (r : Int32) (σ' : Mm) (hf : f_X9_undo v0 σ = some (r, σ')) : VJ g RX9 cX9_undo 2 (some .int) false rm_X9_undo (some (.int r)) σ' (0) (0) 0 [(0, .ref (gB g + v0))] [] σ := by
  intro p e s m args below meth c H locs cells slots ls E hR hS hl hc hs
  obtain ⟨hx, hb, hml, hr, hlocks, hown, hts, hin, hT⟩ := id E
  unfold f_X9_undo at hf
  refine lv_aload_n hx hb dX9_undo_0 rfl (lv_at hl 0 rfl) ?_
  obtain ⟨hk9, hf⟩ := zc_s hf
  refine x_getI E hR hk9 ok9 3 (Nat.le_of_ble_eq_true rfl) rfl fl_X9_172 dX9_undo_1 ?_
  refine lv_if_ne (tgt := 10) hx hb dX9_undo_4 (by decide) (fun hq10 => ?_) (fun hq10 => ?_)
  · have hf := ite_n hq10 hf
    refine lv_aload_n hx hb dX9_undo_10 rfl (lv_at hl 0 rfl) ?_
    refine lv_dup hx hb dX9_undo_11 rfl ?_
    refine x_getI E hR hk9 ok9 3 (Nat.le_of_ble_eq_true rfl) rfl fl_X9_172 dX9_undo_12 ?_
    refine lv_iconst (v := (1 : Int32)) hx hb dX9_undo_15 rfl ?_
    refine lv_isub hx hb dX9_undo_16 ?_
    obtain ⟨σ11, eσ11, hf⟩ := zl_s hf
    refine x_putI E hR hS hk9 ok9 3 (Nat.le_of_ble_eq_true rfl) rfl fl_X9_172 (Or.inl rfl) rfl rfl dX9_undo_17 (fun H locs hR hS => ?_)
    rw [← eσ11] at hR
    refine lv_aload_n hx hb dX9_undo_20 rfl (lv_at hl 0 rfl) ?_
    refine lv_aload_n hx hb dX9_undo_21 rfl (lv_at hl 0 rfl) ?_
    refine x_getI E hR (by rw [eσ11]; exact hk9) ok9 4 (Nat.le_of_ble_eq_true rfl) rfl fl_X9_169 dX9_undo_22 ?_
    refine lv_bipush (v := (14 : Int32)) hx hb dX9_undo_25 rfl ?_
    refine lv_iadd hx hb dX9_undo_27 ?_
    refine lv_iconst (v := (1 : Int32)) hx hb dX9_undo_28 rfl ?_
    refine lv_isub hx hb dX9_undo_29 ?_
    refine lv_bipush (v := (14 : Int32)) hx hb dX9_undo_30 rfl ?_
    refine lv_irem hx hb dX9_undo_32 (by decide) ?_
    obtain ⟨σ12, eσ12, hf⟩ := zl_s hf
    refine x_putI E hR hS (by rw [eσ11]; exact hk9) ok9 4 (Nat.le_of_ble_eq_true rfl) rfl fl_X9_169 (Or.inl rfl) rfl rfl dX9_undo_33 (fun H locs hR hS => ?_)
    rw [← eσ12] at hR
    refine lv_iconst (v := (0 : Int32)) hx hb dX9_undo_36 rfl ?_
    refine lv_istore_n (lv' := [(1, .int (0 : Int32)), (0, .ref (gB g + v0))]) hx hb dX9_undo_37 rfl hl (Nat.le_of_ble_eq_true rfl) rfl (fun ls hl => ?_)
    exact V_X9_undo_38  1000 _ _ _ _ _ hf p e s m args below meth c _ _ _ _ _ E hR hS (lv_sub hl [1, 0] rfl) hc hs
  · have hf := ite_p hq10 hf
    refine lv_bipush (v := (-3 : Int32)) hx hb dX9_undo_7 rfl ?_
    obtain ⟨hr1, hs1⟩ := Prod.mk.inj (Option.some.inj hf)
    exact xr_i E hR hS rfl (by rw [hr1]) hs1.symm hc hs dX9_undo_9
theorem C_X9_undo {g : GG} {v0 : Nat} {σ : Mm} {r : Int32} {σ' : Mm} (hf : f_X9_undo v0 σ = some (r, σ')) : Ct g yX9_undo cX9_undo 2 (some .int) rm_X9_undo [.ref (gB g + v0)] σ (some (.int r)) σ' :=
  Ct.of false (by decide +kernel) (fun h => by cases h) (Nat.le_of_ble_eq_true rfl) (V_X9_undo_0 _ _ _ _ hf)
abbrev rm_X9_height : Room := { frames := 4, cells := 0, slots := 0, locals := 96 }
set_option maxRecDepth 100000 in
def f_X9_height_54 (k_13 : Nat → Int32 → Int32 → Mm → Option (Int32 × Mm)) (v0 : Nat) (v2 : Int32) (w0 : Int32) (σ : Mm) : Option (Int32 × Mm) :=
  k_13 v0 w0 (v2 + (1 : Int32)) σ
set_option maxRecDepth 100000 in
set_option maxHeartbeats 4000000 in
theorem V_X9_height_54 {g : GG} (k_13 : Nat → Int32 → Int32 → Mm → Option (Int32 × Mm)) (hk_13 : ∀ (v0 : Nat) (v1 : Int32) (v2 : Int32) (σ : Mm) (r : Int32) (σ' : Mm), k_13 v0 v1 v2 σ = some (r, σ') → VJ g RX9 cX9_height 3 (some .int) false rm_X9_height (some (.int r)) σ' (0) (0) 13 [(0, .ref (gB g + v0)), (1, .int v1), (2, .int v2)] [] σ) (v0 : Nat) (v2 : Int32) (w0 : Int32) (σ : Mm) (r : Int32) (σ' : Mm) (hf : f_X9_height_54 k_13 v0 v2 w0 σ = some (r, σ')) : VJ g RX9 cX9_height 3 (some .int) false rm_X9_height (some (.int r)) σ' (0) (0) 54 [(0, .ref (gB g + v0)), (2, .int v2)] [.int w0] σ := by
  intro p e s m args below meth c H locs cells slots ls E hR hS hl hc hs
  obtain ⟨hx, hb, hml, hr, hlocks, hown, hts, hin, hT⟩ := id E
  unfold f_X9_height_54 at hf
  refine lv_istore_n (lv' := [(1, .int w0), (0, .ref (gB g + v0)), (2, .int v2)]) hx hb dX9_height_54 rfl hl (Nat.le_of_ble_eq_true rfl) rfl (fun ls hl => ?_)
  refine lv_iinc (v := (v2 + (1 : Int32))) (lv' := [(2, .int (v2 + (1 : Int32))), (1, .int w0), (0, .ref (gB g + v0))]) hx hb dX9_height_55 hl (k := 2) rfl rfl (Nat.le_of_ble_eq_true rfl) rfl (fun ls hl => ?_)
  refine lv_goto (tgt := 13) hx hb dX9_height_58 (by decide) ?_
  exact hk_13 _ _ _ _ _ _ hf p e s m args below meth c _ _ _ _ _ E hR hS (lv_sub hl [2, 1, 0] rfl) hc hs
set_option maxRecDepth 100000 in
def f_X9_height_53 (k_13 : Nat → Int32 → Int32 → Mm → Option (Int32 × Mm)) (v0 : Nat) (v1 : Int32) (v2 : Int32) (σ : Mm) : Option (Int32 × Mm) :=
  f_X9_height_54 k_13 v0 v2 v1 σ
set_option maxRecDepth 100000 in
set_option maxHeartbeats 4000000 in
theorem V_X9_height_53 {g : GG} (k_13 : Nat → Int32 → Int32 → Mm → Option (Int32 × Mm)) (hk_13 : ∀ (v0 : Nat) (v1 : Int32) (v2 : Int32) (σ : Mm) (r : Int32) (σ' : Mm), k_13 v0 v1 v2 σ = some (r, σ') → VJ g RX9 cX9_height 3 (some .int) false rm_X9_height (some (.int r)) σ' (0) (0) 13 [(0, .ref (gB g + v0)), (1, .int v1), (2, .int v2)] [] σ) (v0 : Nat) (v1 : Int32) (v2 : Int32) (σ : Mm) (r : Int32) (σ' : Mm) (hf : f_X9_height_53 k_13 v0 v1 v2 σ = some (r, σ')) : VJ g RX9 cX9_height 3 (some .int) false rm_X9_height (some (.int r)) σ' (0) (0) 53 [(0, .ref (gB g + v0)), (1, .int v1), (2, .int v2)] [] σ := by
  intro p e s m args below meth c H locs cells slots ls E hR hS hl hc hs
  obtain ⟨hx, hb, hml, hr, hlocks, hown, hts, hin, hT⟩ := id E
  unfold f_X9_height_53 at hf
  refine lv_iload_n hx hb dX9_height_53 rfl (lv_at hl 1 rfl) ?_
  exact V_X9_height_54 _ hk_13 _ _ _ _ _ _ hf p e s m args below meth c _ _ _ _ _ E hR hS (lv_sub hl [0, 2] rfl) hc hs
set_option maxRecDepth 100000 in
def f_X9_height_13 : Nat → Nat → Int32 → Int32 → Mm → Option (Int32 × Mm)
  | 0, _, _, _, _ => none
  | n + 1, v0, v1, v2, σ =>
    if (100 : Int32) ≤ v2 then (some (v1, σ)) else (zck (kO σ v0 9) (zrb (mR σ v0 0) (fun b3 => zck (kA σ 1 b3 v2) (if (mD σ b3 (ix v2)) = (-9 : Int32) then (f_X9_height_53 (f_X9_height_13 n) v0 v1 v2 σ) else (zrb (mR σ v0 10) (fun b6 => zck (kA σ 1 b6 v2) (if ((mD σ b6 (ix v2)) + (1 : Int32)) ≤ v1 then (f_X9_height_53 (f_X9_height_13 n) v0 v1 v2 σ) else (zck (kA σ 1 b6 v2) (f_X9_height_54 (f_X9_height_13 n) v0 v2 ((mD σ b6 (ix v2)) + (1 : Int32)) σ)))))))))
set_option maxRecDepth 100000 in
set_option maxHeartbeats 4000000 in
theorem V_X9_height_13 {g : GG} : ∀ (n : Nat) (v0 : Nat) (v1 : Int32) (v2 : Int32) (σ : Mm) (r : Int32) (σ' : Mm), f_X9_height_13 n v0 v1 v2 σ = some (r, σ') → VJ g RX9 cX9_height 3 (some .int) false rm_X9_height (some (.int r)) σ' (0) (0) 13 [(0, .ref (gB g + v0)), (1, .int v1), (2, .int v2)] [] σ := by
  intro n
  induction n with
  | zero =>
    intro v0 v1 v2 σ r σ' hf
    unfold f_X9_height_13 at hf
    cases hf
  | succ n ih =>
    intro v0 v1 v2 σ r σ' hf p e s m args below meth c H locs cells slots ls E hR hS hl hc hs
    obtain ⟨hx, hb, hml, hr, hlocks, hown, hts, hin, hT⟩ := id E
    unfold f_X9_height_13 at hf
    refine lv_iload_n hx hb dX9_height_13 rfl (lv_at hl 2 rfl) ?_
    refine lv_bipush (v := (100 : Int32)) hx hb dX9_height_14 rfl ?_
    refine lv_icmp_ge (tgt := 61) hx hb dX9_height_16 (by decide) (fun hq1 => ?_) (fun hq1 => ?_)
    · have hf := ite_p hq1 hf
      refine lv_iload_n hx hb dX9_height_61 rfl (lv_at hl 1 rfl) ?_
      obtain ⟨hr1, hs1⟩ := Prod.mk.inj (Option.some.inj hf)
      exact xr_i E hR hS rfl (by rw [hr1]) hs1.symm hc hs dX9_height_62
    · have hf := ite_n hq1 hf
      refine lv_aload_n hx hb dX9_height_19 rfl (lv_at hl 0 rfl) ?_
      obtain ⟨hk2, hf⟩ := zc_s hf
      obtain ⟨b3, hb3, hf⟩ := zr_s hf
      refine x_getR E hR hk2 hb3 ok9 (Nat.le_of_ble_eq_true rfl) rfl fl_X9_7 dX9_height_20 ?_
      refine lv_iload_n hx hb dX9_height_23 rfl (lv_at hl 2 rfl) ?_
      obtain ⟨hk4, hf⟩ := zc_s hf
      refine x_ild E hR hk4 dX9_height_24 ?_
      refine lv_bipush (v := (-9 : Int32)) hx hb dX9_height_25 rfl ?_
      refine lv_icmp_eq (tgt := 53) hx hb dX9_height_27 (by decide) (fun hq5 => ?_) (fun hq5 => ?_)
      · have hf := ite_p hq5 hf
        exact V_X9_height_53 _ ih _ _ _ _ _ _ hf p e s m args below meth c _ _ _ _ _ E hR hS (lv_sub hl [0, 1, 2] rfl) hc hs
      · have hf := ite_n hq5 hf
        refine lv_aload_n hx hb dX9_height_30 rfl (lv_at hl 0 rfl) ?_
        obtain ⟨b6, hb6, hf⟩ := zr_s hf
        refine x_getR E hR hk2 hb6 ok9 (Nat.le_of_ble_eq_true rfl) rfl fl_X9_35 dX9_height_31 ?_
        refine lv_iload_n hx hb dX9_height_34 rfl (lv_at hl 2 rfl) ?_
        obtain ⟨hk7, hf⟩ := zc_s hf
        refine x_ild E hR hk7 dX9_height_35 ?_
        refine lv_iconst (v := (1 : Int32)) hx hb dX9_height_36 rfl ?_
        refine lv_iadd hx hb dX9_height_37 ?_
        refine lv_iload_n hx hb dX9_height_38 rfl (lv_at hl 1 rfl) ?_
        refine lv_icmp_le (tgt := 53) hx hb dX9_height_39 (by decide) (fun hq8 => ?_) (fun hq8 => ?_)
        · have hf := ite_p hq8 hf
          exact V_X9_height_53 _ ih _ _ _ _ _ _ hf p e s m args below meth c _ _ _ _ _ E hR hS (lv_sub hl [0, 1, 2] rfl) hc hs
        · have hf := ite_n hq8 hf
          refine lv_aload_n hx hb dX9_height_42 rfl (lv_at hl 0 rfl) ?_
          refine x_getR E hR hk2 hb6 ok9 (Nat.le_of_ble_eq_true rfl) rfl fl_X9_35 dX9_height_43 ?_
          refine lv_iload_n hx hb dX9_height_46 rfl (lv_at hl 2 rfl) ?_
          obtain ⟨hk9, hf⟩ := zc_s hf
          refine x_ild E hR hk9 dX9_height_47 ?_
          refine lv_iconst (v := (1 : Int32)) hx hb dX9_height_48 rfl ?_
          refine lv_iadd hx hb dX9_height_49 ?_
          refine lv_goto (tgt := 54) hx hb dX9_height_50 (by decide) ?_
          exact V_X9_height_54 _ ih _ _ _ _ _ _ hf p e s m args below meth c _ _ _ _ _ E hR hS (lv_sub hl [0, 2] rfl) hc hs
set_option maxRecDepth 100000 in
def f_X9_height (v0 : Nat) (σ : Mm) : Option (Int32 × Mm) :=
  zck (kO σ v0 9) (zrb (mR σ v0 0) (fun b11 => zcb (f_X9_make v0 b11 (0 : Int32) σ) (fun r12 σ13 => f_X9_height_13 1000 v0 (0 : Int32) (0 : Int32) σ13)))
set_option maxRecDepth 100000 in
set_option maxHeartbeats 4000000 in
theorem V_X9_height_0 {g : GG} (v0 : Nat) (σ : Mm) (r : Int32) (σ' : Mm) (hf : f_X9_height v0 σ = some (r, σ')) : VJ g RX9 cX9_height 3 (some .int) false rm_X9_height (some (.int r)) σ' (0) (0) 0 [(0, .ref (gB g + v0))] [] σ := by
  intro p e s m args below meth c H locs cells slots ls E hR hS hl hc hs
  obtain ⟨hx, hb, hml, hr, hlocks, hown, hts, hin, hT⟩ := id E
  unfold f_X9_height at hf
  refine lv_aload_n hx hb dX9_height_0 rfl (lv_at hl 0 rfl) ?_
  refine lv_aload_n hx hb dX9_height_1 rfl (lv_at hl 0 rfl) ?_
  obtain ⟨hk10, hf⟩ := zc_s hf
  obtain ⟨b11, hb11, hf⟩ := zr_s hf
  refine x_getR E hR hk10 hb11 ok9 (Nat.le_of_ble_eq_true rfl) rfl fl_X9_7 dX9_height_2 ?_
  refine lv_iconst (v := (0 : Int32)) hx hb dX9_height_5 rfl ?_
  obtain ⟨r12, σ13, hcr12, hf⟩ := zq_s hf
  refine xV (As := [.ref (gB g + b11), .int (0 : Int32)]) (rest := []) (st1 := []) E hR hS hl (C_X9_make hcr12) hk10 ok9 lb_X9_make lv_X9_make ml_X9_165 ⟨Nat.le_of_ble_eq_true rfl, Nat.le_of_ble_eq_true rfl⟩ rfl rfl rfl (Nat.le_of_ble_eq_true rfl) dX9_height_6 ⟨hc, hs⟩ (fun H locs hR hS => ?_)
  refine lv_iconst (v := (0 : Int32)) hx hb dX9_height_9 rfl ?_
  refine lv_istore_n (lv' := [(1, .int (0 : Int32)), (0, .ref (gB g + v0))]) hx hb dX9_height_10 rfl hl (Nat.le_of_ble_eq_true rfl) rfl (fun ls hl => ?_)
  refine lv_iconst (v := (0 : Int32)) hx hb dX9_height_11 rfl ?_
  refine lv_istore_n (lv' := [(2, .int (0 : Int32)), (1, .int (0 : Int32)), (0, .ref (gB g + v0))]) hx hb dX9_height_12 rfl hl (Nat.le_of_ble_eq_true rfl) rfl (fun ls hl => ?_)
  exact V_X9_height_13  1000 _ _ _ _ _ _ hf p e s m args below meth c _ _ _ _ _ E hR hS (lv_sub hl [2, 1, 0] rfl) hc hs
theorem C_X9_height {g : GG} {v0 : Nat} {σ : Mm} {r : Int32} {σ' : Mm} (hf : f_X9_height v0 σ = some (r, σ')) : Ct g yX9_height cX9_height 3 (some .int) rm_X9_height [.ref (gB g + v0)] σ (some (.int r)) σ' :=
  Ct.of false (by decide +kernel) (fun h => by cases h) (Nat.le_of_ble_eq_true rfl) (V_X9_height_0 _ _ _ _ hf)
abbrev rm_X9_values : Room := { frames := 0, cells := 0, slots := 0, locals := 0 }
set_option maxRecDepth 100000 in
def f_X9_values_32 (k_4 : Nat → Int32 → Int32 → Mm → Option (Int32 × Mm)) (v0 : Nat) (v2 : Int32) (w0 : Int32) (w1 : Int32) (σ : Mm) : Option (Int32 × Mm) :=
  k_4 v0 (w0 + w1) (v2 + (1 : Int32)) σ
set_option maxRecDepth 100000 in
set_option maxHeartbeats 4000000 in
theorem V_X9_values_32 {g : GG} (k_4 : Nat → Int32 → Int32 → Mm → Option (Int32 × Mm)) (hk_4 : ∀ (v0 : Nat) (v1 : Int32) (v2 : Int32) (σ : Mm) (r : Int32) (σ' : Mm), k_4 v0 v1 v2 σ = some (r, σ') → VJ g RX9 cX9_values 3 (some .int) false rm_X9_values (some (.int r)) σ' (0) (0) 4 [(0, .ref (gB g + v0)), (1, .int v1), (2, .int v2)] [] σ) (v0 : Nat) (v2 : Int32) (w0 : Int32) (w1 : Int32) (σ : Mm) (r : Int32) (σ' : Mm) (hf : f_X9_values_32 k_4 v0 v2 w0 w1 σ = some (r, σ')) : VJ g RX9 cX9_values 3 (some .int) false rm_X9_values (some (.int r)) σ' (0) (0) 32 [(0, .ref (gB g + v0)), (2, .int v2)] [.int w1, .int w0] σ := by
  intro p e s m args below meth c H locs cells slots ls E hR hS hl hc hs
  obtain ⟨hx, hb, hml, hr, hlocks, hown, hts, hin, hT⟩ := id E
  unfold f_X9_values_32 at hf
  refine lv_iadd hx hb dX9_values_32 ?_
  refine lv_istore_n (lv' := [(1, .int (w0 + w1)), (0, .ref (gB g + v0)), (2, .int v2)]) hx hb dX9_values_33 rfl hl (Nat.le_of_ble_eq_true rfl) rfl (fun ls hl => ?_)
  refine lv_iinc (v := (v2 + (1 : Int32))) (lv' := [(2, .int (v2 + (1 : Int32))), (1, .int (w0 + w1)), (0, .ref (gB g + v0))]) hx hb dX9_values_34 hl (k := 2) rfl rfl (Nat.le_of_ble_eq_true rfl) rfl (fun ls hl => ?_)
  refine lv_goto (tgt := 4) hx hb dX9_values_37 (by decide) ?_
  exact hk_4 _ _ _ _ _ _ hf p e s m args below meth c _ _ _ _ _ E hR hS (lv_sub hl [2, 1, 0] rfl) hc hs
set_option maxRecDepth 100000 in
def f_X9_values_4 : Nat → Nat → Int32 → Int32 → Mm → Option (Int32 × Mm)
  | 0, _, _, _, _ => none
  | n + 1, v0, v1, v2, σ =>
    if (100 : Int32) ≤ v2 then (some (v1, σ)) else (zck (kO σ v0 9) (zrb (mR σ v0 0) (fun b3 => zck (kA σ 1 b3 v2) (if (mD σ b3 (ix v2)) = (-9 : Int32) then (f_X9_values_32 (f_X9_values_4 n) v0 v2 v1 (0 : Int32) σ) else (zck (kA σ 1 b3 v2) (f_X9_values_32 (f_X9_values_4 n) v0 v2 v1 (mD σ b3 (ix v2)) σ))))))
set_option maxRecDepth 100000 in
set_option maxHeartbeats 4000000 in
theorem V_X9_values_4 {g : GG} : ∀ (n : Nat) (v0 : Nat) (v1 : Int32) (v2 : Int32) (σ : Mm) (r : Int32) (σ' : Mm), f_X9_values_4 n v0 v1 v2 σ = some (r, σ') → VJ g RX9 cX9_values 3 (some .int) false rm_X9_values (some (.int r)) σ' (0) (0) 4 [(0, .ref (gB g + v0)), (1, .int v1), (2, .int v2)] [] σ := by
  intro n
  induction n with
  | zero =>
    intro v0 v1 v2 σ r σ' hf
    unfold f_X9_values_4 at hf
    cases hf
  | succ n ih =>
    intro v0 v1 v2 σ r σ' hf p e s m args below meth c H locs cells slots ls E hR hS hl hc hs
    obtain ⟨hx, hb, hml, hr, hlocks, hown, hts, hin, hT⟩ := id E
    unfold f_X9_values_4 at hf
    refine lv_iload_n hx hb dX9_values_4 rfl (lv_at hl 2 rfl) ?_
    refine lv_bipush (v := (100 : Int32)) hx hb dX9_values_5 rfl ?_
    refine lv_icmp_ge (tgt := 40) hx hb dX9_values_7 (by decide) (fun hq1 => ?_) (fun hq1 => ?_)
    · have hf := ite_p hq1 hf
      refine lv_iload_n hx hb dX9_values_40 rfl (lv_at hl 1 rfl) ?_
      obtain ⟨hr1, hs1⟩ := Prod.mk.inj (Option.some.inj hf)
      exact xr_i E hR hS rfl (by rw [hr1]) hs1.symm hc hs dX9_values_41
    · have hf := ite_n hq1 hf
      refine lv_iload_n hx hb dX9_values_10 rfl (lv_at hl 1 rfl) ?_
      refine lv_aload_n hx hb dX9_values_11 rfl (lv_at hl 0 rfl) ?_
      obtain ⟨hk2, hf⟩ := zc_s hf
      obtain ⟨b3, hb3, hf⟩ := zr_s hf
      refine x_getR E hR hk2 hb3 ok9 (Nat.le_of_ble_eq_true rfl) rfl fl_X9_7 dX9_values_12 ?_
      refine lv_iload_n hx hb dX9_values_15 rfl (lv_at hl 2 rfl) ?_
      obtain ⟨hk4, hf⟩ := zc_s hf
      refine x_ild E hR hk4 dX9_values_16 ?_
      refine lv_bipush (v := (-9 : Int32)) hx hb dX9_values_17 rfl ?_
      refine lv_icmp_ne (tgt := 26) hx hb dX9_values_19 (by decide) (fun hq5 => ?_) (fun hq5 => ?_)
      · have hf := ite_n hq5 hf
        refine lv_aload_n hx hb dX9_values_26 rfl (lv_at hl 0 rfl) ?_
        refine x_getR E hR hk2 hb3 ok9 (Nat.le_of_ble_eq_true rfl) rfl fl_X9_7 dX9_values_27 ?_
        refine lv_iload_n hx hb dX9_values_30 rfl (lv_at hl 2 rfl) ?_
        obtain ⟨hk6, hf⟩ := zc_s hf
        refine x_ild E hR hk6 dX9_values_31 ?_
        exact V_X9_values_32 _ ih _ _ _ _ _ _ _ hf p e s m args below meth c _ _ _ _ _ E hR hS (lv_sub hl [0, 2] rfl) hc hs
      · have hf := ite_p hq5 hf
        refine lv_iconst (v := (0 : Int32)) hx hb dX9_values_22 rfl ?_
        refine lv_goto (tgt := 32) hx hb dX9_values_23 (by decide) ?_
        exact V_X9_values_32 _ ih _ _ _ _ _ _ _ hf p e s m args below meth c _ _ _ _ _ E hR hS (lv_sub hl [0, 2] rfl) hc hs
set_option maxRecDepth 100000 in
def f_X9_values (v0 : Nat) (σ : Mm) : Option (Int32 × Mm) :=
  f_X9_values_4 1000 v0 (0 : Int32) (0 : Int32) σ
set_option maxRecDepth 100000 in
set_option maxHeartbeats 4000000 in
theorem V_X9_values_0 {g : GG} (v0 : Nat) (σ : Mm) (r : Int32) (σ' : Mm) (hf : f_X9_values v0 σ = some (r, σ')) : VJ g RX9 cX9_values 3 (some .int) false rm_X9_values (some (.int r)) σ' (0) (0) 0 [(0, .ref (gB g + v0))] [] σ := by
  intro p e s m args below meth c H locs cells slots ls E hR hS hl hc hs
  obtain ⟨hx, hb, hml, hr, hlocks, hown, hts, hin, hT⟩ := id E
  unfold f_X9_values at hf
  refine lv_iconst (v := (0 : Int32)) hx hb dX9_values_0 rfl ?_
  refine lv_istore_n (lv' := [(1, .int (0 : Int32)), (0, .ref (gB g + v0))]) hx hb dX9_values_1 rfl hl (Nat.le_of_ble_eq_true rfl) rfl (fun ls hl => ?_)
  refine lv_iconst (v := (0 : Int32)) hx hb dX9_values_2 rfl ?_
  refine lv_istore_n (lv' := [(2, .int (0 : Int32)), (1, .int (0 : Int32)), (0, .ref (gB g + v0))]) hx hb dX9_values_3 rfl hl (Nat.le_of_ble_eq_true rfl) rfl (fun ls hl => ?_)
  exact V_X9_values_4  1000 _ _ _ _ _ _ hf p e s m args below meth c _ _ _ _ _ E hR hS (lv_sub hl [2, 1, 0] rfl) hc hs
theorem C_X9_values {g : GG} {v0 : Nat} {σ : Mm} {r : Int32} {σ' : Mm} (hf : f_X9_values v0 σ = some (r, σ')) : Ct g yX9_values cX9_values 3 (some .int) rm_X9_values [.ref (gB g + v0)] σ (some (.int r)) σ' :=
  Ct.of false (by decide +kernel) (fun h => by cases h) (Nat.le_of_ble_eq_true rfl) (V_X9_values_0 _ _ _ _ hf)
abbrev rm_X9_about : Room := { frames := 5, cells := 0, slots := 0, locals := 118 }
set_option maxRecDepth 100000 in
def f_X9_about (v0 : Nat) (v1 : Int32) (σ : Mm) : Option (Int32 × Mm) :=
  if v1 = (0 : Int32) then (zck (kO σ v0 9) (zrb (mR σ v0 0) (fun b4 => zcb (f_X9_manyOf b4 σ) (fun r5 σ6 => some (r5, σ6))))) else (if v1 = (1 : Int32) then (zck (kO σ v0 9) (zrb (mR σ v0 0) (fun b9 => zcb (f_X9_rootOf v0 b9 σ) (fun r10 σ11 => some (r10, σ11))))) else (if v1 = (2 : Int32) then (zck (kO σ v0 9) (zcb (f_X9_height v0 σ) (fun r14 σ15 => some (r14, σ15)))) else (if v1 = (3 : Int32) then (zck (kO σ v0 9) (zcb (f_X9_values v0 σ) (fun r18 σ19 => some (r18, σ19)))) else (if v1 = (4 : Int32) then (zck (kO σ v0 9) (some ((mD σ v0 3), σ))) else (if v1 = (5 : Int32) then (zck (kO σ v0 9) (some ((mD σ v0 25), σ))) else (if v1 = (6 : Int32) then (zck (kO σ v0 9) (some ((mD σ v0 26), σ))) else (if v1 = (7 : Int32) then (zck (kO σ v0 9) (some ((mD σ v0 28), σ))) else (some ((-2 : Int32), σ)))))))))
set_option maxRecDepth 100000 in
set_option maxHeartbeats 4000000 in
theorem V_X9_about_0 {g : GG} (v0 : Nat) (v1 : Int32) (σ : Mm) (r : Int32) (σ' : Mm) (hf : f_X9_about v0 v1 σ = some (r, σ')) : VJ g RX9 cX9_about 2 (some .int) false rm_X9_about (some (.int r)) σ' (0) (0) 0 [(0, .ref (gB g + v0)), (1, .int v1)] [] σ := by
  intro p e s m args below meth c H locs cells slots ls E hR hS hl hc hs
  obtain ⟨hx, hb, hml, hr, hlocks, hown, hts, hin, hT⟩ := id E
  unfold f_X9_about at hf
  refine lv_iload_n hx hb dX9_about_0 rfl (lv_at hl 1 rfl) ?_
  refine lv_topi (fun x1 ex => ?_)
  subst ex
  by_cases hq2 : x1 = (0 : Int32)
  · have hf := ite_p hq2 hf
    refine lv_tableIn (tgt := 48) (off := 47) hx hb dX9_about_1 (by rw [hq2]; decide) (by rw [hq2]; decide) (by rw [hq2]; decide) (by decide) ?_
    refine lv_aload_n hx hb dX9_about_48 rfl (lv_at hl 0 rfl) ?_
    obtain ⟨hk3, hf⟩ := zc_s hf
    obtain ⟨b4, hb4, hf⟩ := zr_s hf
    refine x_getR E hR hk3 hb4 ok9 (Nat.le_of_ble_eq_true rfl) rfl fl_X9_7 dX9_about_49 ?_
    obtain ⟨r5, σ6, hcr5, hf⟩ := zq_s hf
    refine xS (As := [.ref (gB g + b4)]) (rest := []) (st1 := [.int r5]) E hR hS hl (C_X9_manyOf hcr5) lb_X9_manyOf ls_X9_manyOf ml_X9_175 ⟨Nat.le_of_ble_eq_true rfl, Nat.le_of_ble_eq_true rfl⟩ rfl rfl rfl (Nat.le_of_ble_eq_true rfl) dX9_about_52 ⟨hc, hs⟩ (fun H locs hR hS => ?_)
    obtain ⟨hr1, hs1⟩ := Prod.mk.inj (Option.some.inj hf)
    exact xr_i E hR hS rfl (by rw [hr1]) hs1.symm hc hs dX9_about_55
  have hf := ite_n hq2 hf
  by_cases hq7 : x1 = (1 : Int32)
  · have hf := ite_p hq7 hf
    refine lv_tableIn (tgt := 56) (off := 55) hx hb dX9_about_1 (by rw [hq7]; decide) (by rw [hq7]; decide) (by rw [hq7]; decide) (by decide) ?_
    refine lv_aload_n hx hb dX9_about_56 rfl (lv_at hl 0 rfl) ?_
    refine lv_aload_n hx hb dX9_about_57 rfl (lv_at hl 0 rfl) ?_
    obtain ⟨hk8, hf⟩ := zc_s hf
    obtain ⟨b9, hb9, hf⟩ := zr_s hf
    refine x_getR E hR hk8 hb9 ok9 (Nat.le_of_ble_eq_true rfl) rfl fl_X9_7 dX9_about_58 ?_
    obtain ⟨r10, σ11, hcr10, hf⟩ := zq_s hf
    refine xV (As := [.ref (gB g + b9)]) (rest := []) (st1 := [.int r10]) E hR hS hl (C_X9_rootOf hcr10) hk8 ok9 lb_X9_rootOf lv_X9_rootOf ml_X9_192 ⟨Nat.le_of_ble_eq_true rfl, Nat.le_of_ble_eq_true rfl⟩ rfl rfl rfl (Nat.le_of_ble_eq_true rfl) dX9_about_61 ⟨hc, hs⟩ (fun H locs hR hS => ?_)
    obtain ⟨hr1, hs1⟩ := Prod.mk.inj (Option.some.inj hf)
    exact xr_i E hR hS rfl (by rw [hr1]) hs1.symm hc hs dX9_about_64
  have hf := ite_n hq7 hf
  by_cases hq12 : x1 = (2 : Int32)
  · have hf := ite_p hq12 hf
    refine lv_tableIn (tgt := 65) (off := 64) hx hb dX9_about_1 (by rw [hq12]; decide) (by rw [hq12]; decide) (by rw [hq12]; decide) (by decide) ?_
    refine lv_aload_n hx hb dX9_about_65 rfl (lv_at hl 0 rfl) ?_
    obtain ⟨hk13, hf⟩ := zc_s hf
    obtain ⟨r14, σ15, hcr14, hf⟩ := zq_s hf
    refine xV (As := []) (rest := []) (st1 := [.int r14]) E hR hS hl (C_X9_height hcr14) hk13 ok9 lb_X9_height lv_X9_height ml_X9_195 ⟨Nat.le_of_ble_eq_true rfl, Nat.le_of_ble_eq_true rfl⟩ rfl rfl rfl (Nat.le_of_ble_eq_true rfl) dX9_about_66 ⟨hc, hs⟩ (fun H locs hR hS => ?_)
    obtain ⟨hr1, hs1⟩ := Prod.mk.inj (Option.some.inj hf)
    exact xr_i E hR hS rfl (by rw [hr1]) hs1.symm hc hs dX9_about_69
  have hf := ite_n hq12 hf
  by_cases hq16 : x1 = (3 : Int32)
  · have hf := ite_p hq16 hf
    refine lv_tableIn (tgt := 70) (off := 69) hx hb dX9_about_1 (by rw [hq16]; decide) (by rw [hq16]; decide) (by rw [hq16]; decide) (by decide) ?_
    refine lv_aload_n hx hb dX9_about_70 rfl (lv_at hl 0 rfl) ?_
    obtain ⟨hk17, hf⟩ := zc_s hf
    obtain ⟨r18, σ19, hcr18, hf⟩ := zq_s hf
    refine xV (As := []) (rest := []) (st1 := [.int r18]) E hR hS hl (C_X9_values hcr18) hk17 ok9 lb_X9_values lv_X9_values ml_X9_199 ⟨Nat.le_of_ble_eq_true rfl, Nat.le_of_ble_eq_true rfl⟩ rfl rfl rfl (Nat.le_of_ble_eq_true rfl) dX9_about_71 ⟨hc, hs⟩ (fun H locs hR hS => ?_)
    obtain ⟨hr1, hs1⟩ := Prod.mk.inj (Option.some.inj hf)
    exact xr_i E hR hS rfl (by rw [hr1]) hs1.symm hc hs dX9_about_74
  have hf := ite_n hq16 hf
  by_cases hq20 : x1 = (4 : Int32)
  · have hf := ite_p hq20 hf
    refine lv_tableIn (tgt := 75) (off := 74) hx hb dX9_about_1 (by rw [hq20]; decide) (by rw [hq20]; decide) (by rw [hq20]; decide) (by decide) ?_
    refine lv_aload_n hx hb dX9_about_75 rfl (lv_at hl 0 rfl) ?_
    obtain ⟨hk21, hf⟩ := zc_s hf
    refine x_getI E hR hk21 ok9 3 (Nat.le_of_ble_eq_true rfl) rfl fl_X9_172 dX9_about_76 ?_
    obtain ⟨hr1, hs1⟩ := Prod.mk.inj (Option.some.inj hf)
    exact xr_i E hR hS rfl (by rw [hr1]) hs1.symm hc hs dX9_about_79
  have hf := ite_n hq20 hf
  by_cases hq22 : x1 = (5 : Int32)
  · have hf := ite_p hq22 hf
    refine lv_tableIn (tgt := 80) (off := 79) hx hb dX9_about_1 (by rw [hq22]; decide) (by rw [hq22]; decide) (by rw [hq22]; decide) (by decide) ?_
    refine lv_aload_n hx hb dX9_about_80 rfl (lv_at hl 0 rfl) ?_
    obtain ⟨hk23, hf⟩ := zc_s hf
    refine x_getI E hR hk23 ok9 25 (Nat.le_of_ble_eq_true rfl) rfl fl_X9_202 dX9_about_81 ?_
    obtain ⟨hr1, hs1⟩ := Prod.mk.inj (Option.some.inj hf)
    exact xr_i E hR hS rfl (by rw [hr1]) hs1.symm hc hs dX9_about_84
  have hf := ite_n hq22 hf
  by_cases hq24 : x1 = (6 : Int32)
  · have hf := ite_p hq24 hf
    refine lv_tableIn (tgt := 85) (off := 84) hx hb dX9_about_1 (by rw [hq24]; decide) (by rw [hq24]; decide) (by rw [hq24]; decide) (by decide) ?_
    refine lv_aload_n hx hb dX9_about_85 rfl (lv_at hl 0 rfl) ?_
    obtain ⟨hk25, hf⟩ := zc_s hf
    refine x_getI E hR hk25 ok9 26 (Nat.le_of_ble_eq_true rfl) rfl fl_X9_205 dX9_about_86 ?_
    obtain ⟨hr1, hs1⟩ := Prod.mk.inj (Option.some.inj hf)
    exact xr_i E hR hS rfl (by rw [hr1]) hs1.symm hc hs dX9_about_89
  have hf := ite_n hq24 hf
  by_cases hq26 : x1 = (7 : Int32)
  · have hf := ite_p hq26 hf
    refine lv_tableIn (tgt := 90) (off := 89) hx hb dX9_about_1 (by rw [hq26]; decide) (by rw [hq26]; decide) (by rw [hq26]; decide) (by decide) ?_
    refine lv_aload_n hx hb dX9_about_90 rfl (lv_at hl 0 rfl) ?_
    obtain ⟨hk27, hf⟩ := zc_s hf
    refine x_getI E hR hk27 ok9 28 (Nat.le_of_ble_eq_true rfl) rfl fl_X9_208 dX9_about_91 ?_
    obtain ⟨hr1, hs1⟩ := Prod.mk.inj (Option.some.inj hf)
    exact xr_i E hR hS rfl (by rw [hr1]) hs1.symm hc hs dX9_about_94
  have hf := ite_n hq26 hf
  refine lv_tableOut (tgt := 95) hx hb dX9_about_1 (sw_out (fun j h1 h2 => by
      have hj : j = 0 ∨ j = 1 ∨ j = 2 ∨ j = 3 ∨ j = 4 ∨ j = 5 ∨ j = 6 ∨ j = 7 := by omega
      rcases hj with rfl | rfl | rfl | rfl | rfl | rfl | rfl | rfl
      · exact hq2
      · exact hq7
      · exact hq12
      · exact hq16
      · exact hq20
      · exact hq22
      · exact hq24
      · exact hq26
      )) (by decide) ?_
  refine lv_bipush (v := (-2 : Int32)) hx hb dX9_about_95 rfl ?_
  obtain ⟨hr1, hs1⟩ := Prod.mk.inj (Option.some.inj hf)
  exact xr_i E hR hS rfl (by rw [hr1]) hs1.symm hc hs dX9_about_97
theorem C_X9_about {g : GG} {v0 : Nat} {v1 : Int32} {σ : Mm} {r : Int32} {σ' : Mm} (hf : f_X9_about v0 v1 σ = some (r, σ')) : Ct g yX9_about cX9_about 2 (some .int) rm_X9_about [.ref (gB g + v0), .int v1] σ (some (.int r)) σ' :=
  Ct.of false (by decide +kernel) (fun h => by cases h) (Nat.le_of_ble_eq_true rfl) (V_X9_about_0 _ _ _ _ _ hf)
abbrev rm_X9_node : Room := { frames := 4, cells := 0, slots := 0, locals := 96 }
set_option maxRecDepth 100000 in
def f_X9_node (v0 : Nat) (v1 : Int32) (v2 : Int32) (σ : Mm) : Option (Int32 × Mm) :=
  zcb (f_X9_isNumber v1 σ) (fun r1 σ2 => if r1 = 0 then (some ((-1 : Int32), σ2)) else (zck (kO σ2 v0 9) (zrb (mR σ2 v0 0) (fun b5 => zck (kA σ2 1 b5 v1) (if (mD σ2 b5 (ix v1)) = (-9 : Int32) then (some ((-1 : Int32), σ2)) else (zcb (f_X9_make v0 b5 (0 : Int32) σ2) (fun r8 σ9 => if v2 = (0 : Int32) then (zck (kO σ9 v0 9) (zrb (mR σ9 v0 10) (fun b13 => zck (kA σ9 1 b13 v1) (some ((mD σ9 b13 (ix v1)), σ9))))) else (if v2 = (1 : Int32) then (zck (kO σ9 v0 9) (zrb (mR σ9 v0 7) (fun b17 => zck (kA σ9 1 b17 v1) (some ((mD σ9 b17 (ix v1)), σ9))))) else (if v2 = (2 : Int32) then (zck (kO σ9 v0 9) (zrb (mR σ9 v0 8) (fun b21 => zck (kA σ9 1 b21 v1) (some ((mD σ9 b21 (ix v1)), σ9))))) else (if v2 = (3 : Int32) then (zck (kO σ9 v0 9) (zrb (mR σ9 v0 9) (fun b25 => zck (kA σ9 1 b25 v1) (some ((mD σ9 b25 (ix v1)), σ9))))) else (if v2 = (4 : Int32) then (zck (kO σ9 v0 9) (zrb (mR σ9 v0 13) (fun b29 => zck (kA σ9 1 b29 v1) (some ((mD σ9 b29 (ix v1)), σ9))))) else (if v2 = (5 : Int32) then (zck (kO σ9 v0 9) (zrb (mR σ9 v0 14) (fun b33 => zck (kA σ9 1 b33 v1) (some ((mD σ9 b33 (ix v1)), σ9))))) else (if v2 = (6 : Int32) then (zck (kO σ9 v0 9) (zrb (mR σ9 v0 11) (fun b37 => zck (kA σ9 1 b37 v1) (some ((mD σ9 b37 (ix v1)), σ9))))) else (if v2 = (7 : Int32) then (zck (kO σ9 v0 9) (zrb (mR σ9 v0 12) (fun b41 => zck (kA σ9 1 b41 v1) (some ((mD σ9 b41 (ix v1)), σ9))))) else (some ((-2 : Int32), σ9))))))))))))))))
set_option maxRecDepth 100000 in
set_option maxHeartbeats 4000000 in
theorem V_X9_node_0 {g : GG} (v0 : Nat) (v1 : Int32) (v2 : Int32) (σ : Mm) (r : Int32) (σ' : Mm) (hf : f_X9_node v0 v1 v2 σ = some (r, σ')) : VJ g RX9 cX9_node 3 (some .int) false rm_X9_node (some (.int r)) σ' (0) (0) 0 [(0, .ref (gB g + v0)), (1, .int v1), (2, .int v2)] [] σ := by
  intro p e s m args below meth c H locs cells slots ls E hR hS hl hc hs
  obtain ⟨hx, hb, hml, hr, hlocks, hown, hts, hin, hT⟩ := id E
  unfold f_X9_node at hf
  refine lv_iload_n hx hb dX9_node_0 rfl (lv_at hl 1 rfl) ?_
  obtain ⟨r1, σ2, hcr1, hf⟩ := zq_s hf
  refine xS (As := [.int v1]) (rest := []) (st1 := [.int r1]) E hR hS hl (C_X9_isNumber hcr1) lb_X9_isNumber ls_X9_isNumber ml_X9_125 ⟨Nat.le_of_ble_eq_true rfl, Nat.le_of_ble_eq_true rfl⟩ rfl rfl rfl (Nat.le_of_ble_eq_true rfl) dX9_node_1 ⟨hc, hs⟩ (fun H locs hR hS => ?_)
  refine lv_if_eq (tgt := 18) hx hb dX9_node_4 (by decide) (fun hq3 => ?_) (fun hq3 => ?_)
  · have hf := ite_p hq3 hf
    refine lv_iconst (v := (-1 : Int32)) hx hb dX9_node_18 rfl ?_
    obtain ⟨hr1, hs1⟩ := Prod.mk.inj (Option.some.inj hf)
    exact xr_i E hR hS rfl (by rw [hr1]) hs1.symm hc hs dX9_node_19
  · have hf := ite_n hq3 hf
    refine lv_aload_n hx hb dX9_node_7 rfl (lv_at hl 0 rfl) ?_
    obtain ⟨hk4, hf⟩ := zc_s hf
    obtain ⟨b5, hb5, hf⟩ := zr_s hf
    refine x_getR E hR hk4 hb5 ok9 (Nat.le_of_ble_eq_true rfl) rfl fl_X9_7 dX9_node_8 ?_
    refine lv_iload_n hx hb dX9_node_11 rfl (lv_at hl 1 rfl) ?_
    obtain ⟨hk6, hf⟩ := zc_s hf
    refine x_ild E hR hk6 dX9_node_12 ?_
    refine lv_bipush (v := (-9 : Int32)) hx hb dX9_node_13 rfl ?_
    refine lv_icmp_ne (tgt := 20) hx hb dX9_node_15 (by decide) (fun hq7 => ?_) (fun hq7 => ?_)
    · have hf := ite_n hq7 hf
      refine lv_aload_n hx hb dX9_node_20 rfl (lv_at hl 0 rfl) ?_
      refine lv_aload_n hx hb dX9_node_21 rfl (lv_at hl 0 rfl) ?_
      refine x_getR E hR hk4 hb5 ok9 (Nat.le_of_ble_eq_true rfl) rfl fl_X9_7 dX9_node_22 ?_
      refine lv_iconst (v := (0 : Int32)) hx hb dX9_node_25 rfl ?_
      obtain ⟨r8, σ9, hcr8, hf⟩ := zq_s hf
      refine xV (As := [.ref (gB g + b5), .int (0 : Int32)]) (rest := []) (st1 := []) E hR hS hl (C_X9_make hcr8) hk4 ok9 lb_X9_make lv_X9_make ml_X9_165 ⟨Nat.le_of_ble_eq_true rfl, Nat.le_of_ble_eq_true rfl⟩ rfl rfl rfl (Nat.le_of_ble_eq_true rfl) dX9_node_26 ⟨hc, hs⟩ (fun H locs hR hS => ?_)
      refine lv_iload_n hx hb dX9_node_29 rfl (lv_at hl 2 rfl) ?_
      refine lv_topi (fun x10 ex => ?_)
      subst ex
      by_cases hq11 : x10 = (0 : Int32)
      · have hf := ite_p hq11 hf
        refine lv_tableIn (tgt := 76) (off := 46) hx hb dX9_node_30 (by rw [hq11]; decide) (by rw [hq11]; decide) (by rw [hq11]; decide) (by decide) ?_
        refine lv_aload_n hx hb dX9_node_76 rfl (lv_at hl 0 rfl) ?_
        obtain ⟨hk12, hf⟩ := zc_s hf
        obtain ⟨b13, hb13, hf⟩ := zr_s hf
        refine x_getR E hR hk12 hb13 ok9 (Nat.le_of_ble_eq_true rfl) rfl fl_X9_35 dX9_node_77 ?_
        refine lv_iload_n hx hb dX9_node_80 rfl (lv_at hl 1 rfl) ?_
        obtain ⟨hk14, hf⟩ := zc_s hf
        refine x_ild E hR hk14 dX9_node_81 ?_
        obtain ⟨hr1, hs1⟩ := Prod.mk.inj (Option.some.inj hf)
        exact xr_i E hR hS rfl (by rw [hr1]) hs1.symm hc hs dX9_node_82
      have hf := ite_n hq11 hf
      by_cases hq15 : x10 = (1 : Int32)
      · have hf := ite_p hq15 hf
        refine lv_tableIn (tgt := 83) (off := 53) hx hb dX9_node_30 (by rw [hq15]; decide) (by rw [hq15]; decide) (by rw [hq15]; decide) (by decide) ?_
        refine lv_aload_n hx hb dX9_node_83 rfl (lv_at hl 0 rfl) ?_
        obtain ⟨hk16, hf⟩ := zc_s hf
        obtain ⟨b17, hb17, hf⟩ := zr_s hf
        refine x_getR E hR hk16 hb17 ok9 (Nat.le_of_ble_eq_true rfl) rfl fl_X9_26 dX9_node_84 ?_
        refine lv_iload_n hx hb dX9_node_87 rfl (lv_at hl 1 rfl) ?_
        obtain ⟨hk18, hf⟩ := zc_s hf
        refine x_ild E hR hk18 dX9_node_88 ?_
        obtain ⟨hr1, hs1⟩ := Prod.mk.inj (Option.some.inj hf)
        exact xr_i E hR hS rfl (by rw [hr1]) hs1.symm hc hs dX9_node_89
      have hf := ite_n hq15 hf
      by_cases hq19 : x10 = (2 : Int32)
      · have hf := ite_p hq19 hf
        refine lv_tableIn (tgt := 90) (off := 60) hx hb dX9_node_30 (by rw [hq19]; decide) (by rw [hq19]; decide) (by rw [hq19]; decide) (by decide) ?_
        refine lv_aload_n hx hb dX9_node_90 rfl (lv_at hl 0 rfl) ?_
        obtain ⟨hk20, hf⟩ := zc_s hf
        obtain ⟨b21, hb21, hf⟩ := zr_s hf
        refine x_getR E hR hk20 hb21 ok9 (Nat.le_of_ble_eq_true rfl) rfl fl_X9_29 dX9_node_91 ?_
        refine lv_iload_n hx hb dX9_node_94 rfl (lv_at hl 1 rfl) ?_
        obtain ⟨hk22, hf⟩ := zc_s hf
        refine x_ild E hR hk22 dX9_node_95 ?_
        obtain ⟨hr1, hs1⟩ := Prod.mk.inj (Option.some.inj hf)
        exact xr_i E hR hS rfl (by rw [hr1]) hs1.symm hc hs dX9_node_96
      have hf := ite_n hq19 hf
      by_cases hq23 : x10 = (3 : Int32)
      · have hf := ite_p hq23 hf
        refine lv_tableIn (tgt := 97) (off := 67) hx hb dX9_node_30 (by rw [hq23]; decide) (by rw [hq23]; decide) (by rw [hq23]; decide) (by decide) ?_
        refine lv_aload_n hx hb dX9_node_97 rfl (lv_at hl 0 rfl) ?_
        obtain ⟨hk24, hf⟩ := zc_s hf
        obtain ⟨b25, hb25, hf⟩ := zr_s hf
        refine x_getR E hR hk24 hb25 ok9 (Nat.le_of_ble_eq_true rfl) rfl fl_X9_32 dX9_node_98 ?_
        refine lv_iload_n hx hb dX9_node_101 rfl (lv_at hl 1 rfl) ?_
        obtain ⟨hk26, hf⟩ := zc_s hf
        refine x_ild E hR hk26 dX9_node_102 ?_
        obtain ⟨hr1, hs1⟩ := Prod.mk.inj (Option.some.inj hf)
        exact xr_i E hR hS rfl (by rw [hr1]) hs1.symm hc hs dX9_node_103
      have hf := ite_n hq23 hf
      by_cases hq27 : x10 = (4 : Int32)
      · have hf := ite_p hq27 hf
        refine lv_tableIn (tgt := 104) (off := 74) hx hb dX9_node_30 (by rw [hq27]; decide) (by rw [hq27]; decide) (by rw [hq27]; decide) (by decide) ?_
        refine lv_aload_n hx hb dX9_node_104 rfl (lv_at hl 0 rfl) ?_
        obtain ⟨hk28, hf⟩ := zc_s hf
        obtain ⟨b29, hb29, hf⟩ := zr_s hf
        refine x_getR E hR hk28 hb29 ok9 (Nat.le_of_ble_eq_true rfl) rfl fl_X9_44 dX9_node_105 ?_
        refine lv_iload_n hx hb dX9_node_108 rfl (lv_at hl 1 rfl) ?_
        obtain ⟨hk30, hf⟩ := zc_s hf
        refine x_ild E hR hk30 dX9_node_109 ?_
        obtain ⟨hr1, hs1⟩ := Prod.mk.inj (Option.some.inj hf)
        exact xr_i E hR hS rfl (by rw [hr1]) hs1.symm hc hs dX9_node_110
      have hf := ite_n hq27 hf
      by_cases hq31 : x10 = (5 : Int32)
      · have hf := ite_p hq31 hf
        refine lv_tableIn (tgt := 111) (off := 81) hx hb dX9_node_30 (by rw [hq31]; decide) (by rw [hq31]; decide) (by rw [hq31]; decide) (by decide) ?_
        refine lv_aload_n hx hb dX9_node_111 rfl (lv_at hl 0 rfl) ?_
        obtain ⟨hk32, hf⟩ := zc_s hf
        obtain ⟨b33, hb33, hf⟩ := zr_s hf
        refine x_getR E hR hk32 hb33 ok9 (Nat.le_of_ble_eq_true rfl) rfl fl_X9_47 dX9_node_112 ?_
        refine lv_iload_n hx hb dX9_node_115 rfl (lv_at hl 1 rfl) ?_
        obtain ⟨hk34, hf⟩ := zc_s hf
        refine x_ild E hR hk34 dX9_node_116 ?_
        obtain ⟨hr1, hs1⟩ := Prod.mk.inj (Option.some.inj hf)
        exact xr_i E hR hS rfl (by rw [hr1]) hs1.symm hc hs dX9_node_117
      have hf := ite_n hq31 hf
      by_cases hq35 : x10 = (6 : Int32)
      · have hf := ite_p hq35 hf
        refine lv_tableIn (tgt := 118) (off := 88) hx hb dX9_node_30 (by rw [hq35]; decide) (by rw [hq35]; decide) (by rw [hq35]; decide) (by decide) ?_
        refine lv_aload_n hx hb dX9_node_118 rfl (lv_at hl 0 rfl) ?_
        obtain ⟨hk36, hf⟩ := zc_s hf
        obtain ⟨b37, hb37, hf⟩ := zr_s hf
        refine x_getR E hR hk36 hb37 ok9 (Nat.le_of_ble_eq_true rfl) rfl fl_X9_38 dX9_node_119 ?_
        refine lv_iload_n hx hb dX9_node_122 rfl (lv_at hl 1 rfl) ?_
        obtain ⟨hk38, hf⟩ := zc_s hf
        refine x_ild E hR hk38 dX9_node_123 ?_
        obtain ⟨hr1, hs1⟩ := Prod.mk.inj (Option.some.inj hf)
        exact xr_i E hR hS rfl (by rw [hr1]) hs1.symm hc hs dX9_node_124
      have hf := ite_n hq35 hf
      by_cases hq39 : x10 = (7 : Int32)
      · have hf := ite_p hq39 hf
        refine lv_tableIn (tgt := 125) (off := 95) hx hb dX9_node_30 (by rw [hq39]; decide) (by rw [hq39]; decide) (by rw [hq39]; decide) (by decide) ?_
        refine lv_aload_n hx hb dX9_node_125 rfl (lv_at hl 0 rfl) ?_
        obtain ⟨hk40, hf⟩ := zc_s hf
        obtain ⟨b41, hb41, hf⟩ := zr_s hf
        refine x_getR E hR hk40 hb41 ok9 (Nat.le_of_ble_eq_true rfl) rfl fl_X9_41 dX9_node_126 ?_
        refine lv_iload_n hx hb dX9_node_129 rfl (lv_at hl 1 rfl) ?_
        obtain ⟨hk42, hf⟩ := zc_s hf
        refine x_ild E hR hk42 dX9_node_130 ?_
        obtain ⟨hr1, hs1⟩ := Prod.mk.inj (Option.some.inj hf)
        exact xr_i E hR hS rfl (by rw [hr1]) hs1.symm hc hs dX9_node_131
      have hf := ite_n hq39 hf
      refine lv_tableOut (tgt := 132) hx hb dX9_node_30 (sw_out (fun j h1 h2 => by
          have hj : j = 0 ∨ j = 1 ∨ j = 2 ∨ j = 3 ∨ j = 4 ∨ j = 5 ∨ j = 6 ∨ j = 7 := by omega
          rcases hj with rfl | rfl | rfl | rfl | rfl | rfl | rfl | rfl
          · exact hq11
          · exact hq15
          · exact hq19
          · exact hq23
          · exact hq27
          · exact hq31
          · exact hq35
          · exact hq39
          )) (by decide) ?_
      refine lv_bipush (v := (-2 : Int32)) hx hb dX9_node_132 rfl ?_
      obtain ⟨hr1, hs1⟩ := Prod.mk.inj (Option.some.inj hf)
      exact xr_i E hR hS rfl (by rw [hr1]) hs1.symm hc hs dX9_node_134
    · have hf := ite_p hq7 hf
      refine lv_iconst (v := (-1 : Int32)) hx hb dX9_node_18 rfl ?_
      obtain ⟨hr1, hs1⟩ := Prod.mk.inj (Option.some.inj hf)
      exact xr_i E hR hS rfl (by rw [hr1]) hs1.symm hc hs dX9_node_19
theorem C_X9_node {g : GG} {v0 : Nat} {v1 : Int32} {v2 : Int32} {σ : Mm} {r : Int32} {σ' : Mm} (hf : f_X9_node v0 v1 v2 σ = some (r, σ')) : Ct g yX9_node cX9_node 3 (some .int) rm_X9_node [.ref (gB g + v0), .int v1, .int v2] σ (some (.int r)) σ' :=
  Ct.of false (by decide +kernel) (fun h => by cases h) (Nat.le_of_ble_eq_true rfl) (V_X9_node_0 _ _ _ _ _ _ hf)
abbrev rm_X9_rank : Room := { frames := 2, cells := 0, slots := 0, locals := 45 }
set_option maxRecDepth 100000 in
def f_X9_rank (v0 : Nat) (v1 : Int32) (σ : Mm) : Option (Int32 × Mm) :=
  zcb (f_X9_isNumber v1 σ) (fun r1 σ2 => if r1 = 0 then (some ((-2 : Int32), σ2)) else (zcb (f_X9_rankOf v1 σ2) (fun r4 σ5 => some (r4, σ5))))
set_option maxRecDepth 100000 in
set_option maxHeartbeats 4000000 in
theorem V_X9_rank_0 {g : GG} (v0 : Nat) (v1 : Int32) (σ : Mm) (r : Int32) (σ' : Mm) (hf : f_X9_rank v0 v1 σ = some (r, σ')) : VJ g RX9 cX9_rank 2 (some .int) false rm_X9_rank (some (.int r)) σ' (0) (0) 0 [(0, .ref (gB g + v0)), (1, .int v1)] [] σ := by
  intro p e s m args below meth c H locs cells slots ls E hR hS hl hc hs
  obtain ⟨hx, hb, hml, hr, hlocks, hown, hts, hin, hT⟩ := id E
  unfold f_X9_rank at hf
  refine lv_iload_n hx hb dX9_rank_0 rfl (lv_at hl 1 rfl) ?_
  obtain ⟨r1, σ2, hcr1, hf⟩ := zq_s hf
  refine xS (As := [.int v1]) (rest := []) (st1 := [.int r1]) E hR hS hl (C_X9_isNumber hcr1) lb_X9_isNumber ls_X9_isNumber ml_X9_125 ⟨Nat.le_of_ble_eq_true rfl, Nat.le_of_ble_eq_true rfl⟩ rfl rfl rfl (Nat.le_of_ble_eq_true rfl) dX9_rank_1 ⟨hc, hs⟩ (fun H locs hR hS => ?_)
  refine lv_if_eq (tgt := 14) hx hb dX9_rank_4 (by decide) (fun hq3 => ?_) (fun hq3 => ?_)
  · have hf := ite_p hq3 hf
    refine lv_bipush (v := (-2 : Int32)) hx hb dX9_rank_14 rfl ?_
    obtain ⟨hr1, hs1⟩ := Prod.mk.inj (Option.some.inj hf)
    exact xr_i E hR hS rfl (by rw [hr1]) hs1.symm hc hs dX9_rank_16
  · have hf := ite_n hq3 hf
    refine lv_iload_n hx hb dX9_rank_7 rfl (lv_at hl 1 rfl) ?_
    obtain ⟨r4, σ5, hcr4, hf⟩ := zq_s hf
    refine xS (As := [.int v1]) (rest := []) (st1 := [.int r4]) E hR hS hl (C_X9_rankOf hcr4) lb_X9_rankOf ls_X9_rankOf ml_X9_135 ⟨Nat.le_of_ble_eq_true rfl, Nat.le_of_ble_eq_true rfl⟩ rfl rfl rfl (Nat.le_of_ble_eq_true rfl) dX9_rank_8 ⟨hc, hs⟩ (fun H locs hR hS => ?_)
    refine lv_goto (tgt := 16) hx hb dX9_rank_11 (by decide) ?_
    obtain ⟨hr1, hs1⟩ := Prod.mk.inj (Option.some.inj hf)
    exact xr_i E hR hS rfl (by rw [hr1]) hs1.symm hc hs dX9_rank_16
theorem C_X9_rank {g : GG} {v0 : Nat} {v1 : Int32} {σ : Mm} {r : Int32} {σ' : Mm} (hf : f_X9_rank v0 v1 σ = some (r, σ')) : Ct g yX9_rank cX9_rank 2 (some .int) rm_X9_rank [.ref (gB g + v0), .int v1] σ (some (.int r)) σ' :=
  Ct.of false (by decide +kernel) (fun h => by cases h) (Nat.le_of_ble_eq_true rfl) (V_X9_rank_0 _ _ _ _ _ hf)
abbrev rm_X9_itemOf : Room := { frames := 0, cells := 0, slots := 0, locals := 0 }
set_option maxRecDepth 100000 in
def f_X9_itemOf (v0 : Int32) (v1 : Int32) (σ : Mm) : Option (Int32 × Mm) :=
  some (((-100 : Int32) - (((100 : Int32) * v0) + v1)), σ)
set_option maxRecDepth 100000 in
set_option maxHeartbeats 4000000 in
theorem V_X9_itemOf_0 {g : GG} (v0 : Int32) (v1 : Int32) (σ : Mm) (r : Int32) (σ' : Mm) (hf : f_X9_itemOf v0 v1 σ = some (r, σ')) : VJ g RX9 cX9_itemOf 2 (some .int) false rm_X9_itemOf (some (.int r)) σ' (0) (0) 0 [(0, .int v0), (1, .int v1)] [] σ := by
  intro p e s m args below meth c H locs cells slots ls E hR hS hl hc hs
  obtain ⟨hx, hb, hml, hr, hlocks, hown, hts, hin, hT⟩ := id E
  unfold f_X9_itemOf at hf
  refine lv_bipush (v := (-100 : Int32)) hx hb dX9_itemOf_0 rfl ?_
  refine lv_bipush (v := (100 : Int32)) hx hb dX9_itemOf_2 rfl ?_
  refine lv_iload_n hx hb dX9_itemOf_4 rfl (lv_at hl 0 rfl) ?_
  refine lv_imul hx hb dX9_itemOf_5 ?_
  refine lv_iload_n hx hb dX9_itemOf_6 rfl (lv_at hl 1 rfl) ?_
  refine lv_iadd hx hb dX9_itemOf_7 ?_
  refine lv_isub hx hb dX9_itemOf_8 ?_
  obtain ⟨hr1, hs1⟩ := Prod.mk.inj (Option.some.inj hf)
  exact xr_i E hR hS rfl (by rw [hr1]) hs1.symm hc hs dX9_itemOf_9
theorem C_X9_itemOf {g : GG} {v0 : Int32} {v1 : Int32} {σ : Mm} {r : Int32} {σ' : Mm} (hf : f_X9_itemOf v0 v1 σ = some (r, σ')) : Ct g yX9_itemOf cX9_itemOf 2 (some .int) rm_X9_itemOf [.int v0, .int v1] σ (some (.int r)) σ' :=
  Ct.of false (by decide +kernel) (fun h => by cases h) (Nat.le_of_ble_eq_true rfl) (V_X9_itemOf_0 _ _ _ _ _ hf)
abbrev rm_X9_prove : Room := { frames := 4, cells := 0, slots := 0, locals := 96 }
set_option maxRecDepth 100000 in
def f_X9_prove_216 (k_30 : Nat → Nat → Int32 → Int32 → Mm → Option (Unit × Mm)) (v0 : Nat) (v1 : Nat) (v2 : Int32) (v3 : Int32) (σ : Mm) : Option (Unit × Mm) :=
  k_30 v0 v1 v2 v3 σ
set_option maxRecDepth 100000 in
set_option maxHeartbeats 4000000 in
theorem V_X9_prove_216 {g : GG} (k_30 : Nat → Nat → Int32 → Int32 → Mm → Option (Unit × Mm)) (hk_30 : ∀ (v0 : Nat) (v1 : Nat) (v2 : Int32) (v3 : Int32) (σ : Mm) (r : Unit) (σ' : Mm), k_30 v0 v1 v2 v3 σ = some (r, σ') → VJ g RX9 cX9_prove 8 none false rm_X9_prove none σ' (0) (0) 30 [(0, .ref (gB g + v0)), (1, .ref (gB g + v1)), (2, .int v2), (3, .int v3)] [] σ) (v0 : Nat) (v1 : Nat) (v2 : Int32) (v3 : Int32) (σ : Mm) (r : Unit) (σ' : Mm) (hf : f_X9_prove_216 k_30 v0 v1 v2 v3 σ = some (r, σ')) : VJ g RX9 cX9_prove 8 none false rm_X9_prove none σ' (0) (0) 216 [(0, .ref (gB g + v0)), (1, .ref (gB g + v1)), (2, .int v2), (3, .int v3)] [] σ := by
  intro p e s m args below meth c H locs cells slots ls E hR hS hl hc hs
  obtain ⟨hx, hb, hml, hr, hlocks, hown, hts, hin, hT⟩ := id E
  unfold f_X9_prove_216 at hf
  refine lv_goto (tgt := 30) hx hb dX9_prove_216 (by decide) ?_
  exact hk_30 _ _ _ _ _ _ _ hf p e s m args below meth c _ _ _ _ _ E hR hS (lv_sub hl [0, 1, 2, 3] rfl) hc hs
set_option maxRecDepth 100000 in
def f_X9_prove_157 (k_30 : Nat → Nat → Int32 → Int32 → Mm → Option (Unit × Mm)) (v0 : Nat) (v1 : Nat) (v2 : Int32) (v3 : Int32) (v4 : Int32) (v5 : Int32) (v6 : Int32) (v7 : Int32) (w0 : Nat) (w1 : Int32) (w2 : Int32) (σ : Mm) : Option (Unit × Mm) :=
  zck (kA σ 1 w0 w1) (zlt (sD σ w0 (ix w1) w2) (fun σ2 => zck (kO σ2 v0 9) (zlt (sD σ2 v0 23 ((mD σ2 v0 23) + (1 : Int32))) (fun σ4 => if v6 = (-9 : Int32) then (f_X9_prove_216 k_30 v0 v1 v2 v3 σ4) else (if v7 = 0 then (f_X9_prove_216 k_30 v0 v1 v2 v3 σ4) else (zrb (mR σ4 v0 9) (fun b7 => zck (kA σ4 1 b7 v6) (zcb (f_X9_want v0 (v6 + (1 : Int32)) v5 (mD σ4 b7 (ix v6)) (0 : Int32) σ4) (fun r9 σ10 => zck (kO σ10 v0 9) (zrb (mR σ10 v0 8) (fun b12 => zck (kA σ10 1 b12 v6) (zcb (f_X9_want v0 v4 (v6 - (1 : Int32)) (mD σ10 b12 (ix v6)) (0 : Int32) σ10) (fun r14 σ15 => f_X9_prove_216 k_30 v0 v1 v2 v3 σ15)))))))))))))
set_option maxRecDepth 100000 in
set_option maxHeartbeats 4000000 in
theorem V_X9_prove_157 {g : GG} (k_30 : Nat → Nat → Int32 → Int32 → Mm → Option (Unit × Mm)) (hk_30 : ∀ (v0 : Nat) (v1 : Nat) (v2 : Int32) (v3 : Int32) (σ : Mm) (r : Unit) (σ' : Mm), k_30 v0 v1 v2 v3 σ = some (r, σ') → VJ g RX9 cX9_prove 8 none false rm_X9_prove none σ' (0) (0) 30 [(0, .ref (gB g + v0)), (1, .ref (gB g + v1)), (2, .int v2), (3, .int v3)] [] σ) (v0 : Nat) (v1 : Nat) (v2 : Int32) (v3 : Int32) (v4 : Int32) (v5 : Int32) (v6 : Int32) (v7 : Int32) (w0 : Nat) (w1 : Int32) (w2 : Int32) (σ : Mm) (r : Unit) (σ' : Mm) (hf : f_X9_prove_157 k_30 v0 v1 v2 v3 v4 v5 v6 v7 w0 w1 w2 σ = some (r, σ')) : VJ g RX9 cX9_prove 8 none false rm_X9_prove none σ' (0) (0) 157 [(0, .ref (gB g + v0)), (1, .ref (gB g + v1)), (2, .int v2), (3, .int v3), (4, .int v4), (5, .int v5), (6, .int v6), (7, .int v7)] [.int w2, .int w1, .ref (gB g + w0)] σ := by
  intro p e s m args below meth c H locs cells slots ls E hR hS hl hc hs
  obtain ⟨hx, hb, hml, hr, hlocks, hown, hts, hin, hT⟩ := id E
  unfold f_X9_prove_157 at hf
  obtain ⟨hk1, hf⟩ := zc_s hf
  obtain ⟨σ2, eσ2, hf⟩ := zl_s hf
  refine x_ist E hR hS hk1 dX9_prove_157 (fun H locs hR hS => ?_)
  rw [← eσ2] at hR
  refine lv_aload_n hx hb dX9_prove_158 rfl (lv_at hl 0 rfl) ?_
  refine lv_dup hx hb dX9_prove_159 rfl ?_
  obtain ⟨hk3, hf⟩ := zc_s hf
  refine x_getI E hR hk3 ok9 23 (Nat.le_of_ble_eq_true rfl) rfl fl_X9_211 dX9_prove_160 ?_
  refine lv_iconst (v := (1 : Int32)) hx hb dX9_prove_163 rfl ?_
  refine lv_iadd hx hb dX9_prove_164 ?_
  obtain ⟨σ4, eσ4, hf⟩ := zl_s hf
  refine x_putI E hR hS hk3 ok9 23 (Nat.le_of_ble_eq_true rfl) rfl fl_X9_211 (Or.inl rfl) rfl rfl dX9_prove_165 (fun H locs hR hS => ?_)
  rw [← eσ4] at hR
  refine lv_iload hx hb dX9_prove_168 (lv_at hl 6 rfl) ?_
  refine lv_bipush (v := (-9 : Int32)) hx hb dX9_prove_170 rfl ?_
  refine lv_icmp_eq (tgt := 216) hx hb dX9_prove_172 (by decide) (fun hq5 => ?_) (fun hq5 => ?_)
  · have hf := ite_p hq5 hf
    exact V_X9_prove_216 _ hk_30 _ _ _ _ _ _ _ hf p e s m args below meth c _ _ _ _ _ E hR hS (lv_sub hl [0, 1, 2, 3] rfl) hc hs
  · have hf := ite_n hq5 hf
    refine lv_iload hx hb dX9_prove_175 (lv_at hl 7 rfl) ?_
    refine lv_if_eq (tgt := 216) hx hb dX9_prove_177 (by decide) (fun hq6 => ?_) (fun hq6 => ?_)
    · have hf := ite_p hq6 hf
      exact V_X9_prove_216 _ hk_30 _ _ _ _ _ _ _ hf p e s m args below meth c _ _ _ _ _ E hR hS (lv_sub hl [0, 1, 2, 3] rfl) hc hs
    · have hf := ite_n hq6 hf
      refine lv_aload_n hx hb dX9_prove_180 rfl (lv_at hl 0 rfl) ?_
      refine lv_iload hx hb dX9_prove_181 (lv_at hl 6 rfl) ?_
      refine lv_iconst (v := (1 : Int32)) hx hb dX9_prove_183 rfl ?_
      refine lv_iadd hx hb dX9_prove_184 ?_
      refine lv_iload hx hb dX9_prove_185 (lv_at hl 5 rfl) ?_
      refine lv_aload_n hx hb dX9_prove_187 rfl (lv_at hl 0 rfl) ?_
      obtain ⟨b7, hb7, hf⟩ := zr_s hf
      refine x_getR E hR (by rw [eσ4]; exact hk3) hb7 ok9 (Nat.le_of_ble_eq_true rfl) rfl fl_X9_32 dX9_prove_188 ?_
      refine lv_iload hx hb dX9_prove_191 (lv_at hl 6 rfl) ?_
      obtain ⟨hk8, hf⟩ := zc_s hf
      refine x_ild E hR hk8 dX9_prove_193 ?_
      refine lv_iconst (v := (0 : Int32)) hx hb dX9_prove_194 rfl ?_
      obtain ⟨r9, σ10, hcr9, hf⟩ := zq_s hf
      refine xV (As := [.int (v6 + (1 : Int32)), .int v5, .int (mD σ4 b7 (ix v6)), .int (0 : Int32)]) (rest := []) (st1 := []) E hR hS hl (C_X9_want hcr9) (by rw [eσ4]; exact hk3) ok9 lb_X9_want lv_X9_want ml_X9_153 ⟨Nat.le_of_ble_eq_true rfl, Nat.le_of_ble_eq_true rfl⟩ rfl rfl rfl (Nat.le_of_ble_eq_true rfl) dX9_prove_195 ⟨hc, hs⟩ (fun H locs hR hS => ?_)
      refine lv_aload_n hx hb dX9_prove_198 rfl (lv_at hl 0 rfl) ?_
      refine lv_iload hx hb dX9_prove_199 (lv_at hl 4 rfl) ?_
      refine lv_iload hx hb dX9_prove_201 (lv_at hl 6 rfl) ?_
      refine lv_iconst (v := (1 : Int32)) hx hb dX9_prove_203 rfl ?_
      refine lv_isub hx hb dX9_prove_204 ?_
      refine lv_aload_n hx hb dX9_prove_205 rfl (lv_at hl 0 rfl) ?_
      obtain ⟨hk11, hf⟩ := zc_s hf
      obtain ⟨b12, hb12, hf⟩ := zr_s hf
      refine x_getR E hR hk11 hb12 ok9 (Nat.le_of_ble_eq_true rfl) rfl fl_X9_29 dX9_prove_206 ?_
      refine lv_iload hx hb dX9_prove_209 (lv_at hl 6 rfl) ?_
      obtain ⟨hk13, hf⟩ := zc_s hf
      refine x_ild E hR hk13 dX9_prove_211 ?_
      refine lv_iconst (v := (0 : Int32)) hx hb dX9_prove_212 rfl ?_
      obtain ⟨r14, σ15, hcr14, hf⟩ := zq_s hf
      refine xV (As := [.int v4, .int (v6 - (1 : Int32)), .int (mD σ10 b12 (ix v6)), .int (0 : Int32)]) (rest := []) (st1 := []) E hR hS hl (C_X9_want hcr14) hk11 ok9 lb_X9_want lv_X9_want ml_X9_153 ⟨Nat.le_of_ble_eq_true rfl, Nat.le_of_ble_eq_true rfl⟩ rfl rfl rfl (Nat.le_of_ble_eq_true rfl) dX9_prove_213 ⟨hc, hs⟩ (fun H locs hR hS => ?_)
      exact V_X9_prove_216 _ hk_30 _ _ _ _ _ _ _ hf p e s m args below meth c _ _ _ _ _ E hR hS (lv_sub hl [0, 1, 2, 3] rfl) hc hs
set_option maxRecDepth 100000 in
def f_X9_prove_112 (k_30 : Nat → Nat → Int32 → Int32 → Mm → Option (Unit × Mm)) (v0 : Nat) (v1 : Nat) (v2 : Int32) (v3 : Int32) (v4 : Int32) (v5 : Int32) (v6 : Int32) (w0 : Int32) (σ : Mm) : Option (Unit × Mm) :=
  zck (kO σ v0 9) (zrb (mR σ v0 22) (fun b17 => if v6 = (-9 : Int32) then (f_X9_prove_157 k_30 v0 v1 v2 v3 v4 v5 v6 w0 b17 (mD σ v0 23) (0 : Int32) σ) else (if w0 = 0 then (zrb (mR σ v0 14) (fun b20 => zck (kA σ 1 b20 v6) (f_X9_prove_157 k_30 v0 v1 v2 v3 v4 v5 v6 w0 b17 (mD σ v0 23) (mD σ b20 (ix v6)) σ))) else (zck (kA σ 1 v1 v6) (zcb (f_X9_itemOf v6 (mD σ v1 (ix v6)) σ) (fun r23 σ24 => f_X9_prove_157 k_30 v0 v1 v2 v3 v4 v5 v6 w0 b17 (mD σ v0 23) r23 σ24))))))
set_option maxRecDepth 100000 in
set_option maxHeartbeats 4000000 in
theorem V_X9_prove_112 {g : GG} (k_30 : Nat → Nat → Int32 → Int32 → Mm → Option (Unit × Mm)) (hk_30 : ∀ (v0 : Nat) (v1 : Nat) (v2 : Int32) (v3 : Int32) (σ : Mm) (r : Unit) (σ' : Mm), k_30 v0 v1 v2 v3 σ = some (r, σ') → VJ g RX9 cX9_prove 8 none false rm_X9_prove none σ' (0) (0) 30 [(0, .ref (gB g + v0)), (1, .ref (gB g + v1)), (2, .int v2), (3, .int v3)] [] σ) (v0 : Nat) (v1 : Nat) (v2 : Int32) (v3 : Int32) (v4 : Int32) (v5 : Int32) (v6 : Int32) (w0 : Int32) (σ : Mm) (r : Unit) (σ' : Mm) (hf : f_X9_prove_112 k_30 v0 v1 v2 v3 v4 v5 v6 w0 σ = some (r, σ')) : VJ g RX9 cX9_prove 8 none false rm_X9_prove none σ' (0) (0) 112 [(0, .ref (gB g + v0)), (1, .ref (gB g + v1)), (2, .int v2), (3, .int v3), (4, .int v4), (5, .int v5), (6, .int v6)] [.int w0] σ := by
  intro p e s m args below meth c H locs cells slots ls E hR hS hl hc hs
  obtain ⟨hx, hb, hml, hr, hlocks, hown, hts, hin, hT⟩ := id E
  unfold f_X9_prove_112 at hf
  refine lv_istore (lv' := [(7, .int w0), (0, .ref (gB g + v0)), (1, .ref (gB g + v1)), (2, .int v2), (3, .int v3), (4, .int v4), (5, .int v5), (6, .int v6)]) hx hb dX9_prove_112 hl (Nat.le_of_ble_eq_true rfl) rfl (fun ls hl => ?_)
  refine lv_aload_n hx hb dX9_prove_114 rfl (lv_at hl 1 rfl) ?_
  obtain ⟨hk16, hf⟩ := zc_s hf
  obtain ⟨b17, hb17, hf⟩ := zr_s hf
  refine x_getR E hR hk16 hb17 ok9 (Nat.le_of_ble_eq_true rfl) rfl fl_X9_68 dX9_prove_115 ?_
  refine lv_aload_n hx hb dX9_prove_118 rfl (lv_at hl 1 rfl) ?_
  refine x_getI E hR hk16 ok9 23 (Nat.le_of_ble_eq_true rfl) rfl fl_X9_211 dX9_prove_119 ?_
  refine lv_iload hx hb dX9_prove_122 (lv_at hl 7 rfl) ?_
  refine lv_bipush (v := (-9 : Int32)) hx hb dX9_prove_124 rfl ?_
  refine lv_icmp_ne (tgt := 133) hx hb dX9_prove_126 (by decide) (fun hq18 => ?_) (fun hq18 => ?_)
  · have hf := ite_n hq18 hf
    refine lv_iload hx hb dX9_prove_133 (lv_at hl 0 rfl) ?_
    refine lv_if_eq (tgt := 150) hx hb dX9_prove_135 (by decide) (fun hq19 => ?_) (fun hq19 => ?_)
    · have hf := ite_p hq19 hf
      refine lv_aload_n hx hb dX9_prove_150 rfl (lv_at hl 1 rfl) ?_
      obtain ⟨b20, hb20, hf⟩ := zr_s hf
      refine x_getR E hR hk16 hb20 ok9 (Nat.le_of_ble_eq_true rfl) rfl fl_X9_47 dX9_prove_151 ?_
      refine lv_iload hx hb dX9_prove_154 (lv_at hl 7 rfl) ?_
      obtain ⟨hk21, hf⟩ := zc_s hf
      refine x_ild E hR hk21 dX9_prove_156 ?_
      exact V_X9_prove_157 _ hk_30 _ _ _ _ _ _ _ _ _ _ _ _ _ _ hf p e s m args below meth c _ _ _ _ _ E hR hS (lv_sub hl [1, 2, 3, 4, 5, 6, 7, 0] rfl) hc hs
    · have hf := ite_n hq19 hf
      refine lv_iload hx hb dX9_prove_138 (lv_at hl 7 rfl) ?_
      refine lv_aload_n hx hb dX9_prove_140 rfl (lv_at hl 2 rfl) ?_
      refine lv_iload hx hb dX9_prove_141 (lv_at hl 7 rfl) ?_
      obtain ⟨hk22, hf⟩ := zc_s hf
      refine x_ild E hR hk22 dX9_prove_143 ?_
      obtain ⟨r23, σ24, hcr23, hf⟩ := zq_s hf
      refine xS (As := [.int v6, .int (mD σ v1 (ix v6))]) (rest := [.int (mD σ v0 23), .ref (gB g + b17)]) (st1 := [.int r23, .int (mD σ v0 23), .ref (gB g + b17)]) E hR hS hl (C_X9_itemOf hcr23) lb_X9_itemOf ls_X9_itemOf ml_X9_214 ⟨Nat.le_of_ble_eq_true rfl, Nat.le_of_ble_eq_true rfl⟩ rfl rfl rfl (Nat.le_of_ble_eq_true rfl) dX9_prove_144 ⟨hc, hs⟩ (fun H locs hR hS => ?_)
      refine lv_goto (tgt := 157) hx hb dX9_prove_147 (by decide) ?_
      exact V_X9_prove_157 _ hk_30 _ _ _ _ _ _ _ _ _ _ _ _ _ _ hf p e s m args below meth c _ _ _ _ _ E hR hS (lv_sub hl [1, 2, 3, 4, 5, 6, 7, 0] rfl) hc hs
  · have hf := ite_p hq18 hf
    refine lv_iconst (v := (0 : Int32)) hx hb dX9_prove_129 rfl ?_
    refine lv_goto (tgt := 157) hx hb dX9_prove_130 (by decide) ?_
    exact V_X9_prove_157 _ hk_30 _ _ _ _ _ _ _ _ _ _ _ _ _ _ hf p e s m args below meth c _ _ _ _ _ E hR hS (lv_sub hl [1, 2, 3, 4, 5, 6, 7, 0] rfl) hc hs
set_option maxRecDepth 100000 in
def f_X9_prove_104 (k_30 : Nat → Nat → Int32 → Int32 → Mm → Option (Unit × Mm)) (v0 : Nat) (v1 : Nat) (v2 : Int32) (v3 : Int32) (v4 : Int32) (v5 : Int32) (v6 : Int32) (w0 : Int32) (w1 : Int32) (σ : Mm) : Option (Unit × Mm) :=
  if w1 < w0 then (f_X9_prove_112 k_30 v0 v1 v2 v3 v4 v5 v6 (0 : Int32) σ) else (f_X9_prove_112 k_30 v0 v1 v2 v3 v4 v5 v6 (1 : Int32) σ)
set_option maxRecDepth 100000 in
set_option maxHeartbeats 4000000 in
theorem V_X9_prove_104 {g : GG} (k_30 : Nat → Nat → Int32 → Int32 → Mm → Option (Unit × Mm)) (hk_30 : ∀ (v0 : Nat) (v1 : Nat) (v2 : Int32) (v3 : Int32) (σ : Mm) (r : Unit) (σ' : Mm), k_30 v0 v1 v2 v3 σ = some (r, σ') → VJ g RX9 cX9_prove 8 none false rm_X9_prove none σ' (0) (0) 30 [(0, .ref (gB g + v0)), (1, .ref (gB g + v1)), (2, .int v2), (3, .int v3)] [] σ) (v0 : Nat) (v1 : Nat) (v2 : Int32) (v3 : Int32) (v4 : Int32) (v5 : Int32) (v6 : Int32) (w0 : Int32) (w1 : Int32) (σ : Mm) (r : Unit) (σ' : Mm) (hf : f_X9_prove_104 k_30 v0 v1 v2 v3 v4 v5 v6 w0 w1 σ = some (r, σ')) : VJ g RX9 cX9_prove 8 none false rm_X9_prove none σ' (0) (0) 104 [(0, .ref (gB g + v0)), (1, .ref (gB g + v1)), (2, .int v2), (3, .int v3), (4, .int v4), (5, .int v5), (6, .int v6)] [.int w1, .int w0] σ := by
  intro p e s m args below meth c H locs cells slots ls E hR hS hl hc hs
  obtain ⟨hx, hb, hml, hr, hlocks, hown, hts, hin, hT⟩ := id E
  unfold f_X9_prove_104 at hf
  refine lv_icmp_gt (tgt := 111) hx hb dX9_prove_104 (by decide) (fun hq25 => ?_) (fun hq25 => ?_)
  · have hf := ite_p hq25 hf
    refine lv_iconst (v := (0 : Int32)) hx hb dX9_prove_111 rfl ?_
    exact V_X9_prove_112 _ hk_30 _ _ _ _ _ _ _ _ _ _ _ hf p e s m args below meth c _ _ _ _ _ E hR hS (lv_sub hl [0, 1, 2, 3, 4, 5, 6] rfl) hc hs
  · have hf := ite_n hq25 hf
    refine lv_iconst (v := (1 : Int32)) hx hb dX9_prove_107 rfl ?_
    refine lv_goto (tgt := 112) hx hb dX9_prove_108 (by decide) ?_
    exact V_X9_prove_112 _ hk_30 _ _ _ _ _ _ _ _ _ _ _ hf p e s m args below meth c _ _ _ _ _ E hR hS (lv_sub hl [0, 1, 2, 3, 4, 5, 6] rfl) hc hs
set_option maxRecDepth 100000 in
def f_X9_prove_92 (k_30 : Nat → Nat → Int32 → Int32 → Mm → Option (Unit × Mm)) (v0 : Nat) (v1 : Nat) (v2 : Int32) (v3 : Int32) (v4 : Int32) (v5 : Int32) (v6 : Int32) (w0 : Int32) (σ : Mm) : Option (Unit × Mm) :=
  if v3 ≤ v5 then (f_X9_prove_104 k_30 v0 v1 v2 v3 v4 v5 v6 w0 v3 σ) else (f_X9_prove_104 k_30 v0 v1 v2 v3 v4 v5 v6 w0 v5 σ)
set_option maxRecDepth 100000 in
set_option maxHeartbeats 4000000 in
theorem V_X9_prove_92 {g : GG} (k_30 : Nat → Nat → Int32 → Int32 → Mm → Option (Unit × Mm)) (hk_30 : ∀ (v0 : Nat) (v1 : Nat) (v2 : Int32) (v3 : Int32) (σ : Mm) (r : Unit) (σ' : Mm), k_30 v0 v1 v2 v3 σ = some (r, σ') → VJ g RX9 cX9_prove 8 none false rm_X9_prove none σ' (0) (0) 30 [(0, .ref (gB g + v0)), (1, .ref (gB g + v1)), (2, .int v2), (3, .int v3)] [] σ) (v0 : Nat) (v1 : Nat) (v2 : Int32) (v3 : Int32) (v4 : Int32) (v5 : Int32) (v6 : Int32) (w0 : Int32) (σ : Mm) (r : Unit) (σ' : Mm) (hf : f_X9_prove_92 k_30 v0 v1 v2 v3 v4 v5 v6 w0 σ = some (r, σ')) : VJ g RX9 cX9_prove 8 none false rm_X9_prove none σ' (0) (0) 92 [(0, .ref (gB g + v0)), (1, .ref (gB g + v1)), (2, .int v2), (3, .int v3), (4, .int v4), (5, .int v5), (6, .int v6)] [.int w0] σ := by
  intro p e s m args below meth c H locs cells slots ls E hR hS hl hc hs
  obtain ⟨hx, hb, hml, hr, hlocks, hown, hts, hin, hT⟩ := id E
  unfold f_X9_prove_92 at hf
  refine lv_iload hx hb dX9_prove_92 (lv_at hl 5 rfl) ?_
  refine lv_iload_n hx hb dX9_prove_94 rfl (lv_at hl 3 rfl) ?_
  refine lv_icmp_ge (tgt := 103) hx hb dX9_prove_95 (by decide) (fun hq26 => ?_) (fun hq26 => ?_)
  · have hf := ite_p hq26 hf
    refine lv_iload_n hx hb dX9_prove_103 rfl (lv_at hl 3 rfl) ?_
    exact V_X9_prove_104 _ hk_30 _ _ _ _ _ _ _ _ _ _ _ _ hf p e s m args below meth c _ _ _ _ _ E hR hS (lv_sub hl [0, 1, 2, 3, 4, 5, 6] rfl) hc hs
  · have hf := ite_n hq26 hf
    refine lv_iload hx hb dX9_prove_98 (lv_at hl 5 rfl) ?_
    refine lv_goto (tgt := 104) hx hb dX9_prove_100 (by decide) ?_
    exact V_X9_prove_104 _ hk_30 _ _ _ _ _ _ _ _ _ _ _ _ hf p e s m args below meth c _ _ _ _ _ E hR hS (lv_sub hl [0, 1, 2, 3, 4, 5, 6] rfl) hc hs
set_option maxRecDepth 100000 in
def f_X9_prove_30 : Nat → Nat → Nat → Int32 → Int32 → Mm → Option (Unit × Mm)
  | 0, _, _, _, _, _ => none
  | n + 1, v0, v1, v2, v3, σ =>
    zck (kO σ v0 9) (if (mD σ v0 21) ≤ 0 then (some ((), σ)) else (zlt (sD σ v0 21 ((mD σ v0 21) - (1 : Int32))) (fun σ29 => zrb (mR σ29 v0 17) (fun b30 => zck (kA σ29 1 b30 (mD σ29 v0 21)) (zrb (mR σ29 v0 18) (fun b32 => zck (kA σ29 1 b32 (mD σ29 v0 21)) (zrb (mR σ29 v0 19) (fun b34 => zck (kA σ29 1 b34 (mD σ29 v0 21)) (if (mD σ29 b30 (ix (mD σ29 v0 21))) ≤ v2 then (f_X9_prove_92 (f_X9_prove_30 n) v0 v1 v2 v3 (mD σ29 b30 (ix (mD σ29 v0 21))) (mD σ29 b32 (ix (mD σ29 v0 21))) (mD σ29 b34 (ix (mD σ29 v0 21))) v2 σ29) else (f_X9_prove_92 (f_X9_prove_30 n) v0 v1 v2 v3 (mD σ29 b30 (ix (mD σ29 v0 21))) (mD σ29 b32 (ix (mD σ29 v0 21))) (mD σ29 b34 (ix (mD σ29 v0 21))) (mD σ29 b30 (ix (mD σ29 v0 21))) σ29))))))))))
set_option maxRecDepth 100000 in
set_option maxHeartbeats 4000000 in
theorem V_X9_prove_30 {g : GG} : ∀ (n : Nat) (v0 : Nat) (v1 : Nat) (v2 : Int32) (v3 : Int32) (σ : Mm) (r : Unit) (σ' : Mm), f_X9_prove_30 n v0 v1 v2 v3 σ = some (r, σ') → VJ g RX9 cX9_prove 8 none false rm_X9_prove none σ' (0) (0) 30 [(0, .ref (gB g + v0)), (1, .ref (gB g + v1)), (2, .int v2), (3, .int v3)] [] σ := by
  intro n
  induction n with
  | zero =>
    intro v0 v1 v2 v3 σ r σ' hf
    unfold f_X9_prove_30 at hf
    cases hf
  | succ n ih =>
    intro v0 v1 v2 v3 σ r σ' hf p e s m args below meth c H locs cells slots ls E hR hS hl hc hs
    obtain ⟨hx, hb, hml, hr, hlocks, hown, hts, hin, hT⟩ := id E
    unfold f_X9_prove_30 at hf
    refine lv_aload_n hx hb dX9_prove_30 rfl (lv_at hl 0 rfl) ?_
    obtain ⟨hk27, hf⟩ := zc_s hf
    refine x_getI E hR hk27 ok9 21 (Nat.le_of_ble_eq_true rfl) rfl fl_X9_145 dX9_prove_31 ?_
    refine lv_if_le (tgt := 219) hx hb dX9_prove_34 (by decide) (fun hq28 => ?_) (fun hq28 => ?_)
    · have hf := ite_p hq28 hf
      obtain ⟨hr1, hs1⟩ := Prod.mk.inj (Option.some.inj hf)
      exact xr_v E hR hS rfl rfl hs1.symm hc hs dX9_prove_219
    · have hf := ite_n hq28 hf
      refine lv_aload_n hx hb dX9_prove_37 rfl (lv_at hl 0 rfl) ?_
      refine lv_dup hx hb dX9_prove_38 rfl ?_
      refine x_getI E hR hk27 ok9 21 (Nat.le_of_ble_eq_true rfl) rfl fl_X9_145 dX9_prove_39 ?_
      refine lv_iconst (v := (1 : Int32)) hx hb dX9_prove_42 rfl ?_
      refine lv_isub hx hb dX9_prove_43 ?_
      obtain ⟨σ29, eσ29, hf⟩ := zl_s hf
      refine x_putI E hR hS hk27 ok9 21 (Nat.le_of_ble_eq_true rfl) rfl fl_X9_145 (Or.inl rfl) rfl rfl dX9_prove_44 (fun H locs hR hS => ?_)
      rw [← eσ29] at hR
      refine lv_aload_n hx hb dX9_prove_47 rfl (lv_at hl 0 rfl) ?_
      obtain ⟨b30, hb30, hf⟩ := zr_s hf
      refine x_getR E hR (by rw [eσ29]; exact hk27) hb30 ok9 (Nat.le_of_ble_eq_true rfl) rfl fl_X9_56 dX9_prove_48 ?_
      refine lv_aload_n hx hb dX9_prove_51 rfl (lv_at hl 0 rfl) ?_
      refine x_getI E hR (by rw [eσ29]; exact hk27) ok9 21 (Nat.le_of_ble_eq_true rfl) rfl fl_X9_145 dX9_prove_52 ?_
      obtain ⟨hk31, hf⟩ := zc_s hf
      refine x_ild E hR hk31 dX9_prove_55 ?_
      refine lv_istore (lv' := [(4, .int (mD σ29 b30 (ix (mD σ29 v0 21)))), (0, .ref (gB g + v0)), (1, .ref (gB g + v1)), (2, .int v2), (3, .int v3)]) hx hb dX9_prove_56 hl (Nat.le_of_ble_eq_true rfl) rfl (fun ls hl => ?_)
      refine lv_aload_n hx hb dX9_prove_58 rfl (lv_at hl 1 rfl) ?_
      obtain ⟨b32, hb32, hf⟩ := zr_s hf
      refine x_getR E hR (by rw [eσ29]; exact hk27) hb32 ok9 (Nat.le_of_ble_eq_true rfl) rfl fl_X9_59 dX9_prove_59 ?_
      refine lv_aload_n hx hb dX9_prove_62 rfl (lv_at hl 1 rfl) ?_
      refine x_getI E hR (by rw [eσ29]; exact hk27) ok9 21 (Nat.le_of_ble_eq_true rfl) rfl fl_X9_145 dX9_prove_63 ?_
      obtain ⟨hk33, hf⟩ := zc_s hf
      refine x_ild E hR hk33 dX9_prove_66 ?_
      refine lv_istore (lv' := [(5, .int (mD σ29 b32 (ix (mD σ29 v0 21)))), (4, .int (mD σ29 b30 (ix (mD σ29 v0 21)))), (0, .ref (gB g + v0)), (1, .ref (gB g + v1)), (2, .int v2), (3, .int v3)]) hx hb dX9_prove_67 hl (Nat.le_of_ble_eq_true rfl) rfl (fun ls hl => ?_)
      refine lv_aload_n hx hb dX9_prove_69 rfl (lv_at hl 2 rfl) ?_
      obtain ⟨b34, hb34, hf⟩ := zr_s hf
      refine x_getR E hR (by rw [eσ29]; exact hk27) hb34 ok9 (Nat.le_of_ble_eq_true rfl) rfl fl_X9_62 dX9_prove_70 ?_
      refine lv_aload_n hx hb dX9_prove_73 rfl (lv_at hl 2 rfl) ?_
      refine x_getI E hR (by rw [eσ29]; exact hk27) ok9 21 (Nat.le_of_ble_eq_true rfl) rfl fl_X9_145 dX9_prove_74 ?_
      obtain ⟨hk35, hf⟩ := zc_s hf
      refine x_ild E hR hk35 dX9_prove_77 ?_
      refine lv_istore (lv' := [(6, .int (mD σ29 b34 (ix (mD σ29 v0 21)))), (5, .int (mD σ29 b32 (ix (mD σ29 v0 21)))), (4, .int (mD σ29 b30 (ix (mD σ29 v0 21)))), (0, .ref (gB g + v0)), (1, .ref (gB g + v1)), (2, .int v2), (3, .int v3)]) hx hb dX9_prove_78 hl (Nat.le_of_ble_eq_true rfl) rfl (fun ls hl => ?_)
      refine lv_iload hx hb dX9_prove_80 (lv_at hl 2 rfl) ?_
      refine lv_iload_n hx hb dX9_prove_82 rfl (lv_at hl 5 rfl) ?_
      refine lv_icmp_le (tgt := 91) hx hb dX9_prove_83 (by decide) (fun hq36 => ?_) (fun hq36 => ?_)
      · have hf := ite_p hq36 hf
        refine lv_iload_n hx hb dX9_prove_91 rfl (lv_at hl 5 rfl) ?_
        exact V_X9_prove_92 _ ih _ _ _ _ _ _ _ _ _ _ _ hf p e s m args below meth c _ _ _ _ _ E hR hS (lv_sub hl [3, 4, 5, 6, 2, 1, 0] rfl) hc hs
      · have hf := ite_n hq36 hf
        refine lv_iload hx hb dX9_prove_86 (lv_at hl 2 rfl) ?_
        refine lv_goto (tgt := 92) hx hb dX9_prove_88 (by decide) ?_
        exact V_X9_prove_92 _ ih _ _ _ _ _ _ _ _ _ _ _ hf p e s m args below meth c _ _ _ _ _ E hR hS (lv_sub hl [3, 4, 5, 6, 2, 1, 0] rfl) hc hs
set_option maxRecDepth 100000 in
def f_X9_prove (v0 : Nat) (v1 : Nat) (v2 : Int32) (v3 : Int32) (σ : Mm) : Option (Unit × Mm) :=
  zck (kO σ v0 9) (zcb (f_X9_make v0 v1 (0 : Int32) σ) (fun r38 σ39 => zck (kO σ39 v0 9) (zlt (sD σ39 v0 23 (0 : Int32)) (fun σ41 => zlt (sD σ41 v0 21 (0 : Int32)) (fun σ42 => zrb (mR σ42 v0 15) (fun b43 => zck (kA σ42 1 b43 (0 : Int32)) (zcb (f_X9_want v0 (0 : Int32) (99 : Int32) (mD σ42 b43 (ix (0 : Int32))) (0 : Int32) σ42) (fun r45 σ46 => f_X9_prove_30 1000 v0 v1 v2 v3 σ46))))))))
set_option maxRecDepth 100000 in
set_option maxHeartbeats 4000000 in
theorem V_X9_prove_0 {g : GG} (v0 : Nat) (v1 : Nat) (v2 : Int32) (v3 : Int32) (σ : Mm) (r : Unit) (σ' : Mm) (hf : f_X9_prove v0 v1 v2 v3 σ = some (r, σ')) : VJ g RX9 cX9_prove 8 none false rm_X9_prove none σ' (0) (0) 0 [(0, .ref (gB g + v0)), (1, .ref (gB g + v1)), (2, .int v2), (3, .int v3)] [] σ := by
  intro p e s m args below meth c H locs cells slots ls E hR hS hl hc hs
  obtain ⟨hx, hb, hml, hr, hlocks, hown, hts, hin, hT⟩ := id E
  unfold f_X9_prove at hf
  refine lv_aload_n hx hb dX9_prove_0 rfl (lv_at hl 0 rfl) ?_
  refine lv_aload_n hx hb dX9_prove_1 rfl (lv_at hl 1 rfl) ?_
  refine lv_iconst (v := (0 : Int32)) hx hb dX9_prove_2 rfl ?_
  obtain ⟨hk37, hf⟩ := zc_s hf
  obtain ⟨r38, σ39, hcr38, hf⟩ := zq_s hf
  refine xV (As := [.ref (gB g + v1), .int (0 : Int32)]) (rest := []) (st1 := []) E hR hS hl (C_X9_make hcr38) hk37 ok9 lb_X9_make lv_X9_make ml_X9_165 ⟨Nat.le_of_ble_eq_true rfl, Nat.le_of_ble_eq_true rfl⟩ rfl rfl rfl (Nat.le_of_ble_eq_true rfl) dX9_prove_3 ⟨hc, hs⟩ (fun H locs hR hS => ?_)
  refine lv_aload_n hx hb dX9_prove_6 rfl (lv_at hl 0 rfl) ?_
  refine lv_iconst (v := (0 : Int32)) hx hb dX9_prove_7 rfl ?_
  obtain ⟨hk40, hf⟩ := zc_s hf
  obtain ⟨σ41, eσ41, hf⟩ := zl_s hf
  refine x_putI E hR hS hk40 ok9 23 (Nat.le_of_ble_eq_true rfl) rfl fl_X9_211 (Or.inl rfl) rfl rfl dX9_prove_8 (fun H locs hR hS => ?_)
  rw [← eσ41] at hR
  refine lv_aload_n hx hb dX9_prove_11 rfl (lv_at hl 0 rfl) ?_
  refine lv_iconst (v := (0 : Int32)) hx hb dX9_prove_12 rfl ?_
  obtain ⟨σ42, eσ42, hf⟩ := zl_s hf
  refine x_putI E hR hS (by rw [eσ41]; exact hk40) ok9 21 (Nat.le_of_ble_eq_true rfl) rfl fl_X9_145 (Or.inl rfl) rfl rfl dX9_prove_13 (fun H locs hR hS => ?_)
  rw [← eσ42] at hR
  refine lv_aload_n hx hb dX9_prove_16 rfl (lv_at hl 0 rfl) ?_
  refine lv_iconst (v := (0 : Int32)) hx hb dX9_prove_17 rfl ?_
  refine lv_bipush (v := (99 : Int32)) hx hb dX9_prove_18 rfl ?_
  refine lv_aload_n hx hb dX9_prove_20 rfl (lv_at hl 0 rfl) ?_
  obtain ⟨b43, hb43, hf⟩ := zr_s hf
  refine x_getR E hR (by rw [eσ42, eσ41]; exact hk40) hb43 ok9 (Nat.le_of_ble_eq_true rfl) rfl fl_X9_50 dX9_prove_21 ?_
  refine lv_iconst (v := (0 : Int32)) hx hb dX9_prove_24 rfl ?_
  obtain ⟨hk44, hf⟩ := zc_s hf
  refine x_ild E hR hk44 dX9_prove_25 ?_
  refine lv_iconst (v := (0 : Int32)) hx hb dX9_prove_26 rfl ?_
  obtain ⟨r45, σ46, hcr45, hf⟩ := zq_s hf
  refine xV (As := [.int (0 : Int32), .int (99 : Int32), .int (mD σ42 b43 (ix (0 : Int32))), .int (0 : Int32)]) (rest := []) (st1 := []) E hR hS hl (C_X9_want hcr45) (by rw [eσ42, eσ41]; exact hk40) ok9 lb_X9_want lv_X9_want ml_X9_153 ⟨Nat.le_of_ble_eq_true rfl, Nat.le_of_ble_eq_true rfl⟩ rfl rfl rfl (Nat.le_of_ble_eq_true rfl) dX9_prove_27 ⟨hc, hs⟩ (fun H locs hR hS => ?_)
  exact V_X9_prove_30  1000 _ _ _ _ _ _ _ hf p e s m args below meth c _ _ _ _ _ E hR hS (lv_sub hl [0, 1, 2, 3] rfl) hc hs
theorem C_X9_prove {g : GG} {v0 : Nat} {v1 : Nat} {v2 : Int32} {v3 : Int32} {σ : Mm} {r : Unit} {σ' : Mm} (hf : f_X9_prove v0 v1 v2 v3 σ = some (r, σ')) : Ct g yX9_prove cX9_prove 8 none rm_X9_prove [.ref (gB g + v0), .ref (gB g + v1), .int v2, .int v3] σ none σ' :=
  Ct.of false (by decide +kernel) (fun h => by cases h) (Nat.le_of_ble_eq_true rfl) (V_X9_prove_0 _ _ _ _ _ _ _ hf)
abbrev rm_X9_proof : Room := { frames := 5, cells := 0, slots := 0, locals := 123 }
set_option maxRecDepth 100000 in
def f_X9_proof_89 (k_39 : Nat → Int32 → Int32 → Int32 → Mm → Option (Int32 × Mm)) (v0 : Nat) (v3 : Int32) (v5 : Int32) (w0 : Int32) (w1 : Int32) (σ : Mm) : Option (Int32 × Mm) :=
  k_39 v0 v3 (w0 + w1) (v5 + (1 : Int32)) σ
set_option maxRecDepth 100000 in
set_option maxHeartbeats 4000000 in
theorem V_X9_proof_89 {g : GG} (k_39 : Nat → Int32 → Int32 → Int32 → Mm → Option (Int32 × Mm)) (hk_39 : ∀ (v0 : Nat) (v3 : Int32) (v4 : Int32) (v5 : Int32) (σ : Mm) (r : Int32) (σ' : Mm), k_39 v0 v3 v4 v5 σ = some (r, σ') → VJ g RX9 cX9_proof 6 (some .int) false rm_X9_proof (some (.int r)) σ' (0) (0) 39 [(0, .ref (gB g + v0)), (3, .int v3), (4, .int v4), (5, .int v5)] [] σ) (v0 : Nat) (v3 : Int32) (v5 : Int32) (w0 : Int32) (w1 : Int32) (σ : Mm) (r : Int32) (σ' : Mm) (hf : f_X9_proof_89 k_39 v0 v3 v5 w0 w1 σ = some (r, σ')) : VJ g RX9 cX9_proof 6 (some .int) false rm_X9_proof (some (.int r)) σ' (0) (0) 89 [(0, .ref (gB g + v0)), (3, .int v3), (5, .int v5)] [.int w1, .int w0] σ := by
  intro p e s m args below meth c H locs cells slots ls E hR hS hl hc hs
  obtain ⟨hx, hb, hml, hr, hlocks, hown, hts, hin, hT⟩ := id E
  unfold f_X9_proof_89 at hf
  refine lv_iadd hx hb dX9_proof_89 ?_
  refine lv_istore (lv' := [(4, .int (w0 + w1)), (0, .ref (gB g + v0)), (3, .int v3), (5, .int v5)]) hx hb dX9_proof_90 hl (Nat.le_of_ble_eq_true rfl) rfl (fun ls hl => ?_)
  refine lv_iinc (v := (v5 + (1 : Int32))) (lv' := [(5, .int (v5 + (1 : Int32))), (4, .int (w0 + w1)), (0, .ref (gB g + v0)), (3, .int v3)]) hx hb dX9_proof_92 hl (k := 3) rfl rfl (Nat.le_of_ble_eq_true rfl) rfl (fun ls hl => ?_)
  refine lv_goto (tgt := 39) hx hb dX9_proof_95 (by decide) ?_
  exact hk_39 _ _ _ _ _ _ _ hf p e s m args below meth c _ _ _ _ _ E hR hS (lv_sub hl [2, 3, 1, 0] rfl) hc hs
set_option maxRecDepth 100000 in
def f_X9_proof_84 (k_39 : Nat → Int32 → Int32 → Int32 → Mm → Option (Int32 × Mm)) (v0 : Nat) (v3 : Int32) (v5 : Int32) (w0 : Int32) (σ : Mm) : Option (Int32 × Mm) :=
  f_X9_proof_89 k_39 v0 v3 v5 w0 (1 : Int32) σ
set_option maxRecDepth 100000 in
set_option maxHeartbeats 4000000 in
theorem V_X9_proof_84 {g : GG} (k_39 : Nat → Int32 → Int32 → Int32 → Mm → Option (Int32 × Mm)) (hk_39 : ∀ (v0 : Nat) (v3 : Int32) (v4 : Int32) (v5 : Int32) (σ : Mm) (r : Int32) (σ' : Mm), k_39 v0 v3 v4 v5 σ = some (r, σ') → VJ g RX9 cX9_proof 6 (some .int) false rm_X9_proof (some (.int r)) σ' (0) (0) 39 [(0, .ref (gB g + v0)), (3, .int v3), (4, .int v4), (5, .int v5)] [] σ) (v0 : Nat) (v3 : Int32) (v5 : Int32) (w0 : Int32) (σ : Mm) (r : Int32) (σ' : Mm) (hf : f_X9_proof_84 k_39 v0 v3 v5 w0 σ = some (r, σ')) : VJ g RX9 cX9_proof 6 (some .int) false rm_X9_proof (some (.int r)) σ' (0) (0) 84 [(0, .ref (gB g + v0)), (3, .int v3), (5, .int v5)] [.int w0] σ := by
  intro p e s m args below meth c H locs cells slots ls E hR hS hl hc hs
  obtain ⟨hx, hb, hml, hr, hlocks, hown, hts, hin, hT⟩ := id E
  unfold f_X9_proof_84 at hf
  refine lv_iconst (v := (1 : Int32)) hx hb dX9_proof_84 rfl ?_
  refine lv_goto (tgt := 89) hx hb dX9_proof_85 (by decide) ?_
  exact V_X9_proof_89 _ hk_39 _ _ _ _ _ _ _ _ hf p e s m args below meth c _ _ _ _ _ E hR hS (lv_sub hl [0, 1, 2] rfl) hc hs
set_option maxRecDepth 100000 in
def f_X9_proof_88 (k_39 : Nat → Int32 → Int32 → Int32 → Mm → Option (Int32 × Mm)) (v0 : Nat) (v3 : Int32) (v5 : Int32) (w0 : Int32) (σ : Mm) : Option (Int32 × Mm) :=
  f_X9_proof_89 k_39 v0 v3 v5 w0 (0 : Int32) σ
set_option maxRecDepth 100000 in
set_option maxHeartbeats 4000000 in
theorem V_X9_proof_88 {g : GG} (k_39 : Nat → Int32 → Int32 → Int32 → Mm → Option (Int32 × Mm)) (hk_39 : ∀ (v0 : Nat) (v3 : Int32) (v4 : Int32) (v5 : Int32) (σ : Mm) (r : Int32) (σ' : Mm), k_39 v0 v3 v4 v5 σ = some (r, σ') → VJ g RX9 cX9_proof 6 (some .int) false rm_X9_proof (some (.int r)) σ' (0) (0) 39 [(0, .ref (gB g + v0)), (3, .int v3), (4, .int v4), (5, .int v5)] [] σ) (v0 : Nat) (v3 : Int32) (v5 : Int32) (w0 : Int32) (σ : Mm) (r : Int32) (σ' : Mm) (hf : f_X9_proof_88 k_39 v0 v3 v5 w0 σ = some (r, σ')) : VJ g RX9 cX9_proof 6 (some .int) false rm_X9_proof (some (.int r)) σ' (0) (0) 88 [(0, .ref (gB g + v0)), (3, .int v3), (5, .int v5)] [.int w0] σ := by
  intro p e s m args below meth c H locs cells slots ls E hR hS hl hc hs
  obtain ⟨hx, hb, hml, hr, hlocks, hown, hts, hin, hT⟩ := id E
  unfold f_X9_proof_88 at hf
  refine lv_iconst (v := (0 : Int32)) hx hb dX9_proof_88 rfl ?_
  exact V_X9_proof_89 _ hk_39 _ _ _ _ _ _ _ _ hf p e s m args below meth c _ _ _ _ _ E hR hS (lv_sub hl [0, 1, 2] rfl) hc hs
set_option maxRecDepth 100000 in
def f_X9_proof_69 (k_39 : Nat → Int32 → Int32 → Int32 → Mm → Option (Int32 × Mm)) (v0 : Nat) (v3 : Int32) (v5 : Int32) (w0 : Int32) (σ : Mm) : Option (Int32 × Mm) :=
  if v3 = (2 : Int32) then (zck (kO σ v0 9) (zrb (mR σ v0 22) (fun b3 => zck (kA σ 1 b3 v5) (if 0 ≤ (mD σ b3 (ix v5)) then (f_X9_proof_88 k_39 v0 v3 v5 w0 σ) else (f_X9_proof_84 k_39 v0 v3 v5 w0 σ))))) else (f_X9_proof_88 k_39 v0 v3 v5 w0 σ)
set_option maxRecDepth 100000 in
set_option maxHeartbeats 4000000 in
theorem V_X9_proof_69 {g : GG} (k_39 : Nat → Int32 → Int32 → Int32 → Mm → Option (Int32 × Mm)) (hk_39 : ∀ (v0 : Nat) (v3 : Int32) (v4 : Int32) (v5 : Int32) (σ : Mm) (r : Int32) (σ' : Mm), k_39 v0 v3 v4 v5 σ = some (r, σ') → VJ g RX9 cX9_proof 6 (some .int) false rm_X9_proof (some (.int r)) σ' (0) (0) 39 [(0, .ref (gB g + v0)), (3, .int v3), (4, .int v4), (5, .int v5)] [] σ) (v0 : Nat) (v3 : Int32) (v5 : Int32) (w0 : Int32) (σ : Mm) (r : Int32) (σ' : Mm) (hf : f_X9_proof_69 k_39 v0 v3 v5 w0 σ = some (r, σ')) : VJ g RX9 cX9_proof 6 (some .int) false rm_X9_proof (some (.int r)) σ' (0) (0) 69 [(0, .ref (gB g + v0)), (3, .int v3), (5, .int v5)] [.int w0] σ := by
  intro p e s m args below meth c H locs cells slots ls E hR hS hl hc hs
  obtain ⟨hx, hb, hml, hr, hlocks, hown, hts, hin, hT⟩ := id E
  unfold f_X9_proof_69 at hf
  refine lv_iload_n hx hb dX9_proof_69 rfl (lv_at hl 1 rfl) ?_
  refine lv_iconst (v := (2 : Int32)) hx hb dX9_proof_70 rfl ?_
  refine lv_icmp_ne (tgt := 88) hx hb dX9_proof_71 (by decide) (fun hq1 => ?_) (fun hq1 => ?_)
  · have hf := ite_n hq1 hf
    exact V_X9_proof_88 _ hk_39 _ _ _ _ _ _ _ hf p e s m args below meth c _ _ _ _ _ E hR hS (lv_sub hl [0, 1, 2] rfl) hc hs
  · have hf := ite_p hq1 hf
    refine lv_aload_n hx hb dX9_proof_74 rfl (lv_at hl 0 rfl) ?_
    obtain ⟨hk2, hf⟩ := zc_s hf
    obtain ⟨b3, hb3, hf⟩ := zr_s hf
    refine x_getR E hR hk2 hb3 ok9 (Nat.le_of_ble_eq_true rfl) rfl fl_X9_68 dX9_proof_75 ?_
    refine lv_iload hx hb dX9_proof_78 (lv_at hl 2 rfl) ?_
    obtain ⟨hk4, hf⟩ := zc_s hf
    refine x_ild E hR hk4 dX9_proof_80 ?_
    refine lv_if_ge (tgt := 88) hx hb dX9_proof_81 (by decide) (fun hq5 => ?_) (fun hq5 => ?_)
    · have hf := ite_p hq5 hf
      exact V_X9_proof_88 _ hk_39 _ _ _ _ _ _ _ hf p e s m args below meth c _ _ _ _ _ E hR hS (lv_sub hl [0, 1, 2] rfl) hc hs
    · have hf := ite_n hq5 hf
      exact V_X9_proof_84 _ hk_39 _ _ _ _ _ _ _ hf p e s m args below meth c _ _ _ _ _ E hR hS (lv_sub hl [0, 1, 2] rfl) hc hs
set_option maxRecDepth 100000 in
def f_X9_proof_39 : Nat → Nat → Int32 → Int32 → Int32 → Mm → Option (Int32 × Mm)
  | 0, _, _, _, _, _ => none
  | n + 1, v0, v3, v4, v5, σ =>
    zck (kO σ v0 9) (if (mD σ v0 23) ≤ v5 then (some (v4, σ)) else (if v3 = 0 then (f_X9_proof_84 (f_X9_proof_39 n) v0 v3 v5 v4 σ) else (if v3 = (1 : Int32) then (zrb (mR σ v0 22) (fun b10 => zck (kA σ 1 b10 v5) (if 0 < (mD σ b10 (ix v5)) then (f_X9_proof_84 (f_X9_proof_39 n) v0 v3 v5 v4 σ) else (f_X9_proof_69 (f_X9_proof_39 n) v0 v3 v5 v4 σ)))) else (f_X9_proof_69 (f_X9_proof_39 n) v0 v3 v5 v4 σ))))
set_option maxRecDepth 100000 in
set_option maxHeartbeats 4000000 in
theorem V_X9_proof_39 {g : GG} : ∀ (n : Nat) (v0 : Nat) (v3 : Int32) (v4 : Int32) (v5 : Int32) (σ : Mm) (r : Int32) (σ' : Mm), f_X9_proof_39 n v0 v3 v4 v5 σ = some (r, σ') → VJ g RX9 cX9_proof 6 (some .int) false rm_X9_proof (some (.int r)) σ' (0) (0) 39 [(0, .ref (gB g + v0)), (3, .int v3), (4, .int v4), (5, .int v5)] [] σ := by
  intro n
  induction n with
  | zero =>
    intro v0 v3 v4 v5 σ r σ' hf
    unfold f_X9_proof_39 at hf
    cases hf
  | succ n ih =>
    intro v0 v3 v4 v5 σ r σ' hf p e s m args below meth c H locs cells slots ls E hR hS hl hc hs
    obtain ⟨hx, hb, hml, hr, hlocks, hown, hts, hin, hT⟩ := id E
    unfold f_X9_proof_39 at hf
    refine lv_iload hx hb dX9_proof_39 (lv_at hl 3 rfl) ?_
    refine lv_aload_n hx hb dX9_proof_41 rfl (lv_at hl 0 rfl) ?_
    obtain ⟨hk6, hf⟩ := zc_s hf
    refine x_getI E hR hk6 ok9 23 (Nat.le_of_ble_eq_true rfl) rfl fl_X9_211 dX9_proof_42 ?_
    refine lv_icmp_ge (tgt := 98) hx hb dX9_proof_45 (by decide) (fun hq7 => ?_) (fun hq7 => ?_)
    · have hf := ite_p hq7 hf
      refine lv_iload hx hb dX9_proof_98 (lv_at hl 2 rfl) ?_
      obtain ⟨hr1, hs1⟩ := Prod.mk.inj (Option.some.inj hf)
      exact xr_i E hR hS rfl (by rw [hr1]) hs1.symm hc hs dX9_proof_100
    · have hf := ite_n hq7 hf
      refine lv_iload hx hb dX9_proof_48 (lv_at hl 2 rfl) ?_
      refine lv_iload_n hx hb dX9_proof_50 rfl (lv_at hl 1 rfl) ?_
      refine lv_if_eq (tgt := 84) hx hb dX9_proof_51 (by decide) (fun hq8 => ?_) (fun hq8 => ?_)
      · have hf := ite_p hq8 hf
        exact V_X9_proof_84 _ ih _ _ _ _ _ _ _ hf p e s m args below meth c _ _ _ _ _ E hR hS (lv_sub hl [0, 1, 3] rfl) hc hs
      · have hf := ite_n hq8 hf
        refine lv_iload_n hx hb dX9_proof_54 rfl (lv_at hl 1 rfl) ?_
        refine lv_iconst (v := (1 : Int32)) hx hb dX9_proof_55 rfl ?_
        refine lv_icmp_ne (tgt := 69) hx hb dX9_proof_56 (by decide) (fun hq9 => ?_) (fun hq9 => ?_)
        · have hf := ite_n hq9 hf
          exact V_X9_proof_69 _ ih _ _ _ _ _ _ _ hf p e s m args below meth c _ _ _ _ _ E hR hS (lv_sub hl [0, 1, 3] rfl) hc hs
        · have hf := ite_p hq9 hf
          refine lv_aload_n hx hb dX9_proof_59 rfl (lv_at hl 0 rfl) ?_
          obtain ⟨b10, hb10, hf⟩ := zr_s hf
          refine x_getR E hR hk6 hb10 ok9 (Nat.le_of_ble_eq_true rfl) rfl fl_X9_68 dX9_proof_60 ?_
          refine lv_iload hx hb dX9_proof_63 (lv_at hl 3 rfl) ?_
          obtain ⟨hk11, hf⟩ := zc_s hf
          refine x_ild E hR hk11 dX9_proof_65 ?_
          refine lv_if_gt (tgt := 84) hx hb dX9_proof_66 (by decide) (fun hq12 => ?_) (fun hq12 => ?_)
          · have hf := ite_p hq12 hf
            exact V_X9_proof_84 _ ih _ _ _ _ _ _ _ hf p e s m args below meth c _ _ _ _ _ E hR hS (lv_sub hl [0, 1, 3] rfl) hc hs
          · have hf := ite_n hq12 hf
            exact V_X9_proof_69 _ ih _ _ _ _ _ _ _ hf p e s m args below meth c _ _ _ _ _ E hR hS (lv_sub hl [0, 1, 3] rfl) hc hs
set_option maxRecDepth 100000 in
def f_X9_proof (v0 : Nat) (v1 : Int32) (v2 : Int32) (v3 : Int32) (σ : Mm) : Option (Int32 × Mm) :=
  zcb (f_X9_isRange v1 v2 σ) (fun r13 σ14 => if r13 = 0 then (some ((-2 : Int32), σ14)) else (zcb (f_X9_in ((v3).toInt64) (0 : Int64) (2 : Int64) σ14) (fun r16 σ17 => if r16 = 0 then (some ((-2 : Int32), σ17)) else (zck (kO σ17 v0 9) (zrb (mR σ17 v0 0) (fun b20 => zcb (f_X9_prove v0 b20 v1 v2 σ17) (fun r21 σ22 => f_X9_proof_39 1000 v0 v3 (0 : Int32) (0 : Int32) σ22)))))))
set_option maxRecDepth 100000 in
set_option maxHeartbeats 4000000 in
theorem V_X9_proof_0 {g : GG} (v0 : Nat) (v1 : Int32) (v2 : Int32) (v3 : Int32) (σ : Mm) (r : Int32) (σ' : Mm) (hf : f_X9_proof v0 v1 v2 v3 σ = some (r, σ')) : VJ g RX9 cX9_proof 6 (some .int) false rm_X9_proof (some (.int r)) σ' (0) (0) 0 [(0, .ref (gB g + v0)), (1, .int v1), (2, .int v2), (3, .int v3)] [] σ := by
  intro p e s m args below meth c H locs cells slots ls E hR hS hl hc hs
  obtain ⟨hx, hb, hml, hr, hlocks, hown, hts, hin, hT⟩ := id E
  unfold f_X9_proof at hf
  refine lv_iload_n hx hb dX9_proof_0 rfl (lv_at hl 1 rfl) ?_
  refine lv_iload_n hx hb dX9_proof_1 rfl (lv_at hl 2 rfl) ?_
  obtain ⟨r13, σ14, hcr13, hf⟩ := zq_s hf
  refine xS (As := [.int v1, .int v2]) (rest := []) (st1 := [.int r13]) E hR hS hl (C_X9_isRange hcr13) lb_X9_isRange ls_X9_isRange ml_X9_218 ⟨Nat.le_of_ble_eq_true rfl, Nat.le_of_ble_eq_true rfl⟩ rfl rfl rfl (Nat.le_of_ble_eq_true rfl) dX9_proof_2 ⟨hc, hs⟩ (fun H locs hR hS => ?_)
  refine lv_if_eq (tgt := 20) hx hb dX9_proof_5 (by decide) (fun hq15 => ?_) (fun hq15 => ?_)
  · have hf := ite_p hq15 hf
    refine lv_bipush (v := (-2 : Int32)) hx hb dX9_proof_20 rfl ?_
    obtain ⟨hr1, hs1⟩ := Prod.mk.inj (Option.some.inj hf)
    exact xr_i E hR hS rfl (by rw [hr1]) hs1.symm hc hs dX9_proof_22
  · have hf := ite_n hq15 hf
    refine lv_iload_n hx hb dX9_proof_8 rfl (lv_at hl 3 rfl) ?_
    refine lv_i2l (v := (v3).toInt64) hx hb dX9_proof_9 rfl ?_
    refine lv_lconst (v := (0 : Int64)) hx hb dX9_proof_10 rfl ?_
    refine lv_ldc2 (v := (2 : Int64)) hx hb hown (hts _ kl_X9_221) dX9_proof_11 ?_
    obtain ⟨r16, σ17, hcr16, hf⟩ := zq_s hf
    refine xS (As := [.long ((v3).toInt64), .long (0 : Int64), .long (2 : Int64)]) (rest := []) (st1 := [.int r16]) E hR hS hl (C_X9_in hcr16) lb_X9_in ls_X9_in ml_X9_121 ⟨Nat.le_of_ble_eq_true rfl, Nat.le_of_ble_eq_true rfl⟩ rfl rfl rfl (Nat.le_of_ble_eq_true rfl) dX9_proof_14 ⟨hc, hs⟩ (fun H locs hR hS => ?_)
    refine lv_if_ne (tgt := 23) hx hb dX9_proof_17 (by decide) (fun hq18 => ?_) (fun hq18 => ?_)
    · have hf := ite_n hq18 hf
      refine lv_aload_n hx hb dX9_proof_23 rfl (lv_at hl 0 rfl) ?_
      refine lv_aload_n hx hb dX9_proof_24 rfl (lv_at hl 0 rfl) ?_
      obtain ⟨hk19, hf⟩ := zc_s hf
      obtain ⟨b20, hb20, hf⟩ := zr_s hf
      refine x_getR E hR hk19 hb20 ok9 (Nat.le_of_ble_eq_true rfl) rfl fl_X9_7 dX9_proof_25 ?_
      refine lv_iload_n hx hb dX9_proof_28 rfl (lv_at hl 1 rfl) ?_
      refine lv_iload_n hx hb dX9_proof_29 rfl (lv_at hl 2 rfl) ?_
      obtain ⟨r21, σ22, hcr21, hf⟩ := zq_s hf
      refine xV (As := [.ref (gB g + b20), .int v1, .int v2]) (rest := []) (st1 := []) E hR hS hl (C_X9_prove hcr21) hk19 ok9 lb_X9_prove lv_X9_prove ml_X9_223 ⟨Nat.le_of_ble_eq_true rfl, Nat.le_of_ble_eq_true rfl⟩ rfl rfl rfl (Nat.le_of_ble_eq_true rfl) dX9_proof_30 ⟨hc, hs⟩ (fun H locs hR hS => ?_)
      refine lv_iconst (v := (0 : Int32)) hx hb dX9_proof_33 rfl ?_
      refine lv_istore (lv' := [(4, .int (0 : Int32)), (0, .ref (gB g + v0)), (1, .int v1), (2, .int v2), (3, .int v3)]) hx hb dX9_proof_34 hl (Nat.le_of_ble_eq_true rfl) rfl (fun ls hl => ?_)
      refine lv_iconst (v := (0 : Int32)) hx hb dX9_proof_36 rfl ?_
      refine lv_istore (lv' := [(5, .int (0 : Int32)), (4, .int (0 : Int32)), (0, .ref (gB g + v0)), (1, .int v1), (2, .int v2), (3, .int v3)]) hx hb dX9_proof_37 hl (Nat.le_of_ble_eq_true rfl) rfl (fun ls hl => ?_)
      exact V_X9_proof_39  1000 _ _ _ _ _ _ _ hf p e s m args below meth c _ _ _ _ _ E hR hS (lv_sub hl [2, 5, 1, 0] rfl) hc hs
    · have hf := ite_p hq18 hf
      refine lv_bipush (v := (-2 : Int32)) hx hb dX9_proof_20 rfl ?_
      obtain ⟨hr1, hs1⟩ := Prod.mk.inj (Option.some.inj hf)
      exact xr_i E hR hS rfl (by rw [hr1]) hs1.symm hc hs dX9_proof_22
theorem C_X9_proof {g : GG} {v0 : Nat} {v1 : Int32} {v2 : Int32} {v3 : Int32} {σ : Mm} {r : Int32} {σ' : Mm} (hf : f_X9_proof v0 v1 v2 v3 σ = some (r, σ')) : Ct g yX9_proof cX9_proof 6 (some .int) rm_X9_proof [.ref (gB g + v0), .int v1, .int v2, .int v3] σ (some (.int r)) σ' :=
  Ct.of false (by decide +kernel) (fun h => by cases h) (Nat.le_of_ble_eq_true rfl) (V_X9_proof_0 _ _ _ _ _ _ _ hf)
