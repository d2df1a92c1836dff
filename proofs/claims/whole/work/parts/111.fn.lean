abbrev rm_X9_keep : Room := { frames := 1, cells := 0, slots := 0, locals := 25 }
set_option maxRecDepth 100000 in
def f_X9_keep_21 : Nat → Nat → Int32 → Int32 → Mm → Option (Int32 × Mm)
  | 0, _, _, _, _ => none
  | n + 1, v0, v1, v2, σ =>
    if (100 : Int32) ≤ v2 then (zck (kO σ v0 9) (zrb (mR σ v0 0) (fun b3 => zcb (f_X9_manyOf b3 σ) (fun r4 σ5 => some (r4, σ5))))) else (zck (kO σ v0 9) (zrb (mR σ v0 5) (fun b7 => zrb (mR σ v0 0) (fun b8 => zck (kA σ 1 b8 v2) (zck (kA σ 1 b7 (((100 : Int32) * v1) + v2)) (zlt (sD σ b7 (ix (((100 : Int32) * v1) + v2)) (mD σ b8 (ix v2))) (fun σ11 => f_X9_keep_21 n v0 v1 (v2 + (1 : Int32)) σ11)))))))
set_option maxRecDepth 100000 in
set_option maxHeartbeats 4000000 in
theorem V_X9_keep_21 {g : GG} : ∀ (n : Nat) (v0 : Nat) (v1 : Int32) (v2 : Int32) (σ : Mm) (r : Int32) (σ' : Mm), f_X9_keep_21 n v0 v1 v2 σ = some (r, σ') → VJ g RX9 cX9_keep 3 (some .int) false rm_X9_keep (some (.int r)) σ' (0) (0) 21 [(0, .ref (gB g + v0)), (1, .int v1), (2, .int v2)] [] σ := by
  intro n
  induction n with
  | zero =>
    intro v0 v1 v2 σ r σ' hf
    unfold f_X9_keep_21 at hf
    cases hf
  | succ n ih =>
    intro v0 v1 v2 σ r σ' hf p e s m args below meth c H locs cells slots ls E hR hS hl hc hs
    obtain ⟨hx, hb, hml, hr, hlocks, hown, hts, hin, hT⟩ := id E
    unfold f_X9_keep_21 at hf
    refine lv_iload_n hx hb dX9_keep_21 rfl (lv_at hl 2 rfl) ?_
    refine lv_bipush (v := (100 : Int32)) hx hb dX9_keep_22 rfl ?_
    refine lv_icmp_ge (tgt := 50) hx hb dX9_keep_24 (by decide) (fun hq1 => ?_) (fun hq1 => ?_)
    · have hf := ite_p hq1 hf
      refine lv_aload_n hx hb dX9_keep_50 rfl (lv_at hl 0 rfl) ?_
      obtain ⟨hk2, hf⟩ := zc_s hf
      obtain ⟨b3, hb3, hf⟩ := zr_s hf
      refine x_getR E hR hk2 hb3 ok9 (Nat.le_of_ble_eq_true rfl) rfl fl_X9_7 dX9_keep_51 ?_
      obtain ⟨r4, σ5, hcr4, hf⟩ := zq_s hf
      refine xS (As := [.ref (gB g + b3)]) (rest := []) (st1 := [.int r4]) E hR hS hl (C_X9_manyOf hcr4) lb_X9_manyOf ls_X9_manyOf ml_X9_175 ⟨Nat.le_of_ble_eq_true rfl, Nat.le_of_ble_eq_true rfl⟩ rfl rfl rfl (Nat.le_of_ble_eq_true rfl) dX9_keep_54 ⟨hc, hs⟩ (fun H locs hR hS => ?_)
      obtain ⟨hr1, hs1⟩ := Prod.mk.inj (Option.some.inj hf)
      exact xr_i E hR hS rfl (by rw [hr1]) hs1.symm hc hs dX9_keep_57
    · have hf := ite_n hq1 hf
      refine lv_aload_n hx hb dX9_keep_27 rfl (lv_at hl 0 rfl) ?_
      obtain ⟨hk6, hf⟩ := zc_s hf
      obtain ⟨b7, hb7, hf⟩ := zr_s hf
      refine x_getR E hR hk6 hb7 ok9 (Nat.le_of_ble_eq_true rfl) rfl fl_X9_19 dX9_keep_28 ?_
      refine lv_bipush (v := (100 : Int32)) hx hb dX9_keep_31 rfl ?_
      refine lv_iload_n hx hb dX9_keep_33 rfl (lv_at hl 1 rfl) ?_
      refine lv_imul hx hb dX9_keep_34 ?_
      refine lv_iload_n hx hb dX9_keep_35 rfl (lv_at hl 2 rfl) ?_
      refine lv_iadd hx hb dX9_keep_36 ?_
      refine lv_aload_n hx hb dX9_keep_37 rfl (lv_at hl 0 rfl) ?_
      obtain ⟨b8, hb8, hf⟩ := zr_s hf
      refine x_getR E hR hk6 hb8 ok9 (Nat.le_of_ble_eq_true rfl) rfl fl_X9_7 dX9_keep_38 ?_
      refine lv_iload_n hx hb dX9_keep_41 rfl (lv_at hl 2 rfl) ?_
      obtain ⟨hk9, hf⟩ := zc_s hf
      refine x_ild E hR hk9 dX9_keep_42 ?_
      obtain ⟨hk10, hf⟩ := zc_s hf
      obtain ⟨σ11, eσ11, hf⟩ := zl_s hf
      refine x_ist E hR hS hk10 dX9_keep_43 (fun H locs hR hS => ?_)
      rw [← eσ11] at hR
      refine lv_iinc (v := (v2 + (1 : Int32))) (lv' := [(2, .int (v2 + (1 : Int32))), (0, .ref (gB g + v0)), (1, .int v1)]) hx hb dX9_keep_44 hl (k := 2) rfl rfl (Nat.le_of_ble_eq_true rfl) rfl (fun ls hl => ?_)
      refine lv_goto (tgt := 21) hx hb dX9_keep_47 (by decide) ?_
      exact ih _ _ _ _ _ _ hf p e s m args below meth c _ _ _ _ _ E hR hS (lv_sub hl [1, 2, 0] rfl) hc hs
set_option maxRecDepth 100000 in
def f_X9_keep (v0 : Nat) (v1 : Int32) (σ : Mm) : Option (Int32 × Mm) :=
  zcb (f_X9_in ((v1).toInt64) (0 : Int64) (1 : Int64) σ) (fun r12 σ13 => if r12 = 0 then (some ((-1 : Int32), σ13)) else (zck (kO σ13 v0 9) (zrb (mR σ13 v0 6) (fun b16 => zck (kA σ13 2 b16 v1) (zlt (sD σ13 b16 (ix v1) (1 : Int32)) (fun σ18 => f_X9_keep_21 1000 v0 v1 (0 : Int32) σ18))))))
set_option maxRecDepth 100000 in
set_option maxHeartbeats 4000000 in
theorem V_X9_keep_0 {g : GG} (v0 : Nat) (v1 : Int32) (σ : Mm) (r : Int32) (σ' : Mm) (hf : f_X9_keep v0 v1 σ = some (r, σ')) : VJ g RX9 cX9_keep 3 (some .int) false rm_X9_keep (some (.int r)) σ' (0) (0) 0 [(0, .ref (gB g + v0)), (1, .int v1)] [] σ := by
  intro p e s m args below meth c H locs cells slots ls E hR hS hl hc hs
  obtain ⟨hx, hb, hml, hr, hlocks, hown, hts, hin, hT⟩ := id E
  unfold f_X9_keep at hf
  refine lv_iload_n hx hb dX9_keep_0 rfl (lv_at hl 1 rfl) ?_
  refine lv_i2l (v := (v1).toInt64) hx hb dX9_keep_1 rfl ?_
  refine lv_lconst (v := (0 : Int64)) hx hb dX9_keep_2 rfl ?_
  refine lv_lconst (v := (1 : Int64)) hx hb dX9_keep_3 rfl ?_
  obtain ⟨r12, σ13, hcr12, hf⟩ := zq_s hf
  refine xS (As := [.long ((v1).toInt64), .long (0 : Int64), .long (1 : Int64)]) (rest := []) (st1 := [.int r12]) E hR hS hl (C_X9_in hcr12) lb_X9_in ls_X9_in ml_X9_121 ⟨Nat.le_of_ble_eq_true rfl, Nat.le_of_ble_eq_true rfl⟩ rfl rfl rfl (Nat.le_of_ble_eq_true rfl) dX9_keep_4 ⟨hc, hs⟩ (fun H locs hR hS => ?_)
  refine lv_if_ne (tgt := 12) hx hb dX9_keep_7 (by decide) (fun hq14 => ?_) (fun hq14 => ?_)
  · have hf := ite_n hq14 hf
    refine lv_aload_n hx hb dX9_keep_12 rfl (lv_at hl 0 rfl) ?_
    obtain ⟨hk15, hf⟩ := zc_s hf
    obtain ⟨b16, hb16, hf⟩ := zr_s hf
    refine x_getR E hR hk15 hb16 ok9 (Nat.le_of_ble_eq_true rfl) rfl fl_X9_22 dX9_keep_13 ?_
    refine lv_iload_n hx hb dX9_keep_16 rfl (lv_at hl 1 rfl) ?_
    refine lv_iconst (v := (1 : Int32)) hx hb dX9_keep_17 rfl ?_
    obtain ⟨hk17, hf⟩ := zc_s hf
    obtain ⟨σ18, eσ18, hf⟩ := zl_s hf
    refine x_zst E hR hS hk17 rfl dX9_keep_18 (fun H locs hR hS => ?_)
    rw [← eσ18] at hR
    refine lv_iconst (v := (0 : Int32)) hx hb dX9_keep_19 rfl ?_
    refine lv_istore_n (lv' := [(2, .int (0 : Int32)), (0, .ref (gB g + v0)), (1, .int v1)]) hx hb dX9_keep_20 rfl hl (Nat.le_of_ble_eq_true rfl) rfl (fun ls hl => ?_)
    exact V_X9_keep_21  1000 _ _ _ _ _ _ hf p e s m args below meth c _ _ _ _ _ E hR hS (lv_sub hl [1, 2, 0] rfl) hc hs
  · have hf := ite_p hq14 hf
    refine lv_iconst (v := (-1 : Int32)) hx hb dX9_keep_10 rfl ?_
    obtain ⟨hr1, hs1⟩ := Prod.mk.inj (Option.some.inj hf)
    exact xr_i E hR hS rfl (by rw [hr1]) hs1.symm hc hs dX9_keep_11
theorem C_X9_keep {g : GG} {v0 : Nat} {v1 : Int32} {σ : Mm} {r : Int32} {σ' : Mm} (hf : f_X9_keep v0 v1 σ = some (r, σ')) : Ct g yX9_keep cX9_keep 3 (some .int) rm_X9_keep [.ref (gB g + v0), .int v1] σ (some (.int r)) σ' :=
  Ct.of false (by decide +kernel) (fun h => by cases h) (Nat.le_of_ble_eq_true rfl) (V_X9_keep_0 _ _ _ _ _ hf)
abbrev rm_X9_again : Room := { frames := 1, cells := 0, slots := 0, locals := 25 }
set_option maxRecDepth 100000 in
def f_X9_again_26 : Nat → Nat → Int32 → Int32 → Mm → Option (Int32 × Mm)
  | 0, _, _, _, _ => none
  | n + 1, v0, v1, v2, σ =>
    if (100 : Int32) ≤ v2 then (zck (kO σ v0 9) (zlt (sD σ v0 3 (0 : Int32)) (fun σ3 => zrb (mR σ3 v0 0) (fun b4 => zcb (f_X9_manyOf b4 σ3) (fun r5 σ6 => some (r5, σ6)))))) else (zck (kO σ v0 9) (zrb (mR σ v0 0) (fun b8 => zrb (mR σ v0 5) (fun b9 => zck (kA σ 1 b9 (((100 : Int32) * v1) + v2)) (zck (kA σ 1 b8 v2) (zlt (sD σ b8 (ix v2) (mD σ b9 (ix (((100 : Int32) * v1) + v2)))) (fun σ12 => f_X9_again_26 n v0 v1 (v2 + (1 : Int32)) σ12)))))))
set_option maxRecDepth 100000 in
set_option maxHeartbeats 4000000 in
theorem V_X9_again_26 {g : GG} : ∀ (n : Nat) (v0 : Nat) (v1 : Int32) (v2 : Int32) (σ : Mm) (r : Int32) (σ' : Mm), f_X9_again_26 n v0 v1 v2 σ = some (r, σ') → VJ g RX9 cX9_again 3 (some .int) false rm_X9_again (some (.int r)) σ' (0) (0) 26 [(0, .ref (gB g + v0)), (1, .int v1), (2, .int v2)] [] σ := by
  intro n
  induction n with
  | zero =>
    intro v0 v1 v2 σ r σ' hf
    unfold f_X9_again_26 at hf
    cases hf
  | succ n ih =>
    intro v0 v1 v2 σ r σ' hf p e s m args below meth c H locs cells slots ls E hR hS hl hc hs
    obtain ⟨hx, hb, hml, hr, hlocks, hown, hts, hin, hT⟩ := id E
    unfold f_X9_again_26 at hf
    refine lv_iload_n hx hb dX9_again_26 rfl (lv_at hl 2 rfl) ?_
    refine lv_bipush (v := (100 : Int32)) hx hb dX9_again_27 rfl ?_
    refine lv_icmp_ge (tgt := 55) hx hb dX9_again_29 (by decide) (fun hq1 => ?_) (fun hq1 => ?_)
    · have hf := ite_p hq1 hf
      refine lv_aload_n hx hb dX9_again_55 rfl (lv_at hl 0 rfl) ?_
      refine lv_iconst (v := (0 : Int32)) hx hb dX9_again_56 rfl ?_
      obtain ⟨hk2, hf⟩ := zc_s hf
      obtain ⟨σ3, eσ3, hf⟩ := zl_s hf
      refine x_putI E hR hS hk2 ok9 3 (Nat.le_of_ble_eq_true rfl) rfl fl_X9_172 (Or.inl rfl) rfl rfl dX9_again_57 (fun H locs hR hS => ?_)
      rw [← eσ3] at hR
      refine lv_aload_n hx hb dX9_again_60 rfl (lv_at hl 0 rfl) ?_
      obtain ⟨b4, hb4, hf⟩ := zr_s hf
      refine x_getR E hR (by rw [eσ3]; exact hk2) hb4 ok9 (Nat.le_of_ble_eq_true rfl) rfl fl_X9_7 dX9_again_61 ?_
      obtain ⟨r5, σ6, hcr5, hf⟩ := zq_s hf
      refine xS (As := [.ref (gB g + b4)]) (rest := []) (st1 := [.int r5]) E hR hS hl (C_X9_manyOf hcr5) lb_X9_manyOf ls_X9_manyOf ml_X9_175 ⟨Nat.le_of_ble_eq_true rfl, Nat.le_of_ble_eq_true rfl⟩ rfl rfl rfl (Nat.le_of_ble_eq_true rfl) dX9_again_64 ⟨hc, hs⟩ (fun H locs hR hS => ?_)
      obtain ⟨hr1, hs1⟩ := Prod.mk.inj (Option.some.inj hf)
      exact xr_i E hR hS rfl (by rw [hr1]) hs1.symm hc hs dX9_again_67
    · have hf := ite_n hq1 hf
      refine lv_aload_n hx hb dX9_again_32 rfl (lv_at hl 0 rfl) ?_
      obtain ⟨hk7, hf⟩ := zc_s hf
      obtain ⟨b8, hb8, hf⟩ := zr_s hf
      refine x_getR E hR hk7 hb8 ok9 (Nat.le_of_ble_eq_true rfl) rfl fl_X9_7 dX9_again_33 ?_
      refine lv_iload_n hx hb dX9_again_36 rfl (lv_at hl 2 rfl) ?_
      refine lv_aload_n hx hb dX9_again_37 rfl (lv_at hl 0 rfl) ?_
      obtain ⟨b9, hb9, hf⟩ := zr_s hf
      refine x_getR E hR hk7 hb9 ok9 (Nat.le_of_ble_eq_true rfl) rfl fl_X9_19 dX9_again_38 ?_
      refine lv_bipush (v := (100 : Int32)) hx hb dX9_again_41 rfl ?_
      refine lv_iload_n hx hb dX9_again_43 rfl (lv_at hl 1 rfl) ?_
      refine lv_imul hx hb dX9_again_44 ?_
      refine lv_iload_n hx hb dX9_again_45 rfl (lv_at hl 2 rfl) ?_
      refine lv_iadd hx hb dX9_again_46 ?_
      obtain ⟨hk10, hf⟩ := zc_s hf
      refine x_ild E hR hk10 dX9_again_47 ?_
      obtain ⟨hk11, hf⟩ := zc_s hf
      obtain ⟨σ12, eσ12, hf⟩ := zl_s hf
      refine x_ist E hR hS hk11 dX9_again_48 (fun H locs hR hS => ?_)
      rw [← eσ12] at hR
      refine lv_iinc (v := (v2 + (1 : Int32))) (lv' := [(2, .int (v2 + (1 : Int32))), (0, .ref (gB g + v0)), (1, .int v1)]) hx hb dX9_again_49 hl (k := 2) rfl rfl (Nat.le_of_ble_eq_true rfl) rfl (fun ls hl => ?_)
      refine lv_goto (tgt := 26) hx hb dX9_again_52 (by decide) ?_
      exact ih _ _ _ _ _ _ hf p e s m args below meth c _ _ _ _ _ E hR hS (lv_sub hl [1, 2, 0] rfl) hc hs
set_option maxRecDepth 100000 in
def f_X9_again (v0 : Nat) (v1 : Int32) (σ : Mm) : Option (Int32 × Mm) :=
  zcb (f_X9_in ((v1).toInt64) (0 : Int64) (1 : Int64) σ) (fun r13 σ14 => if r13 = 0 then (some ((-1 : Int32), σ14)) else (zck (kO σ14 v0 9) (zrb (mR σ14 v0 6) (fun b17 => zck (kA σ14 2 b17 v1) (if (mD σ14 b17 (ix v1)) = 0 then (some ((-3 : Int32), σ14)) else (f_X9_again_26 1000 v0 v1 (0 : Int32) σ14))))))
set_option maxRecDepth 100000 in
set_option maxHeartbeats 4000000 in
theorem V_X9_again_0 {g : GG} (v0 : Nat) (v1 : Int32) (σ : Mm) (r : Int32) (σ' : Mm) (hf : f_X9_again v0 v1 σ = some (r, σ')) : VJ g RX9 cX9_again 3 (some .int) false rm_X9_again (some (.int r)) σ' (0) (0) 0 [(0, .ref (gB g + v0)), (1, .int v1)] [] σ := by
  intro p e s m args below meth c H locs cells slots ls E hR hS hl hc hs
  obtain ⟨hx, hb, hml, hr, hlocks, hown, hts, hin, hT⟩ := id E
  unfold f_X9_again at hf
  refine lv_iload_n hx hb dX9_again_0 rfl (lv_at hl 1 rfl) ?_
  refine lv_i2l (v := (v1).toInt64) hx hb dX9_again_1 rfl ?_
  refine lv_lconst (v := (0 : Int64)) hx hb dX9_again_2 rfl ?_
  refine lv_lconst (v := (1 : Int64)) hx hb dX9_again_3 rfl ?_
  obtain ⟨r13, σ14, hcr13, hf⟩ := zq_s hf
  refine xS (As := [.long ((v1).toInt64), .long (0 : Int64), .long (1 : Int64)]) (rest := []) (st1 := [.int r13]) E hR hS hl (C_X9_in hcr13) lb_X9_in ls_X9_in ml_X9_121 ⟨Nat.le_of_ble_eq_true rfl, Nat.le_of_ble_eq_true rfl⟩ rfl rfl rfl (Nat.le_of_ble_eq_true rfl) dX9_again_4 ⟨hc, hs⟩ (fun H locs hR hS => ?_)
  refine lv_if_ne (tgt := 12) hx hb dX9_again_7 (by decide) (fun hq15 => ?_) (fun hq15 => ?_)
  · have hf := ite_n hq15 hf
    refine lv_aload_n hx hb dX9_again_12 rfl (lv_at hl 0 rfl) ?_
    obtain ⟨hk16, hf⟩ := zc_s hf
    obtain ⟨b17, hb17, hf⟩ := zr_s hf
    refine x_getR E hR hk16 hb17 ok9 (Nat.le_of_ble_eq_true rfl) rfl fl_X9_22 dX9_again_13 ?_
    refine lv_iload_n hx hb dX9_again_16 rfl (lv_at hl 1 rfl) ?_
    obtain ⟨hk18, hf⟩ := zc_s hf
    refine x_zld E hR hk18 dX9_again_17 ?_
    refine lv_if_ne (tgt := 24) hx hb dX9_again_18 (by decide) (fun hq19 => ?_) (fun hq19 => ?_)
    · have hf := ite_n hq19 hf
      refine lv_iconst (v := (0 : Int32)) hx hb dX9_again_24 rfl ?_
      refine lv_istore_n (lv' := [(2, .int (0 : Int32)), (0, .ref (gB g + v0)), (1, .int v1)]) hx hb dX9_again_25 rfl hl (Nat.le_of_ble_eq_true rfl) rfl (fun ls hl => ?_)
      exact V_X9_again_26  1000 _ _ _ _ _ _ hf p e s m args below meth c _ _ _ _ _ E hR hS (lv_sub hl [1, 2, 0] rfl) hc hs
    · have hf := ite_p hq19 hf
      refine lv_bipush (v := (-3 : Int32)) hx hb dX9_again_21 rfl ?_
      obtain ⟨hr1, hs1⟩ := Prod.mk.inj (Option.some.inj hf)
      exact xr_i E hR hS rfl (by rw [hr1]) hs1.symm hc hs dX9_again_23
  · have hf := ite_p hq15 hf
    refine lv_iconst (v := (-1 : Int32)) hx hb dX9_again_10 rfl ?_
    obtain ⟨hr1, hs1⟩ := Prod.mk.inj (Option.some.inj hf)
    exact xr_i E hR hS rfl (by rw [hr1]) hs1.symm hc hs dX9_again_11
theorem C_X9_again {g : GG} {v0 : Nat} {v1 : Int32} {σ : Mm} {r : Int32} {σ' : Mm} (hf : f_X9_again v0 v1 σ = some (r, σ')) : Ct g yX9_again cX9_again 3 (some .int) rm_X9_again [.ref (gB g + v0), .int v1] σ (some (.int r)) σ' :=
  Ct.of false (by decide +kernel) (fun h => by cases h) (Nat.le_of_ble_eq_true rfl) (V_X9_again_0 _ _ _ _ _ hf)
abbrev rm_X9_isSame : Room := { frames := 0, cells := 0, slots := 0, locals := 0 }
set_option maxRecDepth 100000 in
def f_X9_isSame (v0 : Nat) (v1 : Int32) (σ : Mm) : Option (Int32 × Mm) :=
  zck (kO σ v0 9) (zrb (mR σ v0 0) (fun b2 => zck (kA σ 1 b2 v1) (if (mD σ b2 (ix v1)) = (-9 : Int32) then (some ((0 : Int32), σ)) else (zrb (mR σ v0 1) (fun b5 => zck (kA σ 1 b5 v1) (if (mD σ b5 (ix v1)) = (-9 : Int32) then (some ((0 : Int32), σ)) else (zrb (mR σ v0 14) (fun b8 => zck (kA σ 1 b8 v1) (zck (kA σ 1 b8 ((100 : Int32) + v1)) (if (mD σ b8 (ix v1)) = (mD σ b8 (ix ((100 : Int32) + v1))) then (some ((1 : Int32), σ)) else (some ((0 : Int32), σ))))))))))))
set_option maxRecDepth 100000 in
set_option maxHeartbeats 4000000 in
theorem V_X9_isSame_0 {g : GG} (v0 : Nat) (v1 : Int32) (σ : Mm) (r : Int32) (σ' : Mm) (hf : f_X9_isSame v0 v1 σ = some (r, σ')) : VJ g RX9 cX9_isSame 2 (some .boolean) false rm_X9_isSame (some (.int r)) σ' (0) (0) 0 [(0, .ref (gB g + v0)), (1, .int v1)] [] σ := by
  intro p e s m args below meth c H locs cells slots ls E hR hS hl hc hs
  obtain ⟨hx, hb, hml, hr, hlocks, hown, hts, hin, hT⟩ := id E
  unfold f_X9_isSame at hf
  refine lv_aload_n hx hb dX9_isSame_0 rfl (lv_at hl 0 rfl) ?_
  obtain ⟨hk1, hf⟩ := zc_s hf
  obtain ⟨b2, hb2, hf⟩ := zr_s hf
  refine x_getR E hR hk1 hb2 ok9 (Nat.le_of_ble_eq_true rfl) rfl fl_X9_7 dX9_isSame_1 ?_
  refine lv_iload_n hx hb dX9_isSame_4 rfl (lv_at hl 1 rfl) ?_
  obtain ⟨hk3, hf⟩ := zc_s hf
  refine x_ild E hR hk3 dX9_isSame_5 ?_
  refine lv_bipush (v := (-9 : Int32)) hx hb dX9_isSame_6 rfl ?_
  refine lv_icmp_eq (tgt := 44) hx hb dX9_isSame_8 (by decide) (fun hq4 => ?_) (fun hq4 => ?_)
  · have hf := ite_p hq4 hf
    refine lv_iconst (v := (0 : Int32)) hx hb dX9_isSame_44 rfl ?_
    obtain ⟨hr1, hs1⟩ := Prod.mk.inj (Option.some.inj hf)
    exact xr_z E hR hS rfl rfl (by rw [hr1]) hs1.symm hc hs dX9_isSame_45
  · have hf := ite_n hq4 hf
    refine lv_aload_n hx hb dX9_isSame_11 rfl (lv_at hl 0 rfl) ?_
    obtain ⟨b5, hb5, hf⟩ := zr_s hf
    refine x_getR E hR hk1 hb5 ok9 (Nat.le_of_ble_eq_true rfl) rfl fl_X9_13 dX9_isSame_12 ?_
    refine lv_iload_n hx hb dX9_isSame_15 rfl (lv_at hl 1 rfl) ?_
    obtain ⟨hk6, hf⟩ := zc_s hf
    refine x_ild E hR hk6 dX9_isSame_16 ?_
    refine lv_bipush (v := (-9 : Int32)) hx hb dX9_isSame_17 rfl ?_
    refine lv_icmp_eq (tgt := 44) hx hb dX9_isSame_19 (by decide) (fun hq7 => ?_) (fun hq7 => ?_)
    · have hf := ite_p hq7 hf
      refine lv_iconst (v := (0 : Int32)) hx hb dX9_isSame_44 rfl ?_
      obtain ⟨hr1, hs1⟩ := Prod.mk.inj (Option.some.inj hf)
      exact xr_z E hR hS rfl rfl (by rw [hr1]) hs1.symm hc hs dX9_isSame_45
    · have hf := ite_n hq7 hf
      refine lv_aload_n hx hb dX9_isSame_22 rfl (lv_at hl 0 rfl) ?_
      obtain ⟨b8, hb8, hf⟩ := zr_s hf
      refine x_getR E hR hk1 hb8 ok9 (Nat.le_of_ble_eq_true rfl) rfl fl_X9_47 dX9_isSame_23 ?_
      refine lv_iload_n hx hb dX9_isSame_26 rfl (lv_at hl 1 rfl) ?_
      obtain ⟨hk9, hf⟩ := zc_s hf
      refine x_ild E hR hk9 dX9_isSame_27 ?_
      refine lv_aload_n hx hb dX9_isSame_28 rfl (lv_at hl 0 rfl) ?_
      refine x_getR E hR hk1 hb8 ok9 (Nat.le_of_ble_eq_true rfl) rfl fl_X9_47 dX9_isSame_29 ?_
      refine lv_bipush (v := (100 : Int32)) hx hb dX9_isSame_32 rfl ?_
      refine lv_iload_n hx hb dX9_isSame_34 rfl (lv_at hl 1 rfl) ?_
      refine lv_iadd hx hb dX9_isSame_35 ?_
      obtain ⟨hk10, hf⟩ := zc_s hf
      refine x_ild E hR hk10 dX9_isSame_36 ?_
      refine lv_icmp_ne (tgt := 44) hx hb dX9_isSame_37 (by decide) (fun hq11 => ?_) (fun hq11 => ?_)
      · have hf := ite_n hq11 hf
        refine lv_iconst (v := (0 : Int32)) hx hb dX9_isSame_44 rfl ?_
        obtain ⟨hr1, hs1⟩ := Prod.mk.inj (Option.some.inj hf)
        exact xr_z E hR hS rfl rfl (by rw [hr1]) hs1.symm hc hs dX9_isSame_45
      · have hf := ite_p hq11 hf
        refine lv_iconst (v := (1 : Int32)) hx hb dX9_isSame_40 rfl ?_
        refine lv_goto (tgt := 45) hx hb dX9_isSame_41 (by decide) ?_
        obtain ⟨hr1, hs1⟩ := Prod.mk.inj (Option.some.inj hf)
        exact xr_z E hR hS rfl rfl (by rw [hr1]) hs1.symm hc hs dX9_isSame_45
theorem C_X9_isSame {g : GG} {v0 : Nat} {v1 : Int32} {σ : Mm} {r : Int32} {σ' : Mm} (hf : f_X9_isSame v0 v1 σ = some (r, σ')) : Ct g yX9_isSame cX9_isSame 2 (some .boolean) rm_X9_isSame [.ref (gB g + v0), .int v1] σ (some (.int r)) σ' :=
  Ct.of false (by decide +kernel) (fun h => by cases h) (Nat.le_of_ble_eq_true rfl) (V_X9_isSame_0 _ _ _ _ _ hf)
abbrev rm_X9_isPassed : Room := { frames := 1, cells := 0, slots := 0, locals := 21 }
set_option maxRecDepth 100000 in
def f_X9_isPassed_52 (k_29 : Nat → Int32 → Int32 → Mm → Option (Int32 × Mm)) (v0 : Nat) (v3 : Int32) (w0 : Int32) (σ : Mm) : Option (Int32 × Mm) :=
  zck (kO σ v0 9) (zrb (mR σ v0 7) (fun b2 => zck (kA σ 1 b2 v3) (k_29 v0 w0 (mD σ b2 (ix v3)) σ)))
set_option maxRecDepth 100000 in
set_option maxHeartbeats 4000000 in
theorem V_X9_isPassed_52 {g : GG} (k_29 : Nat → Int32 → Int32 → Mm → Option (Int32 × Mm)) (hk_29 : ∀ (v0 : Nat) (v2 : Int32) (v3 : Int32) (σ : Mm) (r : Int32) (σ' : Mm), k_29 v0 v2 v3 σ = some (r, σ') → VJ g RX9 cX9_isPassed 4 (some .boolean) false rm_X9_isPassed (some (.int r)) σ' (0) (0) 29 [(0, .ref (gB g + v0)), (2, .int v2), (3, .int v3)] [] σ) (v0 : Nat) (v3 : Int32) (w0 : Int32) (σ : Mm) (r : Int32) (σ' : Mm) (hf : f_X9_isPassed_52 k_29 v0 v3 w0 σ = some (r, σ')) : VJ g RX9 cX9_isPassed 4 (some .boolean) false rm_X9_isPassed (some (.int r)) σ' (0) (0) 52 [(0, .ref (gB g + v0)), (3, .int v3)] [.int w0] σ := by
  intro p e s m args below meth c H locs cells slots ls E hR hS hl hc hs
  obtain ⟨hx, hb, hml, hr, hlocks, hown, hts, hin, hT⟩ := id E
  unfold f_X9_isPassed_52 at hf
  refine lv_istore_n (lv' := [(2, .int w0), (0, .ref (gB g + v0)), (3, .int v3)]) hx hb dX9_isPassed_52 rfl hl (Nat.le_of_ble_eq_true rfl) rfl (fun ls hl => ?_)
  refine lv_aload_n hx hb dX9_isPassed_53 rfl (lv_at hl 1 rfl) ?_
  obtain ⟨hk1, hf⟩ := zc_s hf
  obtain ⟨b2, hb2, hf⟩ := zr_s hf
  refine x_getR E hR hk1 hb2 ok9 (Nat.le_of_ble_eq_true rfl) rfl fl_X9_26 dX9_isPassed_54 ?_
  refine lv_iload_n hx hb dX9_isPassed_57 rfl (lv_at hl 2 rfl) ?_
  obtain ⟨hk3, hf⟩ := zc_s hf
  refine x_ild E hR hk3 dX9_isPassed_58 ?_
  refine lv_istore_n (lv' := [(3, .int (mD σ b2 (ix v3))), (2, .int w0), (0, .ref (gB g + v0))]) hx hb dX9_isPassed_59 rfl hl (Nat.le_of_ble_eq_true rfl) rfl (fun ls hl => ?_)
  refine lv_goto (tgt := 29) hx hb dX9_isPassed_60 (by decide) ?_
  exact hk_29 _ _ _ _ _ _ hf p e s m args below meth c _ _ _ _ _ E hR hS (lv_sub hl [2, 1, 0] rfl) hc hs
set_option maxRecDepth 100000 in
def f_X9_isPassed_51 (k_29 : Nat → Int32 → Int32 → Mm → Option (Int32 × Mm)) (v0 : Nat) (v3 : Int32) (σ : Mm) : Option (Int32 × Mm) :=
  f_X9_isPassed_52 k_29 v0 v3 (0 : Int32) σ
set_option maxRecDepth 100000 in
set_option maxHeartbeats 4000000 in
theorem V_X9_isPassed_51 {g : GG} (k_29 : Nat → Int32 → Int32 → Mm → Option (Int32 × Mm)) (hk_29 : ∀ (v0 : Nat) (v2 : Int32) (v3 : Int32) (σ : Mm) (r : Int32) (σ' : Mm), k_29 v0 v2 v3 σ = some (r, σ') → VJ g RX9 cX9_isPassed 4 (some .boolean) false rm_X9_isPassed (some (.int r)) σ' (0) (0) 29 [(0, .ref (gB g + v0)), (2, .int v2), (3, .int v3)] [] σ) (v0 : Nat) (v3 : Int32) (σ : Mm) (r : Int32) (σ' : Mm) (hf : f_X9_isPassed_51 k_29 v0 v3 σ = some (r, σ')) : VJ g RX9 cX9_isPassed 4 (some .boolean) false rm_X9_isPassed (some (.int r)) σ' (0) (0) 51 [(0, .ref (gB g + v0)), (3, .int v3)] [] σ := by
  intro p e s m args below meth c H locs cells slots ls E hR hS hl hc hs
  obtain ⟨hx, hb, hml, hr, hlocks, hown, hts, hin, hT⟩ := id E
  unfold f_X9_isPassed_51 at hf
  refine lv_iconst (v := (0 : Int32)) hx hb dX9_isPassed_51 rfl ?_
  exact V_X9_isPassed_52 _ hk_29 _ _ _ _ _ _ hf p e s m args below meth c _ _ _ _ _ E hR hS (lv_sub hl [0, 1] rfl) hc hs
set_option maxRecDepth 100000 in
def f_X9_isPassed_29 : Nat → Nat → Int32 → Int32 → Mm → Option (Int32 × Mm)
  | 0, _, _, _, _ => none
  | n + 1, v0, v2, v3, σ =>
    if v3 = (-9 : Int32) then (zck (zb v2) (some (v2, σ))) else (if v2 = 0 then (f_X9_isPassed_51 (f_X9_isPassed_29 n) v0 v3 σ) else (zck (kO σ v0 9) (zcb (f_X9_isSame v0 v3 σ) (fun r8 σ9 => if r8 = 0 then (f_X9_isPassed_52 (f_X9_isPassed_29 n) v0 v3 (1 : Int32) σ9) else (f_X9_isPassed_51 (f_X9_isPassed_29 n) v0 v3 σ9)))))
set_option maxRecDepth 100000 in
set_option maxHeartbeats 4000000 in
theorem V_X9_isPassed_29 {g : GG} : ∀ (n : Nat) (v0 : Nat) (v2 : Int32) (v3 : Int32) (σ : Mm) (r : Int32) (σ' : Mm), f_X9_isPassed_29 n v0 v2 v3 σ = some (r, σ') → VJ g RX9 cX9_isPassed 4 (some .boolean) false rm_X9_isPassed (some (.int r)) σ' (0) (0) 29 [(0, .ref (gB g + v0)), (2, .int v2), (3, .int v3)] [] σ := by
  intro n
  induction n with
  | zero =>
    intro v0 v2 v3 σ r σ' hf
    unfold f_X9_isPassed_29 at hf
    cases hf
  | succ n ih =>
    intro v0 v2 v3 σ r σ' hf p e s m args below meth c H locs cells slots ls E hR hS hl hc hs
    obtain ⟨hx, hb, hml, hr, hlocks, hown, hts, hin, hT⟩ := id E
    unfold f_X9_isPassed_29 at hf
    refine lv_iload_n hx hb dX9_isPassed_29 rfl (lv_at hl 2 rfl) ?_
    refine lv_bipush (v := (-9 : Int32)) hx hb dX9_isPassed_30 rfl ?_
    refine lv_icmp_eq (tgt := 63) hx hb dX9_isPassed_32 (by decide) (fun hq4 => ?_) (fun hq4 => ?_)
    · have hf := ite_p hq4 hf
      refine lv_iload_n hx hb dX9_isPassed_63 rfl (lv_at hl 1 rfl) ?_
      obtain ⟨hz5, hf⟩ := zc_s hf
      obtain ⟨hr1, hs1⟩ := Prod.mk.inj (Option.some.inj hf)
      exact xr_z E hR hS rfl (zb_s hz5) (by rw [hr1]) hs1.symm hc hs dX9_isPassed_64
    · have hf := ite_n hq4 hf
      refine lv_iload_n hx hb dX9_isPassed_35 rfl (lv_at hl 1 rfl) ?_
      refine lv_if_eq (tgt := 51) hx hb dX9_isPassed_36 (by decide) (fun hq6 => ?_) (fun hq6 => ?_)
      · have hf := ite_p hq6 hf
        exact V_X9_isPassed_51 _ ih _ _ _ _ _ hf p e s m args below meth c _ _ _ _ _ E hR hS (lv_sub hl [0, 2] rfl) hc hs
      · have hf := ite_n hq6 hf
        refine lv_aload_n hx hb dX9_isPassed_39 rfl (lv_at hl 0 rfl) ?_
        refine lv_iload_n hx hb dX9_isPassed_40 rfl (lv_at hl 2 rfl) ?_
        obtain ⟨hk7, hf⟩ := zc_s hf
        obtain ⟨r8, σ9, hcr8, hf⟩ := zq_s hf
        refine xV (As := [.int v3]) (rest := []) (st1 := [.int r8]) E hR hS hl (C_X9_isSame hcr8) hk7 ok9 lb_X9_isSame lv_X9_isSame ml_X9_296 ⟨Nat.le_of_ble_eq_true rfl, Nat.le_of_ble_eq_true rfl⟩ rfl rfl rfl (Nat.le_of_ble_eq_true rfl) dX9_isPassed_41 ⟨hc, hs⟩ (fun H locs hR hS => ?_)
        refine lv_if_ne (tgt := 51) hx hb dX9_isPassed_44 (by decide) (fun hq10 => ?_) (fun hq10 => ?_)
        · have hf := ite_n hq10 hf
          exact V_X9_isPassed_51 _ ih _ _ _ _ _ hf p e s m args below meth c _ _ _ _ _ E hR hS (lv_sub hl [0, 2] rfl) hc hs
        · have hf := ite_p hq10 hf
          refine lv_iconst (v := (1 : Int32)) hx hb dX9_isPassed_47 rfl ?_
          refine lv_goto (tgt := 52) hx hb dX9_isPassed_48 (by decide) ?_
          exact V_X9_isPassed_52 _ ih _ _ _ _ _ _ hf p e s m args below meth c _ _ _ _ _ E hR hS (lv_sub hl [0, 2] rfl) hc hs
set_option maxRecDepth 100000 in
def f_X9_isPassed_28 (v0 : Nat) (v2 : Int32) (w0 : Int32) (σ : Mm) : Option (Int32 × Mm) :=
  f_X9_isPassed_29 1000 v0 v2 w0 σ
set_option maxRecDepth 100000 in
set_option maxHeartbeats 4000000 in
theorem V_X9_isPassed_28 {g : GG} (v0 : Nat) (v2 : Int32) (w0 : Int32) (σ : Mm) (r : Int32) (σ' : Mm) (hf : f_X9_isPassed_28 v0 v2 w0 σ = some (r, σ')) : VJ g RX9 cX9_isPassed 4 (some .boolean) false rm_X9_isPassed (some (.int r)) σ' (0) (0) 28 [(0, .ref (gB g + v0)), (2, .int v2)] [.int w0] σ := by
  intro p e s m args below meth c H locs cells slots ls E hR hS hl hc hs
  obtain ⟨hx, hb, hml, hr, hlocks, hown, hts, hin, hT⟩ := id E
  unfold f_X9_isPassed_28 at hf
  refine lv_istore_n (lv' := [(3, .int w0), (0, .ref (gB g + v0)), (2, .int v2)]) hx hb dX9_isPassed_28 rfl hl (Nat.le_of_ble_eq_true rfl) rfl (fun ls hl => ?_)
  exact V_X9_isPassed_29  1000 _ _ _ _ _ _ hf p e s m args below meth c _ _ _ _ _ E hR hS (lv_sub hl [1, 2, 0] rfl) hc hs
set_option maxRecDepth 100000 in
def f_X9_isPassed (v0 : Nat) (v1 : Int32) (σ : Mm) : Option (Int32 × Mm) :=
  zck (kO σ v0 9) (zcb (f_X9_isSame v0 v1 σ) (fun r12 σ13 => zck (kO σ13 v0 9) (zrb (mR σ13 v0 0) (fun b15 => zck (kA σ13 1 b15 v1) (if (mD σ13 b15 (ix v1)) = (-9 : Int32) then (f_X9_isPassed_28 v0 r12 (-9 : Int32) σ13) else (zrb (mR σ13 v0 7) (fun b18 => zck (kA σ13 1 b18 v1) (f_X9_isPassed_28 v0 r12 (mD σ13 b18 (ix v1)) σ13))))))))
set_option maxRecDepth 100000 in
set_option maxHeartbeats 4000000 in
theorem V_X9_isPassed_0 {g : GG} (v0 : Nat) (v1 : Int32) (σ : Mm) (r : Int32) (σ' : Mm) (hf : f_X9_isPassed v0 v1 σ = some (r, σ')) : VJ g RX9 cX9_isPassed 4 (some .boolean) false rm_X9_isPassed (some (.int r)) σ' (0) (0) 0 [(0, .ref (gB g + v0)), (1, .int v1)] [] σ := by
  intro p e s m args below meth c H locs cells slots ls E hR hS hl hc hs
  obtain ⟨hx, hb, hml, hr, hlocks, hown, hts, hin, hT⟩ := id E
  unfold f_X9_isPassed at hf
  refine lv_aload_n hx hb dX9_isPassed_0 rfl (lv_at hl 0 rfl) ?_
  refine lv_iload_n hx hb dX9_isPassed_1 rfl (lv_at hl 1 rfl) ?_
  obtain ⟨hk11, hf⟩ := zc_s hf
  obtain ⟨r12, σ13, hcr12, hf⟩ := zq_s hf
  refine xV (As := [.int v1]) (rest := []) (st1 := [.int r12]) E hR hS hl (C_X9_isSame hcr12) hk11 ok9 lb_X9_isSame lv_X9_isSame ml_X9_296 ⟨Nat.le_of_ble_eq_true rfl, Nat.le_of_ble_eq_true rfl⟩ rfl rfl rfl (Nat.le_of_ble_eq_true rfl) dX9_isPassed_2 ⟨hc, hs⟩ (fun H locs hR hS => ?_)
  refine lv_istore_n (lv' := [(2, .int r12), (0, .ref (gB g + v0)), (1, .int v1)]) hx hb dX9_isPassed_5 rfl hl (Nat.le_of_ble_eq_true rfl) rfl (fun ls hl => ?_)
  refine lv_aload_n hx hb dX9_isPassed_6 rfl (lv_at hl 1 rfl) ?_
  obtain ⟨hk14, hf⟩ := zc_s hf
  obtain ⟨b15, hb15, hf⟩ := zr_s hf
  refine x_getR E hR hk14 hb15 ok9 (Nat.le_of_ble_eq_true rfl) rfl fl_X9_7 dX9_isPassed_7 ?_
  refine lv_iload_n hx hb dX9_isPassed_10 rfl (lv_at hl 2 rfl) ?_
  obtain ⟨hk16, hf⟩ := zc_s hf
  refine x_ild E hR hk16 dX9_isPassed_11 ?_
  refine lv_bipush (v := (-9 : Int32)) hx hb dX9_isPassed_12 rfl ?_
  refine lv_icmp_ne (tgt := 22) hx hb dX9_isPassed_14 (by decide) (fun hq17 => ?_) (fun hq17 => ?_)
  · have hf := ite_n hq17 hf
    refine lv_aload_n hx hb dX9_isPassed_22 rfl (lv_at hl 1 rfl) ?_
    obtain ⟨b18, hb18, hf⟩ := zr_s hf
    refine x_getR E hR hk14 hb18 ok9 (Nat.le_of_ble_eq_true rfl) rfl fl_X9_26 dX9_isPassed_23 ?_
    refine lv_iload_n hx hb dX9_isPassed_26 rfl (lv_at hl 2 rfl) ?_
    obtain ⟨hk19, hf⟩ := zc_s hf
    refine x_ild E hR hk19 dX9_isPassed_27 ?_
    exact V_X9_isPassed_28  _ _ _ _ _ _ hf p e s m args below meth c _ _ _ _ _ E hR hS (lv_sub hl [1, 0] rfl) hc hs
  · have hf := ite_p hq17 hf
    refine lv_bipush (v := (-9 : Int32)) hx hb dX9_isPassed_17 rfl ?_
    refine lv_goto (tgt := 28) hx hb dX9_isPassed_19 (by decide) ?_
    exact V_X9_isPassed_28  _ _ _ _ _ _ hf p e s m args below meth c _ _ _ _ _ E hR hS (lv_sub hl [1, 0] rfl) hc hs
theorem C_X9_isPassed {g : GG} {v0 : Nat} {v1 : Int32} {σ : Mm} {r : Int32} {σ' : Mm} (hf : f_X9_isPassed v0 v1 σ = some (r, σ')) : Ct g yX9_isPassed cX9_isPassed 4 (some .boolean) rm_X9_isPassed [.ref (gB g + v0), .int v1] σ (some (.int r)) σ' :=
  Ct.of false (by decide +kernel) (fun h => by cases h) (Nat.le_of_ble_eq_true rfl) (V_X9_isPassed_0 _ _ _ _ _ hf)
abbrev rm_X9_differ : Room := { frames := 4, cells := 0, slots := 0, locals := 96 }
set_option maxRecDepth 100000 in
def f_X9_differ_201 (k_104 : Nat → Int32 → Int32 → Int32 → Int32 → Int32 → Int32 → Mm → Option (Int32 × Mm)) (v0 : Nat) (v2 : Int32) (v3 : Int32) (v4 : Int32) (v5 : Int32) (v7 : Int32) (w0 : Int32) (w1 : Int32) (σ : Mm) : Option (Int32 × Mm) :=
  k_104 v0 v2 v3 v4 v5 (w0 + w1) (v7 + (-1 : Int32)) σ
set_option maxRecDepth 100000 in
set_option maxHeartbeats 4000000 in
theorem V_X9_differ_201 {g : GG} (k_104 : Nat → Int32 → Int32 → Int32 → Int32 → Int32 → Int32 → Mm → Option (Int32 × Mm)) (hk_104 : ∀ (v0 : Nat) (v2 : Int32) (v3 : Int32) (v4 : Int32) (v5 : Int32) (v6 : Int32) (v7 : Int32) (σ : Mm) (r : Int32) (σ' : Mm), k_104 v0 v2 v3 v4 v5 v6 v7 σ = some (r, σ') → VJ g RX9 cX9_differ 8 (some .int) false rm_X9_differ (some (.int r)) σ' (0) (0) 104 [(0, .ref (gB g + v0)), (2, .int v2), (3, .int v3), (4, .int v4), (5, .int v5), (6, .int v6), (7, .int v7)] [] σ) (v0 : Nat) (v2 : Int32) (v3 : Int32) (v4 : Int32) (v5 : Int32) (v7 : Int32) (w0 : Int32) (w1 : Int32) (σ : Mm) (r : Int32) (σ' : Mm) (hf : f_X9_differ_201 k_104 v0 v2 v3 v4 v5 v7 w0 w1 σ = some (r, σ')) : VJ g RX9 cX9_differ 8 (some .int) false rm_X9_differ (some (.int r)) σ' (0) (0) 201 [(0, .ref (gB g + v0)), (2, .int v2), (3, .int v3), (4, .int v4), (5, .int v5), (7, .int v7)] [.int w1, .int w0] σ := by
  intro p e s m args below meth c H locs cells slots ls E hR hS hl hc hs
  obtain ⟨hx, hb, hml, hr, hlocks, hown, hts, hin, hT⟩ := id E
  unfold f_X9_differ_201 at hf
  refine lv_iadd hx hb dX9_differ_201 ?_
  refine lv_istore (lv' := [(6, .int (w0 + w1)), (0, .ref (gB g + v0)), (2, .int v2), (3, .int v3), (4, .int v4), (5, .int v5), (7, .int v7)]) hx hb dX9_differ_202 hl (Nat.le_of_ble_eq_true rfl) rfl (fun ls hl => ?_)
  refine lv_iinc (v := (v7 + (-1 : Int32))) (lv' := [(7, .int (v7 + (-1 : Int32))), (6, .int (w0 + w1)), (0, .ref (gB g + v0)), (2, .int v2), (3, .int v3), (4, .int v4), (5, .int v5)]) hx hb dX9_differ_204 hl (k := 6) rfl rfl (Nat.le_of_ble_eq_true rfl) rfl (fun ls hl => ?_)
  refine lv_goto (tgt := 104) hx hb dX9_differ_207 (by decide) ?_
  exact hk_104 _ _ _ _ _ _ _ _ _ _ hf p e s m args below meth c _ _ _ _ _ E hR hS (lv_sub hl [2, 3, 4, 5, 6, 1, 0] rfl) hc hs
set_option maxRecDepth 100000 in
def f_X9_differ_176 (k_104 : Nat → Int32 → Int32 → Int32 → Int32 → Int32 → Int32 → Mm → Option (Int32 × Mm)) (v0 : Nat) (v2 : Int32) (v3 : Int32) (v4 : Int32) (v6 : Int32) (v7 : Int32) (w0 : Int32) (w1 : Int32) (σ : Mm) : Option (Int32 × Mm) :=
  zck (kO σ v0 9) (zcb (f_X9_isPassed v0 v7 σ) (fun r2 σ3 => if r2 = 0 then (f_X9_differ_201 k_104 v0 v2 v3 v4 (w0 + w1) v7 v6 (0 : Int32) σ3) else (zck (kO σ3 v0 9) (zrb (mR σ3 v0 13) (fun b6 => zck (kA σ3 1 b6 v7) (f_X9_differ_201 k_104 v0 v2 v3 v4 (w0 + w1) v7 v6 (mD σ3 b6 (ix v7)) σ3))))))
set_option maxRecDepth 100000 in
set_option maxHeartbeats 4000000 in
theorem V_X9_differ_176 {g : GG} (k_104 : Nat → Int32 → Int32 → Int32 → Int32 → Int32 → Int32 → Mm → Option (Int32 × Mm)) (hk_104 : ∀ (v0 : Nat) (v2 : Int32) (v3 : Int32) (v4 : Int32) (v5 : Int32) (v6 : Int32) (v7 : Int32) (σ : Mm) (r : Int32) (σ' : Mm), k_104 v0 v2 v3 v4 v5 v6 v7 σ = some (r, σ') → VJ g RX9 cX9_differ 8 (some .int) false rm_X9_differ (some (.int r)) σ' (0) (0) 104 [(0, .ref (gB g + v0)), (2, .int v2), (3, .int v3), (4, .int v4), (5, .int v5), (6, .int v6), (7, .int v7)] [] σ) (v0 : Nat) (v2 : Int32) (v3 : Int32) (v4 : Int32) (v6 : Int32) (v7 : Int32) (w0 : Int32) (w1 : Int32) (σ : Mm) (r : Int32) (σ' : Mm) (hf : f_X9_differ_176 k_104 v0 v2 v3 v4 v6 v7 w0 w1 σ = some (r, σ')) : VJ g RX9 cX9_differ 8 (some .int) false rm_X9_differ (some (.int r)) σ' (0) (0) 176 [(0, .ref (gB g + v0)), (2, .int v2), (3, .int v3), (4, .int v4), (6, .int v6), (7, .int v7)] [.int w1, .int w0] σ := by
  intro p e s m args below meth c H locs cells slots ls E hR hS hl hc hs
  obtain ⟨hx, hb, hml, hr, hlocks, hown, hts, hin, hT⟩ := id E
  unfold f_X9_differ_176 at hf
  refine lv_iadd hx hb dX9_differ_176 ?_
  refine lv_istore (lv' := [(5, .int (w0 + w1)), (0, .ref (gB g + v0)), (2, .int v2), (3, .int v3), (4, .int v4), (6, .int v6), (7, .int v7)]) hx hb dX9_differ_177 hl (Nat.le_of_ble_eq_true rfl) rfl (fun ls hl => ?_)
  refine lv_iload hx hb dX9_differ_179 (lv_at hl 5 rfl) ?_
  refine lv_aload_n hx hb dX9_differ_181 rfl (lv_at hl 1 rfl) ?_
  refine lv_iload hx hb dX9_differ_182 (lv_at hl 6 rfl) ?_
  obtain ⟨hk1, hf⟩ := zc_s hf
  obtain ⟨r2, σ3, hcr2, hf⟩ := zq_s hf
  refine xV (As := [.int v7]) (rest := [.int v6]) (st1 := [.int r2, .int v6]) E hR hS hl (C_X9_isPassed hcr2) hk1 ok9 lb_X9_isPassed lv_X9_isPassed ml_X9_299 ⟨Nat.le_of_ble_eq_true rfl, Nat.le_of_ble_eq_true rfl⟩ rfl rfl rfl (Nat.le_of_ble_eq_true rfl) dX9_differ_184 ⟨hc, hs⟩ (fun H locs hR hS => ?_)
  refine lv_if_eq (tgt := 200) hx hb dX9_differ_187 (by decide) (fun hq4 => ?_) (fun hq4 => ?_)
  · have hf := ite_p hq4 hf
    refine lv_iconst (v := (0 : Int32)) hx hb dX9_differ_200 rfl ?_
    exact V_X9_differ_201 _ hk_104 _ _ _ _ _ _ _ _ _ _ _ hf p e s m args below meth c _ _ _ _ _ E hR hS (lv_sub hl [1, 2, 3, 4, 0, 6] rfl) hc hs
  · have hf := ite_n hq4 hf
    refine lv_aload_n hx hb dX9_differ_190 rfl (lv_at hl 1 rfl) ?_
    obtain ⟨hk5, hf⟩ := zc_s hf
    obtain ⟨b6, hb6, hf⟩ := zr_s hf
    refine x_getR E hR hk5 hb6 ok9 (Nat.le_of_ble_eq_true rfl) rfl fl_X9_44 dX9_differ_191 ?_
    refine lv_iload hx hb dX9_differ_194 (lv_at hl 6 rfl) ?_
    obtain ⟨hk7, hf⟩ := zc_s hf
    refine x_ild E hR hk7 dX9_differ_196 ?_
    refine lv_goto (tgt := 201) hx hb dX9_differ_197 (by decide) ?_
    exact V_X9_differ_201 _ hk_104 _ _ _ _ _ _ _ _ _ _ _ hf p e s m args below meth c _ _ _ _ _ E hR hS (lv_sub hl [1, 2, 3, 4, 0, 6] rfl) hc hs
set_option maxRecDepth 100000 in
def f_X9_differ_158 (k_104 : Nat → Int32 → Int32 → Int32 → Int32 → Int32 → Int32 → Mm → Option (Int32 × Mm)) (v0 : Nat) (v2 : Int32) (v3 : Int32) (v5 : Int32) (v6 : Int32) (v7 : Int32) (w0 : Int32) (σ : Mm) : Option (Int32 × Mm) :=
  zck (kO σ v0 9) (zcb (f_X9_isPassed v0 v7 σ) (fun r9 σ10 => if r9 = 0 then (f_X9_differ_176 k_104 v0 v2 v3 w0 v6 v7 v5 (0 : Int32) σ10) else (f_X9_differ_176 k_104 v0 v2 v3 w0 v6 v7 v5 (1 : Int32) σ10)))
set_option maxRecDepth 100000 in
set_option maxHeartbeats 4000000 in
theorem V_X9_differ_158 {g : GG} (k_104 : Nat → Int32 → Int32 → Int32 → Int32 → Int32 → Int32 → Mm → Option (Int32 × Mm)) (hk_104 : ∀ (v0 : Nat) (v2 : Int32) (v3 : Int32) (v4 : Int32) (v5 : Int32) (v6 : Int32) (v7 : Int32) (σ : Mm) (r : Int32) (σ' : Mm), k_104 v0 v2 v3 v4 v5 v6 v7 σ = some (r, σ') → VJ g RX9 cX9_differ 8 (some .int) false rm_X9_differ (some (.int r)) σ' (0) (0) 104 [(0, .ref (gB g + v0)), (2, .int v2), (3, .int v3), (4, .int v4), (5, .int v5), (6, .int v6), (7, .int v7)] [] σ) (v0 : Nat) (v2 : Int32) (v3 : Int32) (v5 : Int32) (v6 : Int32) (v7 : Int32) (w0 : Int32) (σ : Mm) (r : Int32) (σ' : Mm) (hf : f_X9_differ_158 k_104 v0 v2 v3 v5 v6 v7 w0 σ = some (r, σ')) : VJ g RX9 cX9_differ 8 (some .int) false rm_X9_differ (some (.int r)) σ' (0) (0) 158 [(0, .ref (gB g + v0)), (2, .int v2), (3, .int v3), (5, .int v5), (6, .int v6), (7, .int v7)] [.int w0] σ := by
  intro p e s m args below meth c H locs cells slots ls E hR hS hl hc hs
  obtain ⟨hx, hb, hml, hr, hlocks, hown, hts, hin, hT⟩ := id E
  unfold f_X9_differ_158 at hf
  refine lv_istore (lv' := [(4, .int w0), (0, .ref (gB g + v0)), (2, .int v2), (3, .int v3), (5, .int v5), (6, .int v6), (7, .int v7)]) hx hb dX9_differ_158 hl (Nat.le_of_ble_eq_true rfl) rfl (fun ls hl => ?_)
  refine lv_iload hx hb dX9_differ_160 (lv_at hl 4 rfl) ?_
  refine lv_aload_n hx hb dX9_differ_162 rfl (lv_at hl 1 rfl) ?_
  refine lv_iload hx hb dX9_differ_163 (lv_at hl 6 rfl) ?_
  obtain ⟨hk8, hf⟩ := zc_s hf
  obtain ⟨r9, σ10, hcr9, hf⟩ := zq_s hf
  refine xV (As := [.int v7]) (rest := [.int v5]) (st1 := [.int r9, .int v5]) E hR hS hl (C_X9_isPassed hcr9) hk8 ok9 lb_X9_isPassed lv_X9_isPassed ml_X9_299 ⟨Nat.le_of_ble_eq_true rfl, Nat.le_of_ble_eq_true rfl⟩ rfl rfl rfl (Nat.le_of_ble_eq_true rfl) dX9_differ_165 ⟨hc, hs⟩ (fun H locs hR hS => ?_)
  refine lv_if_eq (tgt := 175) hx hb dX9_differ_168 (by decide) (fun hq11 => ?_) (fun hq11 => ?_)
  · have hf := ite_p hq11 hf
    refine lv_iconst (v := (0 : Int32)) hx hb dX9_differ_175 rfl ?_
    exact V_X9_differ_176 _ hk_104 _ _ _ _ _ _ _ _ _ _ _ hf p e s m args below meth c _ _ _ _ _ E hR hS (lv_sub hl [1, 2, 3, 0, 5, 6] rfl) hc hs
  · have hf := ite_n hq11 hf
    refine lv_iconst (v := (1 : Int32)) hx hb dX9_differ_171 rfl ?_
    refine lv_goto (tgt := 176) hx hb dX9_differ_172 (by decide) ?_
    exact V_X9_differ_176 _ hk_104 _ _ _ _ _ _ _ _ _ _ _ hf p e s m args below meth c _ _ _ _ _ E hR hS (lv_sub hl [1, 2, 3, 0, 5, 6] rfl) hc hs
set_option maxRecDepth 100000 in
def f_X9_differ_132 (k_104 : Nat → Int32 → Int32 → Int32 → Int32 → Int32 → Int32 → Mm → Option (Int32 × Mm)) (v0 : Nat) (v2 : Int32) (v4 : Int32) (v5 : Int32) (v6 : Int32) (v7 : Int32) (w0 : Int32) (w1 : Int32) (σ : Mm) : Option (Int32 × Mm) :=
  zck (kO σ v0 9) (zrb (mR σ v0 0) (fun b13 => zck (kA σ 1 b13 v7) (zrb (mR σ v0 1) (fun b15 => zck (kA σ 1 b15 v7) (if (mD σ b13 (ix v7)) = (mD σ b15 (ix v7)) then (f_X9_differ_158 k_104 v0 v2 (w0 + w1) v5 v6 v7 v4 σ) else (f_X9_differ_158 k_104 v0 v2 (w0 + w1) v5 v6 v7 v7 σ))))))
set_option maxRecDepth 100000 in
set_option maxHeartbeats 4000000 in
theorem V_X9_differ_132 {g : GG} (k_104 : Nat → Int32 → Int32 → Int32 → Int32 → Int32 → Int32 → Mm → Option (Int32 × Mm)) (hk_104 : ∀ (v0 : Nat) (v2 : Int32) (v3 : Int32) (v4 : Int32) (v5 : Int32) (v6 : Int32) (v7 : Int32) (σ : Mm) (r : Int32) (σ' : Mm), k_104 v0 v2 v3 v4 v5 v6 v7 σ = some (r, σ') → VJ g RX9 cX9_differ 8 (some .int) false rm_X9_differ (some (.int r)) σ' (0) (0) 104 [(0, .ref (gB g + v0)), (2, .int v2), (3, .int v3), (4, .int v4), (5, .int v5), (6, .int v6), (7, .int v7)] [] σ) (v0 : Nat) (v2 : Int32) (v4 : Int32) (v5 : Int32) (v6 : Int32) (v7 : Int32) (w0 : Int32) (w1 : Int32) (σ : Mm) (r : Int32) (σ' : Mm) (hf : f_X9_differ_132 k_104 v0 v2 v4 v5 v6 v7 w0 w1 σ = some (r, σ')) : VJ g RX9 cX9_differ 8 (some .int) false rm_X9_differ (some (.int r)) σ' (0) (0) 132 [(0, .ref (gB g + v0)), (2, .int v2), (4, .int v4), (5, .int v5), (6, .int v6), (7, .int v7)] [.int w1, .int w0] σ := by
  intro p e s m args below meth c H locs cells slots ls E hR hS hl hc hs
  obtain ⟨hx, hb, hml, hr, hlocks, hown, hts, hin, hT⟩ := id E
  unfold f_X9_differ_132 at hf
  refine lv_iadd hx hb dX9_differ_132 ?_
  refine lv_istore_n (lv' := [(3, .int (w0 + w1)), (0, .ref (gB g + v0)), (2, .int v2), (4, .int v4), (5, .int v5), (6, .int v6), (7, .int v7)]) hx hb dX9_differ_133 rfl hl (Nat.le_of_ble_eq_true rfl) rfl (fun ls hl => ?_)
  refine lv_aload_n hx hb dX9_differ_134 rfl (lv_at hl 1 rfl) ?_
  obtain ⟨hk12, hf⟩ := zc_s hf
  obtain ⟨b13, hb13, hf⟩ := zr_s hf
  refine x_getR E hR hk12 hb13 ok9 (Nat.le_of_ble_eq_true rfl) rfl fl_X9_7 dX9_differ_135 ?_
  refine lv_iload hx hb dX9_differ_138 (lv_at hl 6 rfl) ?_
  obtain ⟨hk14, hf⟩ := zc_s hf
  refine x_ild E hR hk14 dX9_differ_140 ?_
  refine lv_aload_n hx hb dX9_differ_141 rfl (lv_at hl 1 rfl) ?_
  obtain ⟨b15, hb15, hf⟩ := zr_s hf
  refine x_getR E hR hk12 hb15 ok9 (Nat.le_of_ble_eq_true rfl) rfl fl_X9_13 dX9_differ_142 ?_
  refine lv_iload hx hb dX9_differ_145 (lv_at hl 6 rfl) ?_
  obtain ⟨hk16, hf⟩ := zc_s hf
  refine x_ild E hR hk16 dX9_differ_147 ?_
  refine lv_icmp_ne (tgt := 156) hx hb dX9_differ_148 (by decide) (fun hq17 => ?_) (fun hq17 => ?_)
  · have hf := ite_n hq17 hf
    refine lv_iload hx hb dX9_differ_156 (lv_at hl 6 rfl) ?_
    exact V_X9_differ_158 _ hk_104 _ _ _ _ _ _ _ _ _ _ hf p e s m args below meth c _ _ _ _ _ E hR hS (lv_sub hl [1, 2, 0, 4, 5, 6] rfl) hc hs
  · have hf := ite_p hq17 hf
    refine lv_iload hx hb dX9_differ_151 (lv_at hl 3 rfl) ?_
    refine lv_goto (tgt := 158) hx hb dX9_differ_153 (by decide) ?_
    exact V_X9_differ_158 _ hk_104 _ _ _ _ _ _ _ _ _ _ hf p e s m args below meth c _ _ _ _ _ E hR hS (lv_sub hl [1, 2, 0, 4, 5, 6] rfl) hc hs
set_option maxRecDepth 100000 in
def f_X9_differ_104 : Nat → Nat → Int32 → Int32 → Int32 → Int32 → Int32 → Int32 → Mm → Option (Int32 × Mm)
  | 0, _, _, _, _, _, _, _, _ => none
  | n + 1, v0, v2, v3, v4, v5, v6, v7, σ =>
    if v7 < 0 then (if v2 = 0 then (some (v3, σ)) else (if v2 = (1 : Int32) then (some (v4, σ)) else (if v2 = (2 : Int32) then (some (v5, σ)) else (some (v6, σ))))) else (zck (kO σ v0 9) (zrb (mR σ v0 0) (fun b23 => zck (kA σ 1 b23 v7) (zrb (mR σ v0 1) (fun b25 => zck (kA σ 1 b25 v7) (if (mD σ b23 (ix v7)) = (mD σ b25 (ix v7)) then (f_X9_differ_132 (f_X9_differ_104 n) v0 v2 v4 v5 v6 v7 v3 (0 : Int32) σ) else (f_X9_differ_132 (f_X9_differ_104 n) v0 v2 v4 v5 v6 v7 v3 (1 : Int32) σ)))))))
set_option maxRecDepth 100000 in
set_option maxHeartbeats 4000000 in
theorem V_X9_differ_104 {g : GG} : ∀ (n : Nat) (v0 : Nat) (v2 : Int32) (v3 : Int32) (v4 : Int32) (v5 : Int32) (v6 : Int32) (v7 : Int32) (σ : Mm) (r : Int32) (σ' : Mm), f_X9_differ_104 n v0 v2 v3 v4 v5 v6 v7 σ = some (r, σ') → VJ g RX9 cX9_differ 8 (some .int) false rm_X9_differ (some (.int r)) σ' (0) (0) 104 [(0, .ref (gB g + v0)), (2, .int v2), (3, .int v3), (4, .int v4), (5, .int v5), (6, .int v6), (7, .int v7)] [] σ := by
  intro n
  induction n with
  | zero =>
    intro v0 v2 v3 v4 v5 v6 v7 σ r σ' hf
    unfold f_X9_differ_104 at hf
    cases hf
  | succ n ih =>
    intro v0 v2 v3 v4 v5 v6 v7 σ r σ' hf p e s m args below meth c H locs cells slots ls E hR hS hl hc hs
    obtain ⟨hx, hb, hml, hr, hlocks, hown, hts, hin, hT⟩ := id E
    unfold f_X9_differ_104 at hf
    refine lv_iload hx hb dX9_differ_104 (lv_at hl 6 rfl) ?_
    refine lv_if_lt (tgt := 210) hx hb dX9_differ_106 (by decide) (fun hq18 => ?_) (fun hq18 => ?_)
    · have hf := ite_p hq18 hf
      refine lv_iload_n hx hb dX9_differ_210 rfl (lv_at hl 1 rfl) ?_
      refine lv_if_ne (tgt := 218) hx hb dX9_differ_211 (by decide) (fun hq19 => ?_) (fun hq19 => ?_)
      · have hf := ite_n hq19 hf
        refine lv_iload_n hx hb dX9_differ_218 rfl (lv_at hl 1 rfl) ?_
        refine lv_iconst (v := (1 : Int32)) hx hb dX9_differ_219 rfl ?_
        refine lv_icmp_ne (tgt := 228) hx hb dX9_differ_220 (by decide) (fun hq20 => ?_) (fun hq20 => ?_)
        · have hf := ite_n hq20 hf
          refine lv_iload_n hx hb dX9_differ_228 rfl (lv_at hl 1 rfl) ?_
          refine lv_iconst (v := (2 : Int32)) hx hb dX9_differ_229 rfl ?_
          refine lv_icmp_ne (tgt := 238) hx hb dX9_differ_230 (by decide) (fun hq21 => ?_) (fun hq21 => ?_)
          · have hf := ite_n hq21 hf
            refine lv_iload hx hb dX9_differ_238 (lv_at hl 5 rfl) ?_
            obtain ⟨hr1, hs1⟩ := Prod.mk.inj (Option.some.inj hf)
            exact xr_i E hR hS rfl (by rw [hr1]) hs1.symm hc hs dX9_differ_240
          · have hf := ite_p hq21 hf
            refine lv_iload hx hb dX9_differ_233 (lv_at hl 4 rfl) ?_
            refine lv_goto (tgt := 240) hx hb dX9_differ_235 (by decide) ?_
            obtain ⟨hr1, hs1⟩ := Prod.mk.inj (Option.some.inj hf)
            exact xr_i E hR hS rfl (by rw [hr1]) hs1.symm hc hs dX9_differ_240
        · have hf := ite_p hq20 hf
          refine lv_iload hx hb dX9_differ_223 (lv_at hl 3 rfl) ?_
          refine lv_goto (tgt := 240) hx hb dX9_differ_225 (by decide) ?_
          obtain ⟨hr1, hs1⟩ := Prod.mk.inj (Option.some.inj hf)
          exact xr_i E hR hS rfl (by rw [hr1]) hs1.symm hc hs dX9_differ_240
      · have hf := ite_p hq19 hf
        refine lv_iload_n hx hb dX9_differ_214 rfl (lv_at hl 2 rfl) ?_
        refine lv_goto (tgt := 240) hx hb dX9_differ_215 (by decide) ?_
        obtain ⟨hr1, hs1⟩ := Prod.mk.inj (Option.some.inj hf)
        exact xr_i E hR hS rfl (by rw [hr1]) hs1.symm hc hs dX9_differ_240
    · have hf := ite_n hq18 hf
      refine lv_iload_n hx hb dX9_differ_109 rfl (lv_at hl 2 rfl) ?_
      refine lv_aload_n hx hb dX9_differ_110 rfl (lv_at hl 0 rfl) ?_
      obtain ⟨hk22, hf⟩ := zc_s hf
      obtain ⟨b23, hb23, hf⟩ := zr_s hf
      refine x_getR E hR hk22 hb23 ok9 (Nat.le_of_ble_eq_true rfl) rfl fl_X9_7 dX9_differ_111 ?_
      refine lv_iload hx hb dX9_differ_114 (lv_at hl 6 rfl) ?_
      obtain ⟨hk24, hf⟩ := zc_s hf
      refine x_ild E hR hk24 dX9_differ_116 ?_
      refine lv_aload_n hx hb dX9_differ_117 rfl (lv_at hl 0 rfl) ?_
      obtain ⟨b25, hb25, hf⟩ := zr_s hf
      refine x_getR E hR hk22 hb25 ok9 (Nat.le_of_ble_eq_true rfl) rfl fl_X9_13 dX9_differ_118 ?_
      refine lv_iload hx hb dX9_differ_121 (lv_at hl 6 rfl) ?_
      obtain ⟨hk26, hf⟩ := zc_s hf
      refine x_ild E hR hk26 dX9_differ_123 ?_
      refine lv_icmp_ne (tgt := 131) hx hb dX9_differ_124 (by decide) (fun hq27 => ?_) (fun hq27 => ?_)
      · have hf := ite_n hq27 hf
        refine lv_iconst (v := (1 : Int32)) hx hb dX9_differ_131 rfl ?_
        exact V_X9_differ_132 _ ih _ _ _ _ _ _ _ _ _ _ _ hf p e s m args below meth c _ _ _ _ _ E hR hS (lv_sub hl [0, 1, 3, 4, 5, 6] rfl) hc hs
      · have hf := ite_p hq27 hf
        refine lv_iconst (v := (0 : Int32)) hx hb dX9_differ_127 rfl ?_
        refine lv_goto (tgt := 132) hx hb dX9_differ_128 (by decide) ?_
        exact V_X9_differ_132 _ ih _ _ _ _ _ _ _ _ _ _ _ hf p e s m args below meth c _ _ _ _ _ E hR hS (lv_sub hl [0, 1, 3, 4, 5, 6] rfl) hc hs
set_option maxRecDepth 100000 in
def f_X9_differ_41 : Nat → Nat → Int32 → Int32 → Int32 → Mm → Option (Int32 × Mm)
  | 0, _, _, _, _, _ => none
  | n + 1, v0, v1, v2, v3, σ =>
    if (100 : Int32) ≤ v3 then (zck (kO σ v0 9) (zrb (mR σ v0 0) (fun b30 => zcb (f_X9_make v0 b30 (0 : Int32) σ) (fun r31 σ32 => zck (kO σ32 v0 9) (zrb (mR σ32 v0 1) (fun b34 => zcb (f_X9_make v0 b34 (1 : Int32) σ32) (fun r35 σ36 => f_X9_differ_104 1000 v0 v2 (0 : Int32) (-9 : Int32) (0 : Int32) (0 : Int32) (99 : Int32) σ36))))))) else (zck (kO σ v0 9) (zrb (mR σ v0 1) (fun b38 => zrb (mR σ v0 5) (fun b39 => zck (kA σ 1 b39 (((100 : Int32) * v1) + v3)) (zck (kA σ 1 b38 v3) (zlt (sD σ b38 (ix v3) (mD σ b39 (ix (((100 : Int32) * v1) + v3)))) (fun σ42 => f_X9_differ_41 n v0 v1 v2 (v3 + (1 : Int32)) σ42)))))))
set_option maxRecDepth 100000 in
set_option maxHeartbeats 4000000 in
theorem V_X9_differ_41 {g : GG} : ∀ (n : Nat) (v0 : Nat) (v1 : Int32) (v2 : Int32) (v3 : Int32) (σ : Mm) (r : Int32) (σ' : Mm), f_X9_differ_41 n v0 v1 v2 v3 σ = some (r, σ') → VJ g RX9 cX9_differ 8 (some .int) false rm_X9_differ (some (.int r)) σ' (0) (0) 41 [(0, .ref (gB g + v0)), (1, .int v1), (2, .int v2), (3, .int v3)] [] σ := by
  intro n
  induction n with
  | zero =>
    intro v0 v1 v2 v3 σ r σ' hf
    unfold f_X9_differ_41 at hf
    cases hf
  | succ n ih =>
    intro v0 v1 v2 v3 σ r σ' hf p e s m args below meth c H locs cells slots ls E hR hS hl hc hs
    obtain ⟨hx, hb, hml, hr, hlocks, hown, hts, hin, hT⟩ := id E
    unfold f_X9_differ_41 at hf
    refine lv_iload_n hx hb dX9_differ_41 rfl (lv_at hl 3 rfl) ?_
    refine lv_bipush (v := (100 : Int32)) hx hb dX9_differ_42 rfl ?_
    refine lv_icmp_ge (tgt := 70) hx hb dX9_differ_44 (by decide) (fun hq28 => ?_) (fun hq28 => ?_)
    · have hf := ite_p hq28 hf
      refine lv_aload_n hx hb dX9_differ_70 rfl (lv_at hl 0 rfl) ?_
      refine lv_aload_n hx hb dX9_differ_71 rfl (lv_at hl 0 rfl) ?_
      obtain ⟨hk29, hf⟩ := zc_s hf
      obtain ⟨b30, hb30, hf⟩ := zr_s hf
      refine x_getR E hR hk29 hb30 ok9 (Nat.le_of_ble_eq_true rfl) rfl fl_X9_7 dX9_differ_72 ?_
      refine lv_iconst (v := (0 : Int32)) hx hb dX9_differ_75 rfl ?_
      obtain ⟨r31, σ32, hcr31, hf⟩ := zq_s hf
      refine xV (As := [.ref (gB g + b30), .int (0 : Int32)]) (rest := []) (st1 := []) E hR hS hl (C_X9_make hcr31) hk29 ok9 lb_X9_make lv_X9_make ml_X9_165 ⟨Nat.le_of_ble_eq_true rfl, Nat.le_of_ble_eq_true rfl⟩ rfl rfl rfl (Nat.le_of_ble_eq_true rfl) dX9_differ_76 ⟨hc, hs⟩ (fun H locs hR hS => ?_)
      refine lv_aload_n hx hb dX9_differ_79 rfl (lv_at hl 0 rfl) ?_
      refine lv_aload_n hx hb dX9_differ_80 rfl (lv_at hl 0 rfl) ?_
      obtain ⟨hk33, hf⟩ := zc_s hf
      obtain ⟨b34, hb34, hf⟩ := zr_s hf
      refine x_getR E hR hk33 hb34 ok9 (Nat.le_of_ble_eq_true rfl) rfl fl_X9_13 dX9_differ_81 ?_
      refine lv_iconst (v := (1 : Int32)) hx hb dX9_differ_84 rfl ?_
      obtain ⟨r35, σ36, hcr35, hf⟩ := zq_s hf
      refine xV (As := [.ref (gB g + b34), .int (1 : Int32)]) (rest := []) (st1 := []) E hR hS hl (C_X9_make hcr35) hk33 ok9 lb_X9_make lv_X9_make ml_X9_165 ⟨Nat.le_of_ble_eq_true rfl, Nat.le_of_ble_eq_true rfl⟩ rfl rfl rfl (Nat.le_of_ble_eq_true rfl) dX9_differ_85 ⟨hc, hs⟩ (fun H locs hR hS => ?_)
      refine lv_iconst (v := (0 : Int32)) hx hb dX9_differ_88 rfl ?_
      refine lv_istore_n (lv' := [(3, .int (0 : Int32)), (0, .ref (gB g + v0)), (1, .int v1), (2, .int v2)]) hx hb dX9_differ_89 rfl hl (Nat.le_of_ble_eq_true rfl) rfl (fun ls hl => ?_)
      refine lv_bipush (v := (-9 : Int32)) hx hb dX9_differ_90 rfl ?_
      refine lv_istore (lv' := [(4, .int (-9 : Int32)), (3, .int (0 : Int32)), (0, .ref (gB g + v0)), (1, .int v1), (2, .int v2)]) hx hb dX9_differ_92 hl (Nat.le_of_ble_eq_true rfl) rfl (fun ls hl => ?_)
      refine lv_iconst (v := (0 : Int32)) hx hb dX9_differ_94 rfl ?_
      refine lv_istore (lv' := [(5, .int (0 : Int32)), (4, .int (-9 : Int32)), (3, .int (0 : Int32)), (0, .ref (gB g + v0)), (1, .int v1), (2, .int v2)]) hx hb dX9_differ_95 hl (Nat.le_of_ble_eq_true rfl) rfl (fun ls hl => ?_)
      refine lv_iconst (v := (0 : Int32)) hx hb dX9_differ_97 rfl ?_
      refine lv_istore (lv' := [(6, .int (0 : Int32)), (5, .int (0 : Int32)), (4, .int (-9 : Int32)), (3, .int (0 : Int32)), (0, .ref (gB g + v0)), (1, .int v1), (2, .int v2)]) hx hb dX9_differ_98 hl (Nat.le_of_ble_eq_true rfl) rfl (fun ls hl => ?_)
      refine lv_bipush (v := (99 : Int32)) hx hb dX9_differ_100 rfl ?_
      refine lv_istore (lv' := [(7, .int (99 : Int32)), (6, .int (0 : Int32)), (5, .int (0 : Int32)), (4, .int (-9 : Int32)), (3, .int (0 : Int32)), (0, .ref (gB g + v0)), (1, .int v1), (2, .int v2)]) hx hb dX9_differ_102 hl (Nat.le_of_ble_eq_true rfl) rfl (fun ls hl => ?_)
      exact V_X9_differ_104  1000 _ _ _ _ _ _ _ _ _ _ hf p e s m args below meth c _ _ _ _ _ E hR hS (lv_sub hl [5, 7, 4, 3, 2, 1, 0] rfl) hc hs
    · have hf := ite_n hq28 hf
      refine lv_aload_n hx hb dX9_differ_47 rfl (lv_at hl 0 rfl) ?_
      obtain ⟨hk37, hf⟩ := zc_s hf
      obtain ⟨b38, hb38, hf⟩ := zr_s hf
      refine x_getR E hR hk37 hb38 ok9 (Nat.le_of_ble_eq_true rfl) rfl fl_X9_13 dX9_differ_48 ?_
      refine lv_iload_n hx hb dX9_differ_51 rfl (lv_at hl 3 rfl) ?_
      refine lv_aload_n hx hb dX9_differ_52 rfl (lv_at hl 0 rfl) ?_
      obtain ⟨b39, hb39, hf⟩ := zr_s hf
      refine x_getR E hR hk37 hb39 ok9 (Nat.le_of_ble_eq_true rfl) rfl fl_X9_19 dX9_differ_53 ?_
      refine lv_bipush (v := (100 : Int32)) hx hb dX9_differ_56 rfl ?_
      refine lv_iload_n hx hb dX9_differ_58 rfl (lv_at hl 1 rfl) ?_
      refine lv_imul hx hb dX9_differ_59 ?_
      refine lv_iload_n hx hb dX9_differ_60 rfl (lv_at hl 3 rfl) ?_
      refine lv_iadd hx hb dX9_differ_61 ?_
      obtain ⟨hk40, hf⟩ := zc_s hf
      refine x_ild E hR hk40 dX9_differ_62 ?_
      obtain ⟨hk41, hf⟩ := zc_s hf
      obtain ⟨σ42, eσ42, hf⟩ := zl_s hf
      refine x_ist E hR hS hk41 dX9_differ_63 (fun H locs hR hS => ?_)
      rw [← eσ42] at hR
      refine lv_iinc (v := (v3 + (1 : Int32))) (lv' := [(3, .int (v3 + (1 : Int32))), (0, .ref (gB g + v0)), (1, .int v1), (2, .int v2)]) hx hb dX9_differ_64 hl (k := 3) rfl rfl (Nat.le_of_ble_eq_true rfl) rfl (fun ls hl => ?_)
      refine lv_goto (tgt := 41) hx hb dX9_differ_67 (by decide) ?_
      exact ih _ _ _ _ _ _ _ hf p e s m args below meth c _ _ _ _ _ E hR hS (lv_sub hl [1, 2, 3, 0] rfl) hc hs
set_option maxRecDepth 100000 in
def f_X9_differ (v0 : Nat) (v1 : Int32) (v2 : Int32) (σ : Mm) : Option (Int32 × Mm) :=
  zcb (f_X9_in ((v1).toInt64) (0 : Int64) (1 : Int64) σ) (fun r43 σ44 => if r43 = 0 then (some ((-1 : Int32), σ44)) else (zck (kO σ44 v0 9) (zrb (mR σ44 v0 6) (fun b47 => zck (kA σ44 2 b47 v1) (if (mD σ44 b47 (ix v1)) = 0 then (some ((-3 : Int32), σ44)) else (zcb (f_X9_in ((v2).toInt64) (0 : Int64) (3 : Int64) σ44) (fun r50 σ51 => if r50 = 0 then (some ((-2 : Int32), σ51)) else (f_X9_differ_41 1000 v0 v1 v2 (0 : Int32) σ51))))))))
set_option maxRecDepth 100000 in
set_option maxHeartbeats 4000000 in
theorem V_X9_differ_0 {g : GG} (v0 : Nat) (v1 : Int32) (v2 : Int32) (σ : Mm) (r : Int32) (σ' : Mm) (hf : f_X9_differ v0 v1 v2 σ = some (r, σ')) : VJ g RX9 cX9_differ 8 (some .int) false rm_X9_differ (some (.int r)) σ' (0) (0) 0 [(0, .ref (gB g + v0)), (1, .int v1), (2, .int v2)] [] σ := by
  intro p e s m args below meth c H locs cells slots ls E hR hS hl hc hs
  obtain ⟨hx, hb, hml, hr, hlocks, hown, hts, hin, hT⟩ := id E
  unfold f_X9_differ at hf
  refine lv_iload_n hx hb dX9_differ_0 rfl (lv_at hl 1 rfl) ?_
  refine lv_i2l (v := (v1).toInt64) hx hb dX9_differ_1 rfl ?_
  refine lv_lconst (v := (0 : Int64)) hx hb dX9_differ_2 rfl ?_
  refine lv_lconst (v := (1 : Int64)) hx hb dX9_differ_3 rfl ?_
  obtain ⟨r43, σ44, hcr43, hf⟩ := zq_s hf
  refine xS (As := [.long ((v1).toInt64), .long (0 : Int64), .long (1 : Int64)]) (rest := []) (st1 := [.int r43]) E hR hS hl (C_X9_in hcr43) lb_X9_in ls_X9_in ml_X9_121 ⟨Nat.le_of_ble_eq_true rfl, Nat.le_of_ble_eq_true rfl⟩ rfl rfl rfl (Nat.le_of_ble_eq_true rfl) dX9_differ_4 ⟨hc, hs⟩ (fun H locs hR hS => ?_)
  refine lv_if_ne (tgt := 12) hx hb dX9_differ_7 (by decide) (fun hq45 => ?_) (fun hq45 => ?_)
  · have hf := ite_n hq45 hf
    refine lv_aload_n hx hb dX9_differ_12 rfl (lv_at hl 0 rfl) ?_
    obtain ⟨hk46, hf⟩ := zc_s hf
    obtain ⟨b47, hb47, hf⟩ := zr_s hf
    refine x_getR E hR hk46 hb47 ok9 (Nat.le_of_ble_eq_true rfl) rfl fl_X9_22 dX9_differ_13 ?_
    refine lv_iload_n hx hb dX9_differ_16 rfl (lv_at hl 1 rfl) ?_
    obtain ⟨hk48, hf⟩ := zc_s hf
    refine x_zld E hR hk48 dX9_differ_17 ?_
    refine lv_if_ne (tgt := 24) hx hb dX9_differ_18 (by decide) (fun hq49 => ?_) (fun hq49 => ?_)
    · have hf := ite_n hq49 hf
      refine lv_iload_n hx hb dX9_differ_24 rfl (lv_at hl 2 rfl) ?_
      refine lv_i2l (v := (v2).toInt64) hx hb dX9_differ_25 rfl ?_
      refine lv_lconst (v := (0 : Int64)) hx hb dX9_differ_26 rfl ?_
      refine lv_ldc2 (v := (3 : Int64)) hx hb hown (hts _ kl_X9_129) dX9_differ_27 ?_
      obtain ⟨r50, σ51, hcr50, hf⟩ := zq_s hf
      refine xS (As := [.long ((v2).toInt64), .long (0 : Int64), .long (3 : Int64)]) (rest := []) (st1 := [.int r50]) E hR hS hl (C_X9_in hcr50) lb_X9_in ls_X9_in ml_X9_121 ⟨Nat.le_of_ble_eq_true rfl, Nat.le_of_ble_eq_true rfl⟩ rfl rfl rfl (Nat.le_of_ble_eq_true rfl) dX9_differ_30 ⟨hc, hs⟩ (fun H locs hR hS => ?_)
      refine lv_if_ne (tgt := 39) hx hb dX9_differ_33 (by decide) (fun hq52 => ?_) (fun hq52 => ?_)
      · have hf := ite_n hq52 hf
        refine lv_iconst (v := (0 : Int32)) hx hb dX9_differ_39 rfl ?_
        refine lv_istore_n (lv' := [(3, .int (0 : Int32)), (0, .ref (gB g + v0)), (1, .int v1), (2, .int v2)]) hx hb dX9_differ_40 rfl hl (Nat.le_of_ble_eq_true rfl) rfl (fun ls hl => ?_)
        exact V_X9_differ_41  1000 _ _ _ _ _ _ _ hf p e s m args below meth c _ _ _ _ _ E hR hS (lv_sub hl [1, 2, 3, 0] rfl) hc hs
      · have hf := ite_p hq52 hf
        refine lv_bipush (v := (-2 : Int32)) hx hb dX9_differ_36 rfl ?_
        obtain ⟨hr1, hs1⟩ := Prod.mk.inj (Option.some.inj hf)
        exact xr_i E hR hS rfl (by rw [hr1]) hs1.symm hc hs dX9_differ_38
    · have hf := ite_p hq49 hf
      refine lv_bipush (v := (-3 : Int32)) hx hb dX9_differ_21 rfl ?_
      obtain ⟨hr1, hs1⟩ := Prod.mk.inj (Option.some.inj hf)
      exact xr_i E hR hS rfl (by rw [hr1]) hs1.symm hc hs dX9_differ_23
  · have hf := ite_p hq45 hf
    refine lv_iconst (v := (-1 : Int32)) hx hb dX9_differ_10 rfl ?_
    obtain ⟨hr1, hs1⟩ := Prod.mk.inj (Option.some.inj hf)
    exact xr_i E hR hS rfl (by rw [hr1]) hs1.symm hc hs dX9_differ_11
theorem C_X9_differ {g : GG} {v0 : Nat} {v1 : Int32} {v2 : Int32} {σ : Mm} {r : Int32} {σ' : Mm} (hf : f_X9_differ v0 v1 v2 σ = some (r, σ')) : Ct g yX9_differ cX9_differ 8 (some .int) rm_X9_differ [.ref (gB g + v0), .int v1, .int v2] σ (some (.int r)) σ' :=
  Ct.of false (by decide +kernel) (fun h => by cases h) (Nat.le_of_ble_eq_true rfl) (V_X9_differ_0 _ _ _ _ _ _ hf)
