abbrev rm_X9_item : Room := { frames := 5, cells := 0, slots := 0, locals := 123 }
set_option maxRecDepth 100000 in
def f_X9_item (v0 : Nat) (v1 : Int32) (v2 : Int32) (v3 : Int32) (σ : Mm) : Option (Int32 × Mm) :=
  zcb (f_X9_isRange v1 v2 σ) (fun r1 σ2 => if r1 = 0 then (some ((-2 : Int32), σ2)) else (zck (kO σ2 v0 9) (zrb (mR σ2 v0 0) (fun b5 => zcb (f_X9_prove v0 b5 v1 v2 σ2) (fun r6 σ7 => zck (kO σ7 v0 9) (zcb (f_X9_in ((v3).toInt64) (0 : Int64) ((((mD σ7 v0 23) - (1 : Int32))).toInt64) σ7) (fun r9 σ10 => if r9 = 0 then (some ((-1 : Int32), σ10)) else (zck (kO σ10 v0 9) (zrb (mR σ10 v0 22) (fun b13 => zck (kA σ10 1 b13 v3) (some ((mD σ10 b13 (ix v3)), σ10))))))))))))
set_option maxRecDepth 100000 in
set_option maxHeartbeats 4000000 in
theorem V_X9_item_0 {g : GG} (v0 : Nat) (v1 : Int32) (v2 : Int32) (v3 : Int32) (σ : Mm) (r : Int32) (σ' : Mm) (hf : f_X9_item v0 v1 v2 v3 σ = some (r, σ')) : VJ g RX9 cX9_item 4 (some .int) false rm_X9_item (some (.int r)) σ' (0) (0) 0 [(0, .ref (gB g + v0)), (1, .int v1), (2, .int v2), (3, .int v3)] [] σ := by
  intro p e s m args below meth c H locs cells slots ls E hR hS hl hc hs
  obtain ⟨hx, hb, hml, hr, hlocks, hown, hts, hin, hT⟩ := id E
  unfold f_X9_item at hf
  refine lv_iload_n hx hb dX9_item_0 rfl (lv_at hl 1 rfl) ?_
  refine lv_iload_n hx hb dX9_item_1 rfl (lv_at hl 2 rfl) ?_
  obtain ⟨r1, σ2, hcr1, hf⟩ := zq_s hf
  refine xS (As := [.int v1, .int v2]) (rest := []) (st1 := [.int r1]) E hR hS hl (C_X9_isRange hcr1) lb_X9_isRange ls_X9_isRange ml_X9_218 ⟨Nat.le_of_ble_eq_true rfl, Nat.le_of_ble_eq_true rfl⟩ rfl rfl rfl (Nat.le_of_ble_eq_true rfl) dX9_item_2 ⟨hc, hs⟩ (fun H locs hR hS => ?_)
  refine lv_if_ne (tgt := 11) hx hb dX9_item_5 (by decide) (fun hq3 => ?_) (fun hq3 => ?_)
  · have hf := ite_n hq3 hf
    refine lv_aload_n hx hb dX9_item_11 rfl (lv_at hl 0 rfl) ?_
    refine lv_aload_n hx hb dX9_item_12 rfl (lv_at hl 0 rfl) ?_
    obtain ⟨hk4, hf⟩ := zc_s hf
    obtain ⟨b5, hb5, hf⟩ := zr_s hf
    refine x_getR E hR hk4 hb5 ok9 (Nat.le_of_ble_eq_true rfl) rfl fl_X9_7 dX9_item_13 ?_
    refine lv_iload_n hx hb dX9_item_16 rfl (lv_at hl 1 rfl) ?_
    refine lv_iload_n hx hb dX9_item_17 rfl (lv_at hl 2 rfl) ?_
    obtain ⟨r6, σ7, hcr6, hf⟩ := zq_s hf
    refine xV (As := [.ref (gB g + b5), .int v1, .int v2]) (rest := []) (st1 := []) E hR hS hl (C_X9_prove hcr6) hk4 ok9 lb_X9_prove lv_X9_prove ml_X9_223 ⟨Nat.le_of_ble_eq_true rfl, Nat.le_of_ble_eq_true rfl⟩ rfl rfl rfl (Nat.le_of_ble_eq_true rfl) dX9_item_18 ⟨hc, hs⟩ (fun H locs hR hS => ?_)
    refine lv_iload_n hx hb dX9_item_21 rfl (lv_at hl 3 rfl) ?_
    refine lv_i2l (v := (v3).toInt64) hx hb dX9_item_22 rfl ?_
    refine lv_lconst (v := (0 : Int64)) hx hb dX9_item_23 rfl ?_
    refine lv_aload_n hx hb dX9_item_24 rfl (lv_at hl 0 rfl) ?_
    obtain ⟨hk8, hf⟩ := zc_s hf
    refine x_getI E hR hk8 ok9 23 (Nat.le_of_ble_eq_true rfl) rfl fl_X9_211 dX9_item_25 ?_
    refine lv_iconst (v := (1 : Int32)) hx hb dX9_item_28 rfl ?_
    refine lv_isub hx hb dX9_item_29 ?_
    refine lv_i2l (v := (((mD σ7 v0 23) - (1 : Int32))).toInt64) hx hb dX9_item_30 rfl ?_
    obtain ⟨r9, σ10, hcr9, hf⟩ := zq_s hf
    refine xS (As := [.long ((v3).toInt64), .long (0 : Int64), .long ((((mD σ7 v0 23) - (1 : Int32))).toInt64)]) (rest := []) (st1 := [.int r9]) E hR hS hl (C_X9_in hcr9) lb_X9_in ls_X9_in ml_X9_121 ⟨Nat.le_of_ble_eq_true rfl, Nat.le_of_ble_eq_true rfl⟩ rfl rfl rfl (Nat.le_of_ble_eq_true rfl) dX9_item_31 ⟨hc, hs⟩ (fun H locs hR hS => ?_)
    refine lv_if_eq (tgt := 46) hx hb dX9_item_34 (by decide) (fun hq11 => ?_) (fun hq11 => ?_)
    · have hf := ite_p hq11 hf
      refine lv_iconst (v := (-1 : Int32)) hx hb dX9_item_46 rfl ?_
      obtain ⟨hr1, hs1⟩ := Prod.mk.inj (Option.some.inj hf)
      exact xr_i E hR hS rfl (by rw [hr1]) hs1.symm hc hs dX9_item_47
    · have hf := ite_n hq11 hf
      refine lv_aload_n hx hb dX9_item_37 rfl (lv_at hl 0 rfl) ?_
      obtain ⟨hk12, hf⟩ := zc_s hf
      obtain ⟨b13, hb13, hf⟩ := zr_s hf
      refine x_getR E hR hk12 hb13 ok9 (Nat.le_of_ble_eq_true rfl) rfl fl_X9_68 dX9_item_38 ?_
      refine lv_iload_n hx hb dX9_item_41 rfl (lv_at hl 3 rfl) ?_
      obtain ⟨hk14, hf⟩ := zc_s hf
      refine x_ild E hR hk14 dX9_item_42 ?_
      refine lv_goto (tgt := 47) hx hb dX9_item_43 (by decide) ?_
      obtain ⟨hr1, hs1⟩ := Prod.mk.inj (Option.some.inj hf)
      exact xr_i E hR hS rfl (by rw [hr1]) hs1.symm hc hs dX9_item_47
  · have hf := ite_p hq3 hf
    refine lv_bipush (v := (-2 : Int32)) hx hb dX9_item_8 rfl ?_
    obtain ⟨hr1, hs1⟩ := Prod.mk.inj (Option.some.inj hf)
    exact xr_i E hR hS rfl (by rw [hr1]) hs1.symm hc hs dX9_item_10
theorem C_X9_item {g : GG} {v0 : Nat} {v1 : Int32} {v2 : Int32} {v3 : Int32} {σ : Mm} {r : Int32} {σ' : Mm} (hf : f_X9_item v0 v1 v2 v3 σ = some (r, σ')) : Ct g yX9_item cX9_item 4 (some .int) rm_X9_item [.ref (gB g + v0), .int v1, .int v2, .int v3] σ (some (.int r)) σ' :=
  Ct.of false (by decide +kernel) (fun h => by cases h) (Nat.le_of_ble_eq_true rfl) (V_X9_item_0 _ _ _ _ _ _ _ hf)
abbrev rm_X9_lengths : Room := { frames := 5, cells := 0, slots := 0, locals := 123 }
set_option maxRecDepth 100000 in
def f_X9_lengths_71 (k_23 : Nat → Int32 → Int32 → Int32 → Int32 → Int32 → Mm → Option (Int32 × Mm)) (v0 : Nat) (v1 : Int32) (v2 : Int32) (v3 : Int32) (v5 : Int32) (w0 : Int32) (σ : Mm) : Option (Int32 × Mm) :=
  k_23 v0 v1 v2 v3 w0 (v5 + (-1 : Int32)) σ
set_option maxRecDepth 100000 in
set_option maxHeartbeats 4000000 in
theorem V_X9_lengths_71 {g : GG} (k_23 : Nat → Int32 → Int32 → Int32 → Int32 → Int32 → Mm → Option (Int32 × Mm)) (hk_23 : ∀ (v0 : Nat) (v1 : Int32) (v2 : Int32) (v3 : Int32) (v4 : Int32) (v5 : Int32) (σ : Mm) (r : Int32) (σ' : Mm), k_23 v0 v1 v2 v3 v4 v5 σ = some (r, σ') → VJ g RX9 cX9_lengths 6 (some .int) false rm_X9_lengths (some (.int r)) σ' (0) (0) 23 [(0, .ref (gB g + v0)), (1, .int v1), (2, .int v2), (3, .int v3), (4, .int v4), (5, .int v5)] [] σ) (v0 : Nat) (v1 : Int32) (v2 : Int32) (v3 : Int32) (v5 : Int32) (w0 : Int32) (σ : Mm) (r : Int32) (σ' : Mm) (hf : f_X9_lengths_71 k_23 v0 v1 v2 v3 v5 w0 σ = some (r, σ')) : VJ g RX9 cX9_lengths 6 (some .int) false rm_X9_lengths (some (.int r)) σ' (0) (0) 71 [(0, .ref (gB g + v0)), (1, .int v1), (2, .int v2), (3, .int v3), (5, .int v5)] [.int w0] σ := by
  intro p e s m args below meth c H locs cells slots ls E hR hS hl hc hs
  obtain ⟨hx, hb, hml, hr, hlocks, hown, hts, hin, hT⟩ := id E
  unfold f_X9_lengths_71 at hf
  refine lv_istore (lv' := [(4, .int w0), (0, .ref (gB g + v0)), (1, .int v1), (2, .int v2), (3, .int v3), (5, .int v5)]) hx hb dX9_lengths_71 hl (Nat.le_of_ble_eq_true rfl) rfl (fun ls hl => ?_)
  refine lv_iinc (v := (v5 + (-1 : Int32))) (lv' := [(5, .int (v5 + (-1 : Int32))), (4, .int w0), (0, .ref (gB g + v0)), (1, .int v1), (2, .int v2), (3, .int v3)]) hx hb dX9_lengths_73 hl (k := 5) rfl rfl (Nat.le_of_ble_eq_true rfl) rfl (fun ls hl => ?_)
  refine lv_goto (tgt := 23) hx hb dX9_lengths_76 (by decide) ?_
  exact hk_23 _ _ _ _ _ _ _ _ _ hf p e s m args below meth c _ _ _ _ _ E hR hS (lv_sub hl [2, 3, 4, 5, 1, 0] rfl) hc hs
set_option maxRecDepth 100000 in
def f_X9_lengths_54 (k_23 : Nat → Int32 → Int32 → Int32 → Int32 → Int32 → Mm → Option (Int32 × Mm)) (v0 : Nat) (v1 : Int32) (v2 : Int32) (v4 : Int32) (v5 : Int32) (w0 : Int32) (w1 : Int32) (σ : Mm) : Option (Int32 × Mm) :=
  zck (kO σ v0 9) (if (mD σ v0 23) = v1 then (f_X9_lengths_71 k_23 v0 v1 v2 (w0 + w1) v5 v5 σ) else (f_X9_lengths_71 k_23 v0 v1 v2 (w0 + w1) v5 v4 σ))
set_option maxRecDepth 100000 in
set_option maxHeartbeats 4000000 in
theorem V_X9_lengths_54 {g : GG} (k_23 : Nat → Int32 → Int32 → Int32 → Int32 → Int32 → Mm → Option (Int32 × Mm)) (hk_23 : ∀ (v0 : Nat) (v1 : Int32) (v2 : Int32) (v3 : Int32) (v4 : Int32) (v5 : Int32) (σ : Mm) (r : Int32) (σ' : Mm), k_23 v0 v1 v2 v3 v4 v5 σ = some (r, σ') → VJ g RX9 cX9_lengths 6 (some .int) false rm_X9_lengths (some (.int r)) σ' (0) (0) 23 [(0, .ref (gB g + v0)), (1, .int v1), (2, .int v2), (3, .int v3), (4, .int v4), (5, .int v5)] [] σ) (v0 : Nat) (v1 : Int32) (v2 : Int32) (v4 : Int32) (v5 : Int32) (w0 : Int32) (w1 : Int32) (σ : Mm) (r : Int32) (σ' : Mm) (hf : f_X9_lengths_54 k_23 v0 v1 v2 v4 v5 w0 w1 σ = some (r, σ')) : VJ g RX9 cX9_lengths 6 (some .int) false rm_X9_lengths (some (.int r)) σ' (0) (0) 54 [(0, .ref (gB g + v0)), (1, .int v1), (2, .int v2), (4, .int v4), (5, .int v5)] [.int w1, .int w0] σ := by
  intro p e s m args below meth c H locs cells slots ls E hR hS hl hc hs
  obtain ⟨hx, hb, hml, hr, hlocks, hown, hts, hin, hT⟩ := id E
  unfold f_X9_lengths_54 at hf
  refine lv_iadd hx hb dX9_lengths_54 ?_
  refine lv_istore_n (lv' := [(3, .int (w0 + w1)), (0, .ref (gB g + v0)), (1, .int v1), (2, .int v2), (4, .int v4), (5, .int v5)]) hx hb dX9_lengths_55 rfl hl (Nat.le_of_ble_eq_true rfl) rfl (fun ls hl => ?_)
  refine lv_aload_n hx hb dX9_lengths_56 rfl (lv_at hl 1 rfl) ?_
  obtain ⟨hk1, hf⟩ := zc_s hf
  refine x_getI E hR hk1 ok9 23 (Nat.le_of_ble_eq_true rfl) rfl fl_X9_211 dX9_lengths_57 ?_
  refine lv_iload_n hx hb dX9_lengths_60 rfl (lv_at hl 2 rfl) ?_
  refine lv_icmp_ne (tgt := 69) hx hb dX9_lengths_61 (by decide) (fun hq2 => ?_) (fun hq2 => ?_)
  · have hf := ite_n hq2 hf
    refine lv_iload hx hb dX9_lengths_69 (lv_at hl 4 rfl) ?_
    exact V_X9_lengths_71 _ hk_23 _ _ _ _ _ _ _ _ _ hf p e s m args below meth c _ _ _ _ _ E hR hS (lv_sub hl [1, 2, 3, 0, 5] rfl) hc hs
  · have hf := ite_p hq2 hf
    refine lv_iload hx hb dX9_lengths_64 (lv_at hl 5 rfl) ?_
    refine lv_goto (tgt := 71) hx hb dX9_lengths_66 (by decide) ?_
    exact V_X9_lengths_71 _ hk_23 _ _ _ _ _ _ _ _ _ hf p e s m args below meth c _ _ _ _ _ E hR hS (lv_sub hl [1, 2, 3, 0, 5] rfl) hc hs
set_option maxRecDepth 100000 in
def f_X9_lengths_23 : Nat → Nat → Int32 → Int32 → Int32 → Int32 → Int32 → Mm → Option (Int32 × Mm)
  | 0, _, _, _, _, _, _, _ => none
  | n + 1, v0, v1, v2, v3, v4, v5, σ =>
    if v5 < 0 then (if v2 = 0 then (some (v3, σ)) else (some (v4, σ))) else (zck (kO σ v0 9) (zrb (mR σ v0 0) (fun b6 => zcb (f_X9_prove v0 b6 v5 v5 σ) (fun r7 σ8 => zck (kO σ8 v0 9) (if (mD σ8 v0 23) = v1 then (f_X9_lengths_54 (f_X9_lengths_23 n) v0 v1 v2 v4 v5 v3 (1 : Int32) σ8) else (f_X9_lengths_54 (f_X9_lengths_23 n) v0 v1 v2 v4 v5 v3 (0 : Int32) σ8))))))
set_option maxRecDepth 100000 in
set_option maxHeartbeats 4000000 in
theorem V_X9_lengths_23 {g : GG} : ∀ (n : Nat) (v0 : Nat) (v1 : Int32) (v2 : Int32) (v3 : Int32) (v4 : Int32) (v5 : Int32) (σ : Mm) (r : Int32) (σ' : Mm), f_X9_lengths_23 n v0 v1 v2 v3 v4 v5 σ = some (r, σ') → VJ g RX9 cX9_lengths 6 (some .int) false rm_X9_lengths (some (.int r)) σ' (0) (0) 23 [(0, .ref (gB g + v0)), (1, .int v1), (2, .int v2), (3, .int v3), (4, .int v4), (5, .int v5)] [] σ := by
  intro n
  induction n with
  | zero =>
    intro v0 v1 v2 v3 v4 v5 σ r σ' hf
    unfold f_X9_lengths_23 at hf
    cases hf
  | succ n ih =>
    intro v0 v1 v2 v3 v4 v5 σ r σ' hf p e s m args below meth c H locs cells slots ls E hR hS hl hc hs
    obtain ⟨hx, hb, hml, hr, hlocks, hown, hts, hin, hT⟩ := id E
    unfold f_X9_lengths_23 at hf
    refine lv_iload hx hb dX9_lengths_23 (lv_at hl 5 rfl) ?_
    refine lv_if_lt (tgt := 79) hx hb dX9_lengths_25 (by decide) (fun hq3 => ?_) (fun hq3 => ?_)
    · have hf := ite_p hq3 hf
      refine lv_iload_n hx hb dX9_lengths_79 rfl (lv_at hl 2 rfl) ?_
      refine lv_if_ne (tgt := 87) hx hb dX9_lengths_80 (by decide) (fun hq4 => ?_) (fun hq4 => ?_)
      · have hf := ite_n hq4 hf
        refine lv_iload hx hb dX9_lengths_87 (lv_at hl 4 rfl) ?_
        obtain ⟨hr1, hs1⟩ := Prod.mk.inj (Option.some.inj hf)
        exact xr_i E hR hS rfl (by rw [hr1]) hs1.symm hc hs dX9_lengths_89
      · have hf := ite_p hq4 hf
        refine lv_iload_n hx hb dX9_lengths_83 rfl (lv_at hl 3 rfl) ?_
        refine lv_goto (tgt := 89) hx hb dX9_lengths_84 (by decide) ?_
        obtain ⟨hr1, hs1⟩ := Prod.mk.inj (Option.some.inj hf)
        exact xr_i E hR hS rfl (by rw [hr1]) hs1.symm hc hs dX9_lengths_89
    · have hf := ite_n hq3 hf
      refine lv_aload_n hx hb dX9_lengths_28 rfl (lv_at hl 0 rfl) ?_
      refine lv_aload_n hx hb dX9_lengths_29 rfl (lv_at hl 0 rfl) ?_
      obtain ⟨hk5, hf⟩ := zc_s hf
      obtain ⟨b6, hb6, hf⟩ := zr_s hf
      refine x_getR E hR hk5 hb6 ok9 (Nat.le_of_ble_eq_true rfl) rfl fl_X9_7 dX9_lengths_30 ?_
      refine lv_iload hx hb dX9_lengths_33 (lv_at hl 5 rfl) ?_
      refine lv_iload hx hb dX9_lengths_35 (lv_at hl 5 rfl) ?_
      obtain ⟨r7, σ8, hcr7, hf⟩ := zq_s hf
      refine xV (As := [.ref (gB g + b6), .int v5, .int v5]) (rest := []) (st1 := []) E hR hS hl (C_X9_prove hcr7) hk5 ok9 lb_X9_prove lv_X9_prove ml_X9_223 ⟨Nat.le_of_ble_eq_true rfl, Nat.le_of_ble_eq_true rfl⟩ rfl rfl rfl (Nat.le_of_ble_eq_true rfl) dX9_lengths_37 ⟨hc, hs⟩ (fun H locs hR hS => ?_)
      refine lv_iload_n hx hb dX9_lengths_40 rfl (lv_at hl 3 rfl) ?_
      refine lv_aload_n hx hb dX9_lengths_41 rfl (lv_at hl 0 rfl) ?_
      obtain ⟨hk9, hf⟩ := zc_s hf
      refine x_getI E hR hk9 ok9 23 (Nat.le_of_ble_eq_true rfl) rfl fl_X9_211 dX9_lengths_42 ?_
      refine lv_iload_n hx hb dX9_lengths_45 rfl (lv_at hl 1 rfl) ?_
      refine lv_icmp_ne (tgt := 53) hx hb dX9_lengths_46 (by decide) (fun hq10 => ?_) (fun hq10 => ?_)
      · have hf := ite_n hq10 hf
        refine lv_iconst (v := (0 : Int32)) hx hb dX9_lengths_53 rfl ?_
        exact V_X9_lengths_54 _ ih _ _ _ _ _ _ _ _ _ _ hf p e s m args below meth c _ _ _ _ _ E hR hS (lv_sub hl [0, 1, 2, 4, 5] rfl) hc hs
      · have hf := ite_p hq10 hf
        refine lv_iconst (v := (1 : Int32)) hx hb dX9_lengths_49 rfl ?_
        refine lv_goto (tgt := 54) hx hb dX9_lengths_50 (by decide) ?_
        exact V_X9_lengths_54 _ ih _ _ _ _ _ _ _ _ _ _ hf p e s m args below meth c _ _ _ _ _ E hR hS (lv_sub hl [0, 1, 2, 4, 5] rfl) hc hs
set_option maxRecDepth 100000 in
def f_X9_lengths (v0 : Nat) (v1 : Int32) (v2 : Int32) (σ : Mm) : Option (Int32 × Mm) :=
  zcb (f_X9_in ((v2).toInt64) (0 : Int64) (1 : Int64) σ) (fun r11 σ12 => if r11 = 0 then (some ((-2 : Int32), σ12)) else (f_X9_lengths_23 1000 v0 v1 v2 (0 : Int32) (-9 : Int32) (99 : Int32) σ12))
set_option maxRecDepth 100000 in
set_option maxHeartbeats 4000000 in
theorem V_X9_lengths_0 {g : GG} (v0 : Nat) (v1 : Int32) (v2 : Int32) (σ : Mm) (r : Int32) (σ' : Mm) (hf : f_X9_lengths v0 v1 v2 σ = some (r, σ')) : VJ g RX9 cX9_lengths 6 (some .int) false rm_X9_lengths (some (.int r)) σ' (0) (0) 0 [(0, .ref (gB g + v0)), (1, .int v1), (2, .int v2)] [] σ := by
  intro p e s m args below meth c H locs cells slots ls E hR hS hl hc hs
  obtain ⟨hx, hb, hml, hr, hlocks, hown, hts, hin, hT⟩ := id E
  unfold f_X9_lengths at hf
  refine lv_iload_n hx hb dX9_lengths_0 rfl (lv_at hl 2 rfl) ?_
  refine lv_i2l (v := (v2).toInt64) hx hb dX9_lengths_1 rfl ?_
  refine lv_lconst (v := (0 : Int64)) hx hb dX9_lengths_2 rfl ?_
  refine lv_lconst (v := (1 : Int64)) hx hb dX9_lengths_3 rfl ?_
  obtain ⟨r11, σ12, hcr11, hf⟩ := zq_s hf
  refine xS (As := [.long ((v2).toInt64), .long (0 : Int64), .long (1 : Int64)]) (rest := []) (st1 := [.int r11]) E hR hS hl (C_X9_in hcr11) lb_X9_in ls_X9_in ml_X9_121 ⟨Nat.le_of_ble_eq_true rfl, Nat.le_of_ble_eq_true rfl⟩ rfl rfl rfl (Nat.le_of_ble_eq_true rfl) dX9_lengths_4 ⟨hc, hs⟩ (fun H locs hR hS => ?_)
  refine lv_if_ne (tgt := 13) hx hb dX9_lengths_7 (by decide) (fun hq13 => ?_) (fun hq13 => ?_)
  · have hf := ite_n hq13 hf
    refine lv_iconst (v := (0 : Int32)) hx hb dX9_lengths_13 rfl ?_
    refine lv_istore_n (lv' := [(3, .int (0 : Int32)), (0, .ref (gB g + v0)), (1, .int v1), (2, .int v2)]) hx hb dX9_lengths_14 rfl hl (Nat.le_of_ble_eq_true rfl) rfl (fun ls hl => ?_)
    refine lv_bipush (v := (-9 : Int32)) hx hb dX9_lengths_15 rfl ?_
    refine lv_istore (lv' := [(4, .int (-9 : Int32)), (3, .int (0 : Int32)), (0, .ref (gB g + v0)), (1, .int v1), (2, .int v2)]) hx hb dX9_lengths_17 hl (Nat.le_of_ble_eq_true rfl) rfl (fun ls hl => ?_)
    refine lv_bipush (v := (99 : Int32)) hx hb dX9_lengths_19 rfl ?_
    refine lv_istore (lv' := [(5, .int (99 : Int32)), (4, .int (-9 : Int32)), (3, .int (0 : Int32)), (0, .ref (gB g + v0)), (1, .int v1), (2, .int v2)]) hx hb dX9_lengths_21 hl (Nat.le_of_ble_eq_true rfl) rfl (fun ls hl => ?_)
    exact V_X9_lengths_23  1000 _ _ _ _ _ _ _ _ _ hf p e s m args below meth c _ _ _ _ _ E hR hS (lv_sub hl [3, 4, 5, 2, 1, 0] rfl) hc hs
  · have hf := ite_p hq13 hf
    refine lv_bipush (v := (-2 : Int32)) hx hb dX9_lengths_10 rfl ?_
    obtain ⟨hr1, hs1⟩ := Prod.mk.inj (Option.some.inj hf)
    exact xr_i E hR hS rfl (by rw [hr1]) hs1.symm hc hs dX9_lengths_12
theorem C_X9_lengths {g : GG} {v0 : Nat} {v1 : Int32} {v2 : Int32} {σ : Mm} {r : Int32} {σ' : Mm} (hf : f_X9_lengths v0 v1 v2 σ = some (r, σ')) : Ct g yX9_lengths cX9_lengths 6 (some .int) rm_X9_lengths [.ref (gB g + v0), .int v1, .int v2] σ (some (.int r)) σ' :=
  Ct.of false (by decide +kernel) (fun h => by cases h) (Nat.le_of_ble_eq_true rfl) (V_X9_lengths_0 _ _ _ _ _ _ hf)
abbrev rm_X9_send : Room := { frames := 5, cells := 0, slots := 0, locals := 123 }
set_option maxRecDepth 100000 in
def f_X9_send_31 : Nat → Nat → Int32 → Mm → Option (Int32 × Mm)
  | 0, _, _, _ => none
  | n + 1, v0, v3, σ =>
    zck (kO σ v0 9) (if (mD σ v0 25) ≤ v3 then (some ((mD σ v0 25), σ)) else (zrb (mR σ v0 24) (fun b3 => zrb (mR σ v0 22) (fun b4 => zck (kA σ 1 b4 v3) (zck (kA σ 1 b3 v3) (zlt (sD σ b3 (ix v3) (mD σ b4 (ix v3))) (fun σ7 => f_X9_send_31 n v0 (v3 + (1 : Int32)) σ7)))))))
set_option maxRecDepth 100000 in
set_option maxHeartbeats 4000000 in
theorem V_X9_send_31 {g : GG} : ∀ (n : Nat) (v0 : Nat) (v3 : Int32) (σ : Mm) (r : Int32) (σ' : Mm), f_X9_send_31 n v0 v3 σ = some (r, σ') → VJ g RX9 cX9_send 4 (some .int) false rm_X9_send (some (.int r)) σ' (0) (0) 31 [(0, .ref (gB g + v0)), (3, .int v3)] [] σ := by
  intro n
  induction n with
  | zero =>
    intro v0 v3 σ r σ' hf
    unfold f_X9_send_31 at hf
    cases hf
  | succ n ih =>
    intro v0 v3 σ r σ' hf p e s m args below meth c H locs cells slots ls E hR hS hl hc hs
    obtain ⟨hx, hb, hml, hr, hlocks, hown, hts, hin, hT⟩ := id E
    unfold f_X9_send_31 at hf
    refine lv_iload_n hx hb dX9_send_31 rfl (lv_at hl 1 rfl) ?_
    refine lv_aload_n hx hb dX9_send_32 rfl (lv_at hl 0 rfl) ?_
    obtain ⟨hk1, hf⟩ := zc_s hf
    refine x_getI E hR hk1 ok9 25 (Nat.le_of_ble_eq_true rfl) rfl fl_X9_202 dX9_send_33 ?_
    refine lv_icmp_ge (tgt := 57) hx hb dX9_send_36 (by decide) (fun hq2 => ?_) (fun hq2 => ?_)
    · have hf := ite_p hq2 hf
      refine lv_aload_n hx hb dX9_send_57 rfl (lv_at hl 0 rfl) ?_
      refine x_getI E hR hk1 ok9 25 (Nat.le_of_ble_eq_true rfl) rfl fl_X9_202 dX9_send_58 ?_
      obtain ⟨hr1, hs1⟩ := Prod.mk.inj (Option.some.inj hf)
      exact xr_i E hR hS rfl (by rw [hr1]) hs1.symm hc hs dX9_send_61
    · have hf := ite_n hq2 hf
      refine lv_aload_n hx hb dX9_send_39 rfl (lv_at hl 0 rfl) ?_
      obtain ⟨b3, hb3, hf⟩ := zr_s hf
      refine x_getR E hR hk1 hb3 ok9 (Nat.le_of_ble_eq_true rfl) rfl fl_X9_71 dX9_send_40 ?_
      refine lv_iload_n hx hb dX9_send_43 rfl (lv_at hl 1 rfl) ?_
      refine lv_aload_n hx hb dX9_send_44 rfl (lv_at hl 0 rfl) ?_
      obtain ⟨b4, hb4, hf⟩ := zr_s hf
      refine x_getR E hR hk1 hb4 ok9 (Nat.le_of_ble_eq_true rfl) rfl fl_X9_68 dX9_send_45 ?_
      refine lv_iload_n hx hb dX9_send_48 rfl (lv_at hl 1 rfl) ?_
      obtain ⟨hk5, hf⟩ := zc_s hf
      refine x_ild E hR hk5 dX9_send_49 ?_
      obtain ⟨hk6, hf⟩ := zc_s hf
      obtain ⟨σ7, eσ7, hf⟩ := zl_s hf
      refine x_ist E hR hS hk6 dX9_send_50 (fun H locs hR hS => ?_)
      rw [← eσ7] at hR
      refine lv_iinc (v := (v3 + (1 : Int32))) (lv' := [(3, .int (v3 + (1 : Int32))), (0, .ref (gB g + v0))]) hx hb dX9_send_51 hl (k := 1) rfl rfl (Nat.le_of_ble_eq_true rfl) rfl (fun ls hl => ?_)
      refine lv_goto (tgt := 31) hx hb dX9_send_54 (by decide) ?_
      exact ih _ _ _ _ _ hf p e s m args below meth c _ _ _ _ _ E hR hS (lv_sub hl [1, 0] rfl) hc hs
set_option maxRecDepth 100000 in
def f_X9_send (v0 : Nat) (v1 : Int32) (v2 : Int32) (σ : Mm) : Option (Int32 × Mm) :=
  zcb (f_X9_isRange v1 v2 σ) (fun r8 σ9 => if r8 = 0 then (some ((-2 : Int32), σ9)) else (zck (kO σ9 v0 9) (zrb (mR σ9 v0 0) (fun b12 => zcb (f_X9_prove v0 b12 v1 v2 σ9) (fun r13 σ14 => zck (kO σ14 v0 9) (zlt (sD σ14 v0 25 (mD σ14 v0 23)) (fun σ16 => f_X9_send_31 1000 v0 (0 : Int32) σ16)))))))
set_option maxRecDepth 100000 in
set_option maxHeartbeats 4000000 in
theorem V_X9_send_0 {g : GG} (v0 : Nat) (v1 : Int32) (v2 : Int32) (σ : Mm) (r : Int32) (σ' : Mm) (hf : f_X9_send v0 v1 v2 σ = some (r, σ')) : VJ g RX9 cX9_send 4 (some .int) false rm_X9_send (some (.int r)) σ' (0) (0) 0 [(0, .ref (gB g + v0)), (1, .int v1), (2, .int v2)] [] σ := by
  intro p e s m args below meth c H locs cells slots ls E hR hS hl hc hs
  obtain ⟨hx, hb, hml, hr, hlocks, hown, hts, hin, hT⟩ := id E
  unfold f_X9_send at hf
  refine lv_iload_n hx hb dX9_send_0 rfl (lv_at hl 1 rfl) ?_
  refine lv_iload_n hx hb dX9_send_1 rfl (lv_at hl 2 rfl) ?_
  obtain ⟨r8, σ9, hcr8, hf⟩ := zq_s hf
  refine xS (As := [.int v1, .int v2]) (rest := []) (st1 := [.int r8]) E hR hS hl (C_X9_isRange hcr8) lb_X9_isRange ls_X9_isRange ml_X9_218 ⟨Nat.le_of_ble_eq_true rfl, Nat.le_of_ble_eq_true rfl⟩ rfl rfl rfl (Nat.le_of_ble_eq_true rfl) dX9_send_2 ⟨hc, hs⟩ (fun H locs hR hS => ?_)
  refine lv_if_ne (tgt := 11) hx hb dX9_send_5 (by decide) (fun hq10 => ?_) (fun hq10 => ?_)
  · have hf := ite_n hq10 hf
    refine lv_aload_n hx hb dX9_send_11 rfl (lv_at hl 0 rfl) ?_
    refine lv_aload_n hx hb dX9_send_12 rfl (lv_at hl 0 rfl) ?_
    obtain ⟨hk11, hf⟩ := zc_s hf
    obtain ⟨b12, hb12, hf⟩ := zr_s hf
    refine x_getR E hR hk11 hb12 ok9 (Nat.le_of_ble_eq_true rfl) rfl fl_X9_7 dX9_send_13 ?_
    refine lv_iload_n hx hb dX9_send_16 rfl (lv_at hl 1 rfl) ?_
    refine lv_iload_n hx hb dX9_send_17 rfl (lv_at hl 2 rfl) ?_
    obtain ⟨r13, σ14, hcr13, hf⟩ := zq_s hf
    refine xV (As := [.ref (gB g + b12), .int v1, .int v2]) (rest := []) (st1 := []) E hR hS hl (C_X9_prove hcr13) hk11 ok9 lb_X9_prove lv_X9_prove ml_X9_223 ⟨Nat.le_of_ble_eq_true rfl, Nat.le_of_ble_eq_true rfl⟩ rfl rfl rfl (Nat.le_of_ble_eq_true rfl) dX9_send_18 ⟨hc, hs⟩ (fun H locs hR hS => ?_)
    refine lv_aload_n hx hb dX9_send_21 rfl (lv_at hl 0 rfl) ?_
    refine lv_aload_n hx hb dX9_send_22 rfl (lv_at hl 0 rfl) ?_
    obtain ⟨hk15, hf⟩ := zc_s hf
    refine x_getI E hR hk15 ok9 23 (Nat.le_of_ble_eq_true rfl) rfl fl_X9_211 dX9_send_23 ?_
    obtain ⟨σ16, eσ16, hf⟩ := zl_s hf
    refine x_putI E hR hS hk15 ok9 25 (Nat.le_of_ble_eq_true rfl) rfl fl_X9_202 (Or.inl rfl) rfl rfl dX9_send_26 (fun H locs hR hS => ?_)
    rw [← eσ16] at hR
    refine lv_iconst (v := (0 : Int32)) hx hb dX9_send_29 rfl ?_
    refine lv_istore_n (lv' := [(3, .int (0 : Int32)), (0, .ref (gB g + v0)), (1, .int v1), (2, .int v2)]) hx hb dX9_send_30 rfl hl (Nat.le_of_ble_eq_true rfl) rfl (fun ls hl => ?_)
    exact V_X9_send_31  1000 _ _ _ _ _ hf p e s m args below meth c _ _ _ _ _ E hR hS (lv_sub hl [1, 0] rfl) hc hs
  · have hf := ite_p hq10 hf
    refine lv_bipush (v := (-2 : Int32)) hx hb dX9_send_8 rfl ?_
    obtain ⟨hr1, hs1⟩ := Prod.mk.inj (Option.some.inj hf)
    exact xr_i E hR hS rfl (by rw [hr1]) hs1.symm hc hs dX9_send_10
theorem C_X9_send {g : GG} {v0 : Nat} {v1 : Int32} {v2 : Int32} {σ : Mm} {r : Int32} {σ' : Mm} (hf : f_X9_send v0 v1 v2 σ = some (r, σ')) : Ct g yX9_send cX9_send 4 (some .int) rm_X9_send [.ref (gB g + v0), .int v1, .int v2] σ (some (.int r)) σ' :=
  Ct.of false (by decide +kernel) (fun h => by cases h) (Nat.le_of_ble_eq_true rfl) (V_X9_send_0 _ _ _ _ _ _ hf)
abbrev rm_X9_isItem : Room := { frames := 1, cells := 0, slots := 0, locals := 25 }
set_option maxRecDepth 100000 in
def f_X9_isItem (v0 : Int32) (σ : Mm) : Option (Int32 × Mm) :=
  if 0 ≤ v0 then (some ((1 : Int32), σ)) else (zcb (f_X9_in ((v0).toInt64) (-10099 : Int64) (-100 : Int64) σ) (fun r2 σ3 => if r2 = 0 then (some ((0 : Int32), σ3)) else (some ((1 : Int32), σ3))))
set_option maxRecDepth 100000 in
set_option maxHeartbeats 4000000 in
theorem V_X9_isItem_0 {g : GG} (v0 : Int32) (σ : Mm) (r : Int32) (σ' : Mm) (hf : f_X9_isItem v0 σ = some (r, σ')) : VJ g RX9 cX9_isItem 1 (some .boolean) false rm_X9_isItem (some (.int r)) σ' (0) (0) 0 [(0, .int v0)] [] σ := by
  intro p e s m args below meth c H locs cells slots ls E hR hS hl hc hs
  obtain ⟨hx, hb, hml, hr, hlocks, hown, hts, hin, hT⟩ := id E
  unfold f_X9_isItem at hf
  refine lv_iload_n hx hb dX9_isItem_0 rfl (lv_at hl 0 rfl) ?_
  refine lv_if_ge (tgt := 18) hx hb dX9_isItem_1 (by decide) (fun hq1 => ?_) (fun hq1 => ?_)
  · have hf := ite_p hq1 hf
    refine lv_iconst (v := (1 : Int32)) hx hb dX9_isItem_18 rfl ?_
    refine lv_goto (tgt := 23) hx hb dX9_isItem_19 (by decide) ?_
    obtain ⟨hr1, hs1⟩ := Prod.mk.inj (Option.some.inj hf)
    exact xr_z E hR hS rfl rfl (by rw [hr1]) hs1.symm hc hs dX9_isItem_23
  · have hf := ite_n hq1 hf
    refine lv_iload_n hx hb dX9_isItem_4 rfl (lv_at hl 0 rfl) ?_
    refine lv_i2l (v := (v0).toInt64) hx hb dX9_isItem_5 rfl ?_
    refine lv_ldc2 (v := (-10099 : Int64)) hx hb hown (hts _ kl_X9_227) dX9_isItem_6 ?_
    refine lv_ldc2 (v := (-100 : Int64)) hx hb hown (hts _ kl_X9_229) dX9_isItem_9 ?_
    obtain ⟨r2, σ3, hcr2, hf⟩ := zq_s hf
    refine xS (As := [.long ((v0).toInt64), .long (-10099 : Int64), .long (-100 : Int64)]) (rest := []) (st1 := [.int r2]) E hR hS hl (C_X9_in hcr2) lb_X9_in ls_X9_in ml_X9_121 ⟨Nat.le_of_ble_eq_true rfl, Nat.le_of_ble_eq_true rfl⟩ rfl rfl rfl (Nat.le_of_ble_eq_true rfl) dX9_isItem_12 ⟨hc, hs⟩ (fun H locs hR hS => ?_)
    refine lv_if_eq (tgt := 22) hx hb dX9_isItem_15 (by decide) (fun hq4 => ?_) (fun hq4 => ?_)
    · have hf := ite_p hq4 hf
      refine lv_iconst (v := (0 : Int32)) hx hb dX9_isItem_22 rfl ?_
      obtain ⟨hr1, hs1⟩ := Prod.mk.inj (Option.some.inj hf)
      exact xr_z E hR hS rfl rfl (by rw [hr1]) hs1.symm hc hs dX9_isItem_23
    · have hf := ite_n hq4 hf
      refine lv_iconst (v := (1 : Int32)) hx hb dX9_isItem_18 rfl ?_
      refine lv_goto (tgt := 23) hx hb dX9_isItem_19 (by decide) ?_
      obtain ⟨hr1, hs1⟩ := Prod.mk.inj (Option.some.inj hf)
      exact xr_z E hR hS rfl rfl (by rw [hr1]) hs1.symm hc hs dX9_isItem_23
theorem C_X9_isItem {g : GG} {v0 : Int32} {σ : Mm} {r : Int32} {σ' : Mm} (hf : f_X9_isItem v0 σ = some (r, σ')) : Ct g yX9_isItem cX9_isItem 1 (some .boolean) rm_X9_isItem [.int v0] σ (some (.int r)) σ' :=
  Ct.of false (by decide +kernel) (fun h => by cases h) (Nat.le_of_ble_eq_true rfl) (V_X9_isItem_0 _ _ _ _ hf)
abbrev rm_X9_tell : Room := { frames := 2, cells := 0, slots := 0, locals := 45 }
set_option maxRecDepth 100000 in
def f_X9_tell (v0 : Nat) (v1 : Int32) (σ : Mm) : Option (Int32 × Mm) :=
  zcb (f_X9_isItem v1 σ) (fun r1 σ2 => if r1 = 0 then (some ((-2 : Int32), σ2)) else (zck (kO σ2 v0 9) (if (mD σ2 v0 25) = (100 : Int32) then (some ((-4 : Int32), σ2)) else (zrb (mR σ2 v0 24) (fun b6 => zck (kA σ2 1 b6 (mD σ2 v0 25)) (zlt (sD σ2 b6 (ix (mD σ2 v0 25)) v1) (fun σ8 => zlt (sD σ8 v0 25 ((mD σ8 v0 25) + (1 : Int32))) (fun σ9 => some ((mD σ9 v0 25), σ9)))))))))
set_option maxRecDepth 100000 in
set_option maxHeartbeats 4000000 in
theorem V_X9_tell_0 {g : GG} (v0 : Nat) (v1 : Int32) (σ : Mm) (r : Int32) (σ' : Mm) (hf : f_X9_tell v0 v1 σ = some (r, σ')) : VJ g RX9 cX9_tell 2 (some .int) false rm_X9_tell (some (.int r)) σ' (0) (0) 0 [(0, .ref (gB g + v0)), (1, .int v1)] [] σ := by
  intro p e s m args below meth c H locs cells slots ls E hR hS hl hc hs
  obtain ⟨hx, hb, hml, hr, hlocks, hown, hts, hin, hT⟩ := id E
  unfold f_X9_tell at hf
  refine lv_iload_n hx hb dX9_tell_0 rfl (lv_at hl 1 rfl) ?_
  obtain ⟨r1, σ2, hcr1, hf⟩ := zq_s hf
  refine xS (As := [.int v1]) (rest := []) (st1 := [.int r1]) E hR hS hl (C_X9_isItem hcr1) lb_X9_isItem ls_X9_isItem ml_X9_231 ⟨Nat.le_of_ble_eq_true rfl, Nat.le_of_ble_eq_true rfl⟩ rfl rfl rfl (Nat.le_of_ble_eq_true rfl) dX9_tell_1 ⟨hc, hs⟩ (fun H locs hR hS => ?_)
  refine lv_if_ne (tgt := 10) hx hb dX9_tell_4 (by decide) (fun hq3 => ?_) (fun hq3 => ?_)
  · have hf := ite_n hq3 hf
    refine lv_aload_n hx hb dX9_tell_10 rfl (lv_at hl 0 rfl) ?_
    obtain ⟨hk4, hf⟩ := zc_s hf
    refine x_getI E hR hk4 ok9 25 (Nat.le_of_ble_eq_true rfl) rfl fl_X9_202 dX9_tell_11 ?_
    refine lv_bipush (v := (100 : Int32)) hx hb dX9_tell_14 rfl ?_
    refine lv_icmp_ne (tgt := 22) hx hb dX9_tell_16 (by decide) (fun hq5 => ?_) (fun hq5 => ?_)
    · have hf := ite_n hq5 hf
      refine lv_aload_n hx hb dX9_tell_22 rfl (lv_at hl 0 rfl) ?_
      obtain ⟨b6, hb6, hf⟩ := zr_s hf
      refine x_getR E hR hk4 hb6 ok9 (Nat.le_of_ble_eq_true rfl) rfl fl_X9_71 dX9_tell_23 ?_
      refine lv_aload_n hx hb dX9_tell_26 rfl (lv_at hl 0 rfl) ?_
      refine x_getI E hR hk4 ok9 25 (Nat.le_of_ble_eq_true rfl) rfl fl_X9_202 dX9_tell_27 ?_
      refine lv_iload_n hx hb dX9_tell_30 rfl (lv_at hl 1 rfl) ?_
      obtain ⟨hk7, hf⟩ := zc_s hf
      obtain ⟨σ8, eσ8, hf⟩ := zl_s hf
      refine x_ist E hR hS hk7 dX9_tell_31 (fun H locs hR hS => ?_)
      rw [← eσ8] at hR
      refine lv_aload_n hx hb dX9_tell_32 rfl (lv_at hl 0 rfl) ?_
      refine lv_dup hx hb dX9_tell_33 rfl ?_
      refine x_getI E hR (by rw [eσ8]; exact hk4) ok9 25 (Nat.le_of_ble_eq_true rfl) rfl fl_X9_202 dX9_tell_34 ?_
      refine lv_iconst (v := (1 : Int32)) hx hb dX9_tell_37 rfl ?_
      refine lv_iadd hx hb dX9_tell_38 ?_
      obtain ⟨σ9, eσ9, hf⟩ := zl_s hf
      refine x_putI E hR hS (by rw [eσ8]; exact hk4) ok9 25 (Nat.le_of_ble_eq_true rfl) rfl fl_X9_202 (Or.inl rfl) rfl rfl dX9_tell_39 (fun H locs hR hS => ?_)
      rw [← eσ9] at hR
      refine lv_aload_n hx hb dX9_tell_42 rfl (lv_at hl 0 rfl) ?_
      refine x_getI E hR (by rw [eσ9, eσ8]; exact hk4) ok9 25 (Nat.le_of_ble_eq_true rfl) rfl fl_X9_202 dX9_tell_43 ?_
      obtain ⟨hr1, hs1⟩ := Prod.mk.inj (Option.some.inj hf)
      exact xr_i E hR hS rfl (by rw [hr1]) hs1.symm hc hs dX9_tell_46
    · have hf := ite_p hq5 hf
      refine lv_bipush (v := (-4 : Int32)) hx hb dX9_tell_19 rfl ?_
      obtain ⟨hr1, hs1⟩ := Prod.mk.inj (Option.some.inj hf)
      exact xr_i E hR hS rfl (by rw [hr1]) hs1.symm hc hs dX9_tell_21
  · have hf := ite_p hq3 hf
    refine lv_bipush (v := (-2 : Int32)) hx hb dX9_tell_7 rfl ?_
    obtain ⟨hr1, hs1⟩ := Prod.mk.inj (Option.some.inj hf)
    exact xr_i E hR hS rfl (by rw [hr1]) hs1.symm hc hs dX9_tell_9
theorem C_X9_tell {g : GG} {v0 : Nat} {v1 : Int32} {σ : Mm} {r : Int32} {σ' : Mm} (hf : f_X9_tell v0 v1 σ = some (r, σ')) : Ct g yX9_tell cX9_tell 2 (some .int) rm_X9_tell [.ref (gB g + v0), .int v1] σ (some (.int r)) σ' :=
  Ct.of false (by decide +kernel) (fun h => by cases h) (Nat.le_of_ble_eq_true rfl) (V_X9_tell_0 _ _ _ _ _ hf)
abbrev rm_X9_alter : Room := { frames := 2, cells := 0, slots := 0, locals := 45 }
set_option maxRecDepth 100000 in
def f_X9_alter (v0 : Nat) (v1 : Int32) (v2 : Int32) (σ : Mm) : Option (Int32 × Mm) :=
  zck (kO σ v0 9) (zcb (f_X9_in ((v1).toInt64) (0 : Int64) ((((mD σ v0 25) - (1 : Int32))).toInt64) σ) (fun r2 σ3 => if r2 = 0 then (some ((-1 : Int32), σ3)) else (zcb (f_X9_isItem v2 σ3) (fun r5 σ6 => if r5 = 0 then (some ((-2 : Int32), σ6)) else (zck (kO σ6 v0 9) (zrb (mR σ6 v0 24) (fun b9 => zck (kA σ6 1 b9 v1) (zck (kA σ6 1 b9 v1) (zlt (sD σ6 b9 (ix v1) v2) (fun σ12 => some ((mD σ6 b9 (ix v1)), σ12)))))))))))
set_option maxRecDepth 100000 in
set_option maxHeartbeats 4000000 in
theorem V_X9_alter_0 {g : GG} (v0 : Nat) (v1 : Int32) (v2 : Int32) (σ : Mm) (r : Int32) (σ' : Mm) (hf : f_X9_alter v0 v1 v2 σ = some (r, σ')) : VJ g RX9 cX9_alter 4 (some .int) false rm_X9_alter (some (.int r)) σ' (0) (0) 0 [(0, .ref (gB g + v0)), (1, .int v1), (2, .int v2)] [] σ := by
  intro p e s m args below meth c H locs cells slots ls E hR hS hl hc hs
  obtain ⟨hx, hb, hml, hr, hlocks, hown, hts, hin, hT⟩ := id E
  unfold f_X9_alter at hf
  refine lv_iload_n hx hb dX9_alter_0 rfl (lv_at hl 1 rfl) ?_
  refine lv_i2l (v := (v1).toInt64) hx hb dX9_alter_1 rfl ?_
  refine lv_lconst (v := (0 : Int64)) hx hb dX9_alter_2 rfl ?_
  refine lv_aload_n hx hb dX9_alter_3 rfl (lv_at hl 0 rfl) ?_
  obtain ⟨hk1, hf⟩ := zc_s hf
  refine x_getI E hR hk1 ok9 25 (Nat.le_of_ble_eq_true rfl) rfl fl_X9_202 dX9_alter_4 ?_
  refine lv_iconst (v := (1 : Int32)) hx hb dX9_alter_7 rfl ?_
  refine lv_isub hx hb dX9_alter_8 ?_
  refine lv_i2l (v := (((mD σ v0 25) - (1 : Int32))).toInt64) hx hb dX9_alter_9 rfl ?_
  obtain ⟨r2, σ3, hcr2, hf⟩ := zq_s hf
  refine xS (As := [.long ((v1).toInt64), .long (0 : Int64), .long ((((mD σ v0 25) - (1 : Int32))).toInt64)]) (rest := []) (st1 := [.int r2]) E hR hS hl (C_X9_in hcr2) lb_X9_in ls_X9_in ml_X9_121 ⟨Nat.le_of_ble_eq_true rfl, Nat.le_of_ble_eq_true rfl⟩ rfl rfl rfl (Nat.le_of_ble_eq_true rfl) dX9_alter_10 ⟨hc, hs⟩ (fun H locs hR hS => ?_)
  refine lv_if_ne (tgt := 18) hx hb dX9_alter_13 (by decide) (fun hq4 => ?_) (fun hq4 => ?_)
  · have hf := ite_n hq4 hf
    refine lv_iload_n hx hb dX9_alter_18 rfl (lv_at hl 2 rfl) ?_
    obtain ⟨r5, σ6, hcr5, hf⟩ := zq_s hf
    refine xS (As := [.int v2]) (rest := []) (st1 := [.int r5]) E hR hS hl (C_X9_isItem hcr5) lb_X9_isItem ls_X9_isItem ml_X9_231 ⟨Nat.le_of_ble_eq_true rfl, Nat.le_of_ble_eq_true rfl⟩ rfl rfl rfl (Nat.le_of_ble_eq_true rfl) dX9_alter_19 ⟨hc, hs⟩ (fun H locs hR hS => ?_)
    refine lv_if_ne (tgt := 28) hx hb dX9_alter_22 (by decide) (fun hq7 => ?_) (fun hq7 => ?_)
    · have hf := ite_n hq7 hf
      refine lv_aload_n hx hb dX9_alter_28 rfl (lv_at hl 0 rfl) ?_
      obtain ⟨hk8, hf⟩ := zc_s hf
      obtain ⟨b9, hb9, hf⟩ := zr_s hf
      refine x_getR E hR hk8 hb9 ok9 (Nat.le_of_ble_eq_true rfl) rfl fl_X9_71 dX9_alter_29 ?_
      refine lv_iload_n hx hb dX9_alter_32 rfl (lv_at hl 1 rfl) ?_
      obtain ⟨hk10, hf⟩ := zc_s hf
      refine x_ild E hR hk10 dX9_alter_33 ?_
      refine lv_istore_n (lv' := [(3, .int (mD σ6 b9 (ix v1))), (0, .ref (gB g + v0)), (1, .int v1), (2, .int v2)]) hx hb dX9_alter_34 rfl hl (Nat.le_of_ble_eq_true rfl) rfl (fun ls hl => ?_)
      refine lv_aload_n hx hb dX9_alter_35 rfl (lv_at hl 1 rfl) ?_
      refine x_getR E hR hk8 hb9 ok9 (Nat.le_of_ble_eq_true rfl) rfl fl_X9_71 dX9_alter_36 ?_
      refine lv_iload_n hx hb dX9_alter_39 rfl (lv_at hl 2 rfl) ?_
      refine lv_iload_n hx hb dX9_alter_40 rfl (lv_at hl 3 rfl) ?_
      obtain ⟨hk11, hf⟩ := zc_s hf
      obtain ⟨σ12, eσ12, hf⟩ := zl_s hf
      refine x_ist E hR hS hk11 dX9_alter_41 (fun H locs hR hS => ?_)
      rw [← eσ12] at hR
      refine lv_iload_n hx hb dX9_alter_42 rfl (lv_at hl 0 rfl) ?_
      obtain ⟨hr1, hs1⟩ := Prod.mk.inj (Option.some.inj hf)
      exact xr_i E hR hS rfl (by rw [hr1]) hs1.symm hc hs dX9_alter_43
    · have hf := ite_p hq7 hf
      refine lv_bipush (v := (-2 : Int32)) hx hb dX9_alter_25 rfl ?_
      obtain ⟨hr1, hs1⟩ := Prod.mk.inj (Option.some.inj hf)
      exact xr_i E hR hS rfl (by rw [hr1]) hs1.symm hc hs dX9_alter_27
  · have hf := ite_p hq4 hf
    refine lv_iconst (v := (-1 : Int32)) hx hb dX9_alter_16 rfl ?_
    obtain ⟨hr1, hs1⟩ := Prod.mk.inj (Option.some.inj hf)
    exact xr_i E hR hS rfl (by rw [hr1]) hs1.symm hc hs dX9_alter_17
theorem C_X9_alter {g : GG} {v0 : Nat} {v1 : Int32} {v2 : Int32} {σ : Mm} {r : Int32} {σ' : Mm} (hf : f_X9_alter v0 v1 v2 σ = some (r, σ')) : Ct g yX9_alter cX9_alter 4 (some .int) rm_X9_alter [.ref (gB g + v0), .int v1, .int v2] σ (some (.int r)) σ' :=
  Ct.of false (by decide +kernel) (fun h => by cases h) (Nat.le_of_ble_eq_true rfl) (V_X9_alter_0 _ _ _ _ _ _ hf)
abbrev rm_X9_cut : Room := { frames := 1, cells := 0, slots := 0, locals := 25 }
set_option maxRecDepth 100000 in
def f_X9_cut (v0 : Nat) (v1 : Int32) (σ : Mm) : Option (Int32 × Mm) :=
  zck (kO σ v0 9) (zcb (f_X9_in ((v1).toInt64) (0 : Int64) (((mD σ v0 25)).toInt64) σ) (fun r2 σ3 => if r2 = 0 then (some ((-2 : Int32), σ3)) else (zck (kO σ3 v0 9) (zlt (sD σ3 v0 25 v1) (fun σ6 => some ((mD σ3 v0 25), σ6))))))
set_option maxRecDepth 100000 in
set_option maxHeartbeats 4000000 in
theorem V_X9_cut_0 {g : GG} (v0 : Nat) (v1 : Int32) (σ : Mm) (r : Int32) (σ' : Mm) (hf : f_X9_cut v0 v1 σ = some (r, σ')) : VJ g RX9 cX9_cut 3 (some .int) false rm_X9_cut (some (.int r)) σ' (0) (0) 0 [(0, .ref (gB g + v0)), (1, .int v1)] [] σ := by
  intro p e s m args below meth c H locs cells slots ls E hR hS hl hc hs
  obtain ⟨hx, hb, hml, hr, hlocks, hown, hts, hin, hT⟩ := id E
  unfold f_X9_cut at hf
  refine lv_iload_n hx hb dX9_cut_0 rfl (lv_at hl 1 rfl) ?_
  refine lv_i2l (v := (v1).toInt64) hx hb dX9_cut_1 rfl ?_
  refine lv_lconst (v := (0 : Int64)) hx hb dX9_cut_2 rfl ?_
  refine lv_aload_n hx hb dX9_cut_3 rfl (lv_at hl 0 rfl) ?_
  obtain ⟨hk1, hf⟩ := zc_s hf
  refine x_getI E hR hk1 ok9 25 (Nat.le_of_ble_eq_true rfl) rfl fl_X9_202 dX9_cut_4 ?_
  refine lv_i2l (v := ((mD σ v0 25)).toInt64) hx hb dX9_cut_7 rfl ?_
  obtain ⟨r2, σ3, hcr2, hf⟩ := zq_s hf
  refine xS (As := [.long ((v1).toInt64), .long (0 : Int64), .long (((mD σ v0 25)).toInt64)]) (rest := []) (st1 := [.int r2]) E hR hS hl (C_X9_in hcr2) lb_X9_in ls_X9_in ml_X9_121 ⟨Nat.le_of_ble_eq_true rfl, Nat.le_of_ble_eq_true rfl⟩ rfl rfl rfl (Nat.le_of_ble_eq_true rfl) dX9_cut_8 ⟨hc, hs⟩ (fun H locs hR hS => ?_)
  refine lv_if_ne (tgt := 17) hx hb dX9_cut_11 (by decide) (fun hq4 => ?_) (fun hq4 => ?_)
  · have hf := ite_n hq4 hf
    refine lv_aload_n hx hb dX9_cut_17 rfl (lv_at hl 0 rfl) ?_
    obtain ⟨hk5, hf⟩ := zc_s hf
    refine x_getI E hR hk5 ok9 25 (Nat.le_of_ble_eq_true rfl) rfl fl_X9_202 dX9_cut_18 ?_
    refine lv_istore_n (lv' := [(2, .int (mD σ3 v0 25)), (0, .ref (gB g + v0)), (1, .int v1)]) hx hb dX9_cut_21 rfl hl (Nat.le_of_ble_eq_true rfl) rfl (fun ls hl => ?_)
    refine lv_aload_n hx hb dX9_cut_22 rfl (lv_at hl 1 rfl) ?_
    refine lv_iload_n hx hb dX9_cut_23 rfl (lv_at hl 2 rfl) ?_
    obtain ⟨σ6, eσ6, hf⟩ := zl_s hf
    refine x_putI E hR hS hk5 ok9 25 (Nat.le_of_ble_eq_true rfl) rfl fl_X9_202 (Or.inl rfl) rfl rfl dX9_cut_24 (fun H locs hR hS => ?_)
    rw [← eσ6] at hR
    refine lv_iload_n hx hb dX9_cut_27 rfl (lv_at hl 0 rfl) ?_
    obtain ⟨hr1, hs1⟩ := Prod.mk.inj (Option.some.inj hf)
    exact xr_i E hR hS rfl (by rw [hr1]) hs1.symm hc hs dX9_cut_28
  · have hf := ite_p hq4 hf
    refine lv_bipush (v := (-2 : Int32)) hx hb dX9_cut_14 rfl ?_
    obtain ⟨hr1, hs1⟩ := Prod.mk.inj (Option.some.inj hf)
    exact xr_i E hR hS rfl (by rw [hr1]) hs1.symm hc hs dX9_cut_16
theorem C_X9_cut {g : GG} {v0 : Nat} {v1 : Int32} {σ : Mm} {r : Int32} {σ' : Mm} (hf : f_X9_cut v0 v1 σ = some (r, σ')) : Ct g yX9_cut cX9_cut 3 (some .int) rm_X9_cut [.ref (gB g + v0), .int v1] σ (some (.int r)) σ' :=
  Ct.of false (by decide +kernel) (fun h => by cases h) (Nat.le_of_ble_eq_true rfl) (V_X9_cut_0 _ _ _ _ _ hf)
abbrev rm_X9_takeTrust : Room := { frames := 0, cells := 0, slots := 0, locals := 0 }
set_option maxRecDepth 100000 in
def f_X9_takeTrust_47 (v0 : Nat) (v1 : Int32) (σ : Mm) : Option (Int32 × Mm) :=
  zck (kO σ v0 9) (zrb (mR σ v0 27) (fun b2 => zck (kA σ 1 b2 (mD σ v0 28)) (zlt (sD σ b2 (ix (mD σ v0 28)) (mD σ v0 26)) (fun σ4 => zlt (sD σ4 v0 28 ((mD σ4 v0 28) + (1 : Int32))) (fun σ5 => zlt (sD σ5 v0 26 v1) (fun σ6 => some ((mD σ6 v0 28), σ6)))))))
set_option maxRecDepth 100000 in
set_option maxHeartbeats 4000000 in
theorem V_X9_takeTrust_47 {g : GG} (v0 : Nat) (v1 : Int32) (σ : Mm) (r : Int32) (σ' : Mm) (hf : f_X9_takeTrust_47 v0 v1 σ = some (r, σ')) : VJ g RX9 cX9_takeTrust 3 (some .int) false rm_X9_takeTrust (some (.int r)) σ' (0) (0) 47 [(0, .ref (gB g + v0)), (1, .int v1)] [] σ := by
  intro p e s m args below meth c H locs cells slots ls E hR hS hl hc hs
  obtain ⟨hx, hb, hml, hr, hlocks, hown, hts, hin, hT⟩ := id E
  unfold f_X9_takeTrust_47 at hf
  refine lv_aload_n hx hb dX9_takeTrust_47 rfl (lv_at hl 0 rfl) ?_
  obtain ⟨hk1, hf⟩ := zc_s hf
  obtain ⟨b2, hb2, hf⟩ := zr_s hf
  refine x_getR E hR hk1 hb2 ok9 (Nat.le_of_ble_eq_true rfl) rfl fl_X9_74 dX9_takeTrust_48 ?_
  refine lv_aload_n hx hb dX9_takeTrust_51 rfl (lv_at hl 0 rfl) ?_
  refine x_getI E hR hk1 ok9 28 (Nat.le_of_ble_eq_true rfl) rfl fl_X9_208 dX9_takeTrust_52 ?_
  refine lv_aload_n hx hb dX9_takeTrust_55 rfl (lv_at hl 0 rfl) ?_
  refine x_getI E hR hk1 ok9 26 (Nat.le_of_ble_eq_true rfl) rfl fl_X9_205 dX9_takeTrust_56 ?_
  obtain ⟨hk3, hf⟩ := zc_s hf
  obtain ⟨σ4, eσ4, hf⟩ := zl_s hf
  refine x_ist E hR hS hk3 dX9_takeTrust_59 (fun H locs hR hS => ?_)
  rw [← eσ4] at hR
  refine lv_aload_n hx hb dX9_takeTrust_60 rfl (lv_at hl 0 rfl) ?_
  refine lv_dup hx hb dX9_takeTrust_61 rfl ?_
  refine x_getI E hR (by rw [eσ4]; exact hk1) ok9 28 (Nat.le_of_ble_eq_true rfl) rfl fl_X9_208 dX9_takeTrust_62 ?_
  refine lv_iconst (v := (1 : Int32)) hx hb dX9_takeTrust_65 rfl ?_
  refine lv_iadd hx hb dX9_takeTrust_66 ?_
  obtain ⟨σ5, eσ5, hf⟩ := zl_s hf
  refine x_putI E hR hS (by rw [eσ4]; exact hk1) ok9 28 (Nat.le_of_ble_eq_true rfl) rfl fl_X9_208 (Or.inl rfl) rfl rfl dX9_takeTrust_67 (fun H locs hR hS => ?_)
  rw [← eσ5] at hR
  refine lv_aload_n hx hb dX9_takeTrust_70 rfl (lv_at hl 0 rfl) ?_
  refine lv_iload_n hx hb dX9_takeTrust_71 rfl (lv_at hl 1 rfl) ?_
  obtain ⟨σ6, eσ6, hf⟩ := zl_s hf
  refine x_putI E hR hS (by rw [eσ5, eσ4]; exact hk1) ok9 26 (Nat.le_of_ble_eq_true rfl) rfl fl_X9_205 (Or.inl rfl) rfl rfl dX9_takeTrust_72 (fun H locs hR hS => ?_)
  rw [← eσ6] at hR
  refine lv_aload_n hx hb dX9_takeTrust_75 rfl (lv_at hl 0 rfl) ?_
  refine x_getI E hR (by rw [eσ6, eσ5, eσ4]; exact hk1) ok9 28 (Nat.le_of_ble_eq_true rfl) rfl fl_X9_208 dX9_takeTrust_76 ?_
  obtain ⟨hr1, hs1⟩ := Prod.mk.inj (Option.some.inj hf)
  exact xr_i E hR hS rfl (by rw [hr1]) hs1.symm hc hs dX9_takeTrust_79
set_option maxRecDepth 100000 in
def f_X9_takeTrust_11 : Nat → Nat → Int32 → Int32 → Mm → Option (Int32 × Mm)
  | 0, _, _, _, _ => none
  | n + 1, v0, v1, v2, σ =>
    if (8 : Int32) ≤ v2 then (zck (kO σ v0 9) (zlt (sD σ v0 28 ((mD σ v0 28) - (1 : Int32))) (fun σ9 => f_X9_takeTrust_47 v0 v1 σ9))) else (zck (kO σ v0 9) (zrb (mR σ v0 27) (fun b11 => zck (kA σ 1 b11 v2) (zck (kA σ 1 b11 (v2 - (1 : Int32))) (zlt (sD σ b11 (ix (v2 - (1 : Int32))) (mD σ b11 (ix v2))) (fun σ14 => f_X9_takeTrust_11 n v0 v1 (v2 + (1 : Int32)) σ14))))))
set_option maxRecDepth 100000 in
set_option maxHeartbeats 4000000 in
theorem V_X9_takeTrust_11 {g : GG} : ∀ (n : Nat) (v0 : Nat) (v1 : Int32) (v2 : Int32) (σ : Mm) (r : Int32) (σ' : Mm), f_X9_takeTrust_11 n v0 v1 v2 σ = some (r, σ') → VJ g RX9 cX9_takeTrust 3 (some .int) false rm_X9_takeTrust (some (.int r)) σ' (0) (0) 11 [(0, .ref (gB g + v0)), (1, .int v1), (2, .int v2)] [] σ := by
  intro n
  induction n with
  | zero =>
    intro v0 v1 v2 σ r σ' hf
    unfold f_X9_takeTrust_11 at hf
    cases hf
  | succ n ih =>
    intro v0 v1 v2 σ r σ' hf p e s m args below meth c H locs cells slots ls E hR hS hl hc hs
    obtain ⟨hx, hb, hml, hr, hlocks, hown, hts, hin, hT⟩ := id E
    unfold f_X9_takeTrust_11 at hf
    refine lv_iload_n hx hb dX9_takeTrust_11 rfl (lv_at hl 2 rfl) ?_
    refine lv_bipush (v := (8 : Int32)) hx hb dX9_takeTrust_12 rfl ?_
    refine lv_icmp_ge (tgt := 37) hx hb dX9_takeTrust_14 (by decide) (fun hq7 => ?_) (fun hq7 => ?_)
    · have hf := ite_p hq7 hf
      refine lv_aload_n hx hb dX9_takeTrust_37 rfl (lv_at hl 0 rfl) ?_
      refine lv_dup hx hb dX9_takeTrust_38 rfl ?_
      obtain ⟨hk8, hf⟩ := zc_s hf
      refine x_getI E hR hk8 ok9 28 (Nat.le_of_ble_eq_true rfl) rfl fl_X9_208 dX9_takeTrust_39 ?_
      refine lv_iconst (v := (1 : Int32)) hx hb dX9_takeTrust_42 rfl ?_
      refine lv_isub hx hb dX9_takeTrust_43 ?_
      obtain ⟨σ9, eσ9, hf⟩ := zl_s hf
      refine x_putI E hR hS hk8 ok9 28 (Nat.le_of_ble_eq_true rfl) rfl fl_X9_208 (Or.inl rfl) rfl rfl dX9_takeTrust_44 (fun H locs hR hS => ?_)
      rw [← eσ9] at hR
      exact V_X9_takeTrust_47  _ _ _ _ _ hf p e s m args below meth c _ _ _ _ _ E hR hS (lv_sub hl [0, 1] rfl) hc hs
    · have hf := ite_n hq7 hf
      refine lv_aload_n hx hb dX9_takeTrust_17 rfl (lv_at hl 0 rfl) ?_
      obtain ⟨hk10, hf⟩ := zc_s hf
      obtain ⟨b11, hb11, hf⟩ := zr_s hf
      refine x_getR E hR hk10 hb11 ok9 (Nat.le_of_ble_eq_true rfl) rfl fl_X9_74 dX9_takeTrust_18 ?_
      refine lv_iload_n hx hb dX9_takeTrust_21 rfl (lv_at hl 2 rfl) ?_
      refine lv_iconst (v := (1 : Int32)) hx hb dX9_takeTrust_22 rfl ?_
      refine lv_isub hx hb dX9_takeTrust_23 ?_
      refine lv_aload_n hx hb dX9_takeTrust_24 rfl (lv_at hl 0 rfl) ?_
      refine x_getR E hR hk10 hb11 ok9 (Nat.le_of_ble_eq_true rfl) rfl fl_X9_74 dX9_takeTrust_25 ?_
      refine lv_iload_n hx hb dX9_takeTrust_28 rfl (lv_at hl 2 rfl) ?_
      obtain ⟨hk12, hf⟩ := zc_s hf
      refine x_ild E hR hk12 dX9_takeTrust_29 ?_
      obtain ⟨hk13, hf⟩ := zc_s hf
      obtain ⟨σ14, eσ14, hf⟩ := zl_s hf
      refine x_ist E hR hS hk13 dX9_takeTrust_30 (fun H locs hR hS => ?_)
      rw [← eσ14] at hR
      refine lv_iinc (v := (v2 + (1 : Int32))) (lv' := [(2, .int (v2 + (1 : Int32))), (0, .ref (gB g + v0)), (1, .int v1)]) hx hb dX9_takeTrust_31 hl (k := 2) rfl rfl (Nat.le_of_ble_eq_true rfl) rfl (fun ls hl => ?_)
      refine lv_goto (tgt := 11) hx hb dX9_takeTrust_34 (by decide) ?_
      exact ih _ _ _ _ _ _ hf p e s m args below meth c _ _ _ _ _ E hR hS (lv_sub hl [1, 2, 0] rfl) hc hs
set_option maxRecDepth 100000 in
def f_X9_takeTrust (v0 : Nat) (v1 : Int32) (σ : Mm) : Option (Int32 × Mm) :=
  zck (kO σ v0 9) (if (mD σ v0 28) = (8 : Int32) then (f_X9_takeTrust_11 1000 v0 v1 (1 : Int32) σ) else (f_X9_takeTrust_47 v0 v1 σ))
set_option maxRecDepth 100000 in
set_option maxHeartbeats 4000000 in
theorem V_X9_takeTrust_0 {g : GG} (v0 : Nat) (v1 : Int32) (σ : Mm) (r : Int32) (σ' : Mm) (hf : f_X9_takeTrust v0 v1 σ = some (r, σ')) : VJ g RX9 cX9_takeTrust 3 (some .int) false rm_X9_takeTrust (some (.int r)) σ' (0) (0) 0 [(0, .ref (gB g + v0)), (1, .int v1)] [] σ := by
  intro p e s m args below meth c H locs cells slots ls E hR hS hl hc hs
  obtain ⟨hx, hb, hml, hr, hlocks, hown, hts, hin, hT⟩ := id E
  unfold f_X9_takeTrust at hf
  refine lv_aload_n hx hb dX9_takeTrust_0 rfl (lv_at hl 0 rfl) ?_
  obtain ⟨hk15, hf⟩ := zc_s hf
  refine x_getI E hR hk15 ok9 28 (Nat.le_of_ble_eq_true rfl) rfl fl_X9_208 dX9_takeTrust_1 ?_
  refine lv_bipush (v := (8 : Int32)) hx hb dX9_takeTrust_4 rfl ?_
  refine lv_icmp_ne (tgt := 47) hx hb dX9_takeTrust_6 (by decide) (fun hq16 => ?_) (fun hq16 => ?_)
  · have hf := ite_n hq16 hf
    exact V_X9_takeTrust_47  _ _ _ _ _ hf p e s m args below meth c _ _ _ _ _ E hR hS (lv_sub hl [0, 1] rfl) hc hs
  · have hf := ite_p hq16 hf
    refine lv_iconst (v := (1 : Int32)) hx hb dX9_takeTrust_9 rfl ?_
    refine lv_istore_n (lv' := [(2, .int (1 : Int32)), (0, .ref (gB g + v0)), (1, .int v1)]) hx hb dX9_takeTrust_10 rfl hl (Nat.le_of_ble_eq_true rfl) rfl (fun ls hl => ?_)
    exact V_X9_takeTrust_11  1000 _ _ _ _ _ _ hf p e s m args below meth c _ _ _ _ _ E hR hS (lv_sub hl [1, 2, 0] rfl) hc hs
theorem C_X9_takeTrust {g : GG} {v0 : Nat} {v1 : Int32} {σ : Mm} {r : Int32} {σ' : Mm} (hf : f_X9_takeTrust v0 v1 σ = some (r, σ')) : Ct g yX9_takeTrust cX9_takeTrust 3 (some .int) rm_X9_takeTrust [.ref (gB g + v0), .int v1] σ (some (.int r)) σ' :=
  Ct.of false (by decide +kernel) (fun h => by cases h) (Nat.le_of_ble_eq_true rfl) (V_X9_takeTrust_0 _ _ _ _ _ hf)
abbrev rm_X9_trust : Room := { frames := 5, cells := 0, slots := 0, locals := 117 }
set_option maxRecDepth 100000 in
def f_X9_trust (v0 : Nat) (σ : Mm) : Option (Int32 × Mm) :=
  zck (kO σ v0 9) (zrb (mR σ v0 0) (fun b2 => zcb (f_X9_rootOf v0 b2 σ) (fun r3 σ4 => zck (kO σ4 v0 9) (zcb (f_X9_takeTrust v0 r3 σ4) (fun r6 σ7 => some (r6, σ7))))))
set_option maxRecDepth 100000 in
set_option maxHeartbeats 4000000 in
theorem V_X9_trust_0 {g : GG} (v0 : Nat) (σ : Mm) (r : Int32) (σ' : Mm) (hf : f_X9_trust v0 σ = some (r, σ')) : VJ g RX9 cX9_trust 1 (some .int) false rm_X9_trust (some (.int r)) σ' (0) (0) 0 [(0, .ref (gB g + v0))] [] σ := by
  intro p e s m args below meth c H locs cells slots ls E hR hS hl hc hs
  obtain ⟨hx, hb, hml, hr, hlocks, hown, hts, hin, hT⟩ := id E
  unfold f_X9_trust at hf
  refine lv_aload_n hx hb dX9_trust_0 rfl (lv_at hl 0 rfl) ?_
  refine lv_aload_n hx hb dX9_trust_1 rfl (lv_at hl 0 rfl) ?_
  refine lv_aload_n hx hb dX9_trust_2 rfl (lv_at hl 0 rfl) ?_
  obtain ⟨hk1, hf⟩ := zc_s hf
  obtain ⟨b2, hb2, hf⟩ := zr_s hf
  refine x_getR E hR hk1 hb2 ok9 (Nat.le_of_ble_eq_true rfl) rfl fl_X9_7 dX9_trust_3 ?_
  obtain ⟨r3, σ4, hcr3, hf⟩ := zq_s hf
  refine xV (As := [.ref (gB g + b2)]) (rest := [.ref (gB g + v0)]) (st1 := [.int r3, .ref (gB g + v0)]) E hR hS hl (C_X9_rootOf hcr3) hk1 ok9 lb_X9_rootOf lv_X9_rootOf ml_X9_192 ⟨Nat.le_of_ble_eq_true rfl, Nat.le_of_ble_eq_true rfl⟩ rfl rfl rfl (Nat.le_of_ble_eq_true rfl) dX9_trust_6 ⟨hc, hs⟩ (fun H locs hR hS => ?_)
  obtain ⟨hk5, hf⟩ := zc_s hf
  obtain ⟨r6, σ7, hcr6, hf⟩ := zq_s hf
  refine xV (As := [.int r3]) (rest := []) (st1 := [.int r6]) E hR hS hl (C_X9_takeTrust hcr6) hk5 ok9 lb_X9_takeTrust lv_X9_takeTrust ml_X9_234 ⟨Nat.le_of_ble_eq_true rfl, Nat.le_of_ble_eq_true rfl⟩ rfl rfl rfl (Nat.le_of_ble_eq_true rfl) dX9_trust_9 ⟨hc, hs⟩ (fun H locs hR hS => ?_)
  obtain ⟨hr1, hs1⟩ := Prod.mk.inj (Option.some.inj hf)
  exact xr_i E hR hS rfl (by rw [hr1]) hs1.symm hc hs dX9_trust_12
theorem C_X9_trust {g : GG} {v0 : Nat} {σ : Mm} {r : Int32} {σ' : Mm} (hf : f_X9_trust v0 σ = some (r, σ')) : Ct g yX9_trust cX9_trust 1 (some .int) rm_X9_trust [.ref (gB g + v0)] σ (some (.int r)) σ' :=
  Ct.of false (by decide +kernel) (fun h => by cases h) (Nat.le_of_ble_eq_true rfl) (V_X9_trust_0 _ _ _ _ hf)
abbrev rm_X9_believe : Room := { frames := 1, cells := 0, slots := 0, locals := 22 }
set_option maxRecDepth 100000 in
def f_X9_believe (v0 : Nat) (v1 : Int32) (σ : Mm) : Option (Int32 × Mm) :=
  if 0 ≤ v1 then (zck (kO σ v0 9) (zcb (f_X9_takeTrust v0 v1 σ) (fun r3 σ4 => some (r3, σ4)))) else (some ((-2 : Int32), σ))
set_option maxRecDepth 100000 in
set_option maxHeartbeats 4000000 in
theorem V_X9_believe_0 {g : GG} (v0 : Nat) (v1 : Int32) (σ : Mm) (r : Int32) (σ' : Mm) (hf : f_X9_believe v0 v1 σ = some (r, σ')) : VJ g RX9 cX9_believe 2 (some .int) false rm_X9_believe (some (.int r)) σ' (0) (0) 0 [(0, .ref (gB g + v0)), (1, .int v1)] [] σ := by
  intro p e s m args below meth c H locs cells slots ls E hR hS hl hc hs
  obtain ⟨hx, hb, hml, hr, hlocks, hown, hts, hin, hT⟩ := id E
  unfold f_X9_believe at hf
  refine lv_iload_n hx hb dX9_believe_0 rfl (lv_at hl 1 rfl) ?_
  refine lv_if_ge (tgt := 9) hx hb dX9_believe_1 (by decide) (fun hq1 => ?_) (fun hq1 => ?_)
  · have hf := ite_p hq1 hf
    refine lv_aload_n hx hb dX9_believe_9 rfl (lv_at hl 0 rfl) ?_
    refine lv_iload_n hx hb dX9_believe_10 rfl (lv_at hl 1 rfl) ?_
    obtain ⟨hk2, hf⟩ := zc_s hf
    obtain ⟨r3, σ4, hcr3, hf⟩ := zq_s hf
    refine xV (As := [.int v1]) (rest := []) (st1 := [.int r3]) E hR hS hl (C_X9_takeTrust hcr3) hk2 ok9 lb_X9_takeTrust lv_X9_takeTrust ml_X9_234 ⟨Nat.le_of_ble_eq_true rfl, Nat.le_of_ble_eq_true rfl⟩ rfl rfl rfl (Nat.le_of_ble_eq_true rfl) dX9_believe_11 ⟨hc, hs⟩ (fun H locs hR hS => ?_)
    obtain ⟨hr1, hs1⟩ := Prod.mk.inj (Option.some.inj hf)
    exact xr_i E hR hS rfl (by rw [hr1]) hs1.symm hc hs dX9_believe_14
  · have hf := ite_n hq1 hf
    refine lv_bipush (v := (-2 : Int32)) hx hb dX9_believe_4 rfl ?_
    refine lv_goto (tgt := 14) hx hb dX9_believe_6 (by decide) ?_
    obtain ⟨hr1, hs1⟩ := Prod.mk.inj (Option.some.inj hf)
    exact xr_i E hR hS rfl (by rw [hr1]) hs1.symm hc hs dX9_believe_14
theorem C_X9_believe {g : GG} {v0 : Nat} {v1 : Int32} {σ : Mm} {r : Int32} {σ' : Mm} (hf : f_X9_believe v0 v1 σ = some (r, σ')) : Ct g yX9_believe cX9_believe 2 (some .int) rm_X9_believe [.ref (gB g + v0), .int v1] σ (some (.int r)) σ' :=
  Ct.of false (by decide +kernel) (fun h => by cases h) (Nat.le_of_ble_eq_true rfl) (V_X9_believe_0 _ _ _ _ _ hf)
abbrev rm_X9_former : Room := { frames := 1, cells := 0, slots := 0, locals := 25 }
set_option maxRecDepth 100000 in
def f_X9_former (v0 : Nat) (v1 : Int32) (σ : Mm) : Option (Int32 × Mm) :=
  zck (kO σ v0 9) (zcb (f_X9_in ((v1).toInt64) (0 : Int64) ((((mD σ v0 28) - (1 : Int32))).toInt64) σ) (fun r2 σ3 => if r2 = 0 then (some ((-1 : Int32), σ3)) else (zck (kO σ3 v0 9) (zrb (mR σ3 v0 27) (fun b6 => zck (kA σ3 1 b6 (((mD σ3 v0 28) - (1 : Int32)) - v1)) (some ((mD σ3 b6 (ix (((mD σ3 v0 28) - (1 : Int32)) - v1))), σ3)))))))
set_option maxRecDepth 100000 in
set_option maxHeartbeats 4000000 in
theorem V_X9_former_0 {g : GG} (v0 : Nat) (v1 : Int32) (σ : Mm) (r : Int32) (σ' : Mm) (hf : f_X9_former v0 v1 σ = some (r, σ')) : VJ g RX9 cX9_former 2 (some .int) false rm_X9_former (some (.int r)) σ' (0) (0) 0 [(0, .ref (gB g + v0)), (1, .int v1)] [] σ := by
  intro p e s m args below meth c H locs cells slots ls E hR hS hl hc hs
  obtain ⟨hx, hb, hml, hr, hlocks, hown, hts, hin, hT⟩ := id E
  unfold f_X9_former at hf
  refine lv_iload_n hx hb dX9_former_0 rfl (lv_at hl 1 rfl) ?_
  refine lv_i2l (v := (v1).toInt64) hx hb dX9_former_1 rfl ?_
  refine lv_lconst (v := (0 : Int64)) hx hb dX9_former_2 rfl ?_
  refine lv_aload_n hx hb dX9_former_3 rfl (lv_at hl 0 rfl) ?_
  obtain ⟨hk1, hf⟩ := zc_s hf
  refine x_getI E hR hk1 ok9 28 (Nat.le_of_ble_eq_true rfl) rfl fl_X9_208 dX9_former_4 ?_
  refine lv_iconst (v := (1 : Int32)) hx hb dX9_former_7 rfl ?_
  refine lv_isub hx hb dX9_former_8 ?_
  refine lv_i2l (v := (((mD σ v0 28) - (1 : Int32))).toInt64) hx hb dX9_former_9 rfl ?_
  obtain ⟨r2, σ3, hcr2, hf⟩ := zq_s hf
  refine xS (As := [.long ((v1).toInt64), .long (0 : Int64), .long ((((mD σ v0 28) - (1 : Int32))).toInt64)]) (rest := []) (st1 := [.int r2]) E hR hS hl (C_X9_in hcr2) lb_X9_in ls_X9_in ml_X9_121 ⟨Nat.le_of_ble_eq_true rfl, Nat.le_of_ble_eq_true rfl⟩ rfl rfl rfl (Nat.le_of_ble_eq_true rfl) dX9_former_10 ⟨hc, hs⟩ (fun H locs hR hS => ?_)
  refine lv_if_eq (tgt := 32) hx hb dX9_former_13 (by decide) (fun hq4 => ?_) (fun hq4 => ?_)
  · have hf := ite_p hq4 hf
    refine lv_iconst (v := (-1 : Int32)) hx hb dX9_former_32 rfl ?_
    obtain ⟨hr1, hs1⟩ := Prod.mk.inj (Option.some.inj hf)
    exact xr_i E hR hS rfl (by rw [hr1]) hs1.symm hc hs dX9_former_33
  · have hf := ite_n hq4 hf
    refine lv_aload_n hx hb dX9_former_16 rfl (lv_at hl 0 rfl) ?_
    obtain ⟨hk5, hf⟩ := zc_s hf
    obtain ⟨b6, hb6, hf⟩ := zr_s hf
    refine x_getR E hR hk5 hb6 ok9 (Nat.le_of_ble_eq_true rfl) rfl fl_X9_74 dX9_former_17 ?_
    refine lv_aload_n hx hb dX9_former_20 rfl (lv_at hl 0 rfl) ?_
    refine x_getI E hR hk5 ok9 28 (Nat.le_of_ble_eq_true rfl) rfl fl_X9_208 dX9_former_21 ?_
    refine lv_iconst (v := (1 : Int32)) hx hb dX9_former_24 rfl ?_
    refine lv_isub hx hb dX9_former_25 ?_
    refine lv_iload_n hx hb dX9_former_26 rfl (lv_at hl 1 rfl) ?_
    refine lv_isub hx hb dX9_former_27 ?_
    obtain ⟨hk7, hf⟩ := zc_s hf
    refine x_ild E hR hk7 dX9_former_28 ?_
    refine lv_goto (tgt := 33) hx hb dX9_former_29 (by decide) ?_
    obtain ⟨hr1, hs1⟩ := Prod.mk.inj (Option.some.inj hf)
    exact xr_i E hR hS rfl (by rw [hr1]) hs1.symm hc hs dX9_former_33
theorem C_X9_former {g : GG} {v0 : Nat} {v1 : Int32} {σ : Mm} {r : Int32} {σ' : Mm} (hf : f_X9_former v0 v1 σ = some (r, σ')) : Ct g yX9_former cX9_former 2 (some .int) rm_X9_former [.ref (gB g + v0), .int v1] σ (some (.int r)) σ' :=
  Ct.of false (by decide +kernel) (fun h => by cases h) (Nat.le_of_ble_eq_true rfl) (V_X9_former_0 _ _ _ _ _ hf)
abbrev rm_X9_hang : Room := { frames := 0, cells := 0, slots := 0, locals := 0 }
set_option maxRecDepth 100000 in
def f_X9_hang (v0 : Nat) (v1 : Int32) (v2 : Int32) (v3 : Int32) (v4 : Int32) (σ : Mm) : Option (Unit × Mm) :=
  if v1 = (-9 : Int32) then (zck (kO σ v0 9) (zlt (sD σ v0 37 v4) (fun σ18 => some ((), σ18)))) else (if v2 = 0 then (zck (kO σ v0 9) (zrb (mR σ v0 31) (fun b11 => zck (kA σ 1 b11 v1) (zlt (sD σ b11 (ix v1) v3) (fun σ13 => zrb (mR σ13 v0 33) (fun b14 => zck (kA σ13 1 b14 v1) (zlt (sD σ13 b14 (ix v1) v4) (fun σ16 => some ((), σ16))))))))) else (zck (kO σ v0 9) (zrb (mR σ v0 32) (fun b4 => zck (kA σ 1 b4 v1) (zlt (sD σ b4 (ix v1) v3) (fun σ6 => zrb (mR σ6 v0 34) (fun b7 => zck (kA σ6 1 b7 v1) (zlt (sD σ6 b7 (ix v1) v4) (fun σ9 => some ((), σ9))))))))))
set_option maxRecDepth 100000 in
set_option maxHeartbeats 4000000 in
theorem V_X9_hang_0 {g : GG} (v0 : Nat) (v1 : Int32) (v2 : Int32) (v3 : Int32) (v4 : Int32) (σ : Mm) (r : Unit) (σ' : Mm) (hf : f_X9_hang v0 v1 v2 v3 v4 σ = some (r, σ')) : VJ g RX9 cX9_hang 5 none false rm_X9_hang none σ' (0) (0) 0 [(0, .ref (gB g + v0)), (1, .int v1), (2, .int v2), (3, .int v3), (4, .int v4)] [] σ := by
  intro p e s m args below meth c H locs cells slots ls E hR hS hl hc hs
  obtain ⟨hx, hb, hml, hr, hlocks, hown, hts, hin, hT⟩ := id E
  unfold f_X9_hang at hf
  refine lv_iload_n hx hb dX9_hang_0 rfl (lv_at hl 1 rfl) ?_
  refine lv_bipush (v := (-9 : Int32)) hx hb dX9_hang_1 rfl ?_
  refine lv_icmp_ne (tgt := 15) hx hb dX9_hang_3 (by decide) (fun hq1 => ?_) (fun hq1 => ?_)
  · have hf := ite_n hq1 hf
    refine lv_iload_n hx hb dX9_hang_15 rfl (lv_at hl 2 rfl) ?_
    refine lv_if_ne (tgt := 37) hx hb dX9_hang_16 (by decide) (fun hq2 => ?_) (fun hq2 => ?_)
    · have hf := ite_n hq2 hf
      refine lv_aload_n hx hb dX9_hang_37 rfl (lv_at hl 0 rfl) ?_
      obtain ⟨hk3, hf⟩ := zc_s hf
      obtain ⟨b4, hb4, hf⟩ := zr_s hf
      refine x_getR E hR hk3 hb4 ok9 (Nat.le_of_ble_eq_true rfl) rfl fl_X9_86 dX9_hang_38 ?_
      refine lv_iload_n hx hb dX9_hang_41 rfl (lv_at hl 1 rfl) ?_
      refine lv_iload_n hx hb dX9_hang_42 rfl (lv_at hl 3 rfl) ?_
      obtain ⟨hk5, hf⟩ := zc_s hf
      obtain ⟨σ6, eσ6, hf⟩ := zl_s hf
      refine x_ist E hR hS hk5 dX9_hang_43 (fun H locs hR hS => ?_)
      rw [← eσ6] at hR
      refine lv_aload_n hx hb dX9_hang_44 rfl (lv_at hl 0 rfl) ?_
      obtain ⟨b7, hb7, hf⟩ := zr_s hf
      refine x_getR E hR (by rw [eσ6]; exact hk3) hb7 ok9 (Nat.le_of_ble_eq_true rfl) rfl fl_X9_92 dX9_hang_45 ?_
      refine lv_iload_n hx hb dX9_hang_48 rfl (lv_at hl 1 rfl) ?_
      refine lv_iload hx hb dX9_hang_49 (lv_at hl 4 rfl) ?_
      obtain ⟨hk8, hf⟩ := zc_s hf
      obtain ⟨σ9, eσ9, hf⟩ := zl_s hf
      refine x_ist E hR hS hk8 dX9_hang_51 (fun H locs hR hS => ?_)
      rw [← eσ9] at hR
      obtain ⟨hr1, hs1⟩ := Prod.mk.inj (Option.some.inj hf)
      exact xr_v E hR hS rfl rfl hs1.symm hc hs dX9_hang_52
    · have hf := ite_p hq2 hf
      refine lv_aload_n hx hb dX9_hang_19 rfl (lv_at hl 0 rfl) ?_
      obtain ⟨hk10, hf⟩ := zc_s hf
      obtain ⟨b11, hb11, hf⟩ := zr_s hf
      refine x_getR E hR hk10 hb11 ok9 (Nat.le_of_ble_eq_true rfl) rfl fl_X9_83 dX9_hang_20 ?_
      refine lv_iload_n hx hb dX9_hang_23 rfl (lv_at hl 1 rfl) ?_
      refine lv_iload_n hx hb dX9_hang_24 rfl (lv_at hl 3 rfl) ?_
      obtain ⟨hk12, hf⟩ := zc_s hf
      obtain ⟨σ13, eσ13, hf⟩ := zl_s hf
      refine x_ist E hR hS hk12 dX9_hang_25 (fun H locs hR hS => ?_)
      rw [← eσ13] at hR
      refine lv_aload_n hx hb dX9_hang_26 rfl (lv_at hl 0 rfl) ?_
      obtain ⟨b14, hb14, hf⟩ := zr_s hf
      refine x_getR E hR (by rw [eσ13]; exact hk10) hb14 ok9 (Nat.le_of_ble_eq_true rfl) rfl fl_X9_89 dX9_hang_27 ?_
      refine lv_iload_n hx hb dX9_hang_30 rfl (lv_at hl 1 rfl) ?_
      refine lv_iload hx hb dX9_hang_31 (lv_at hl 4 rfl) ?_
      obtain ⟨hk15, hf⟩ := zc_s hf
      obtain ⟨σ16, eσ16, hf⟩ := zl_s hf
      refine x_ist E hR hS hk15 dX9_hang_33 (fun H locs hR hS => ?_)
      rw [← eσ16] at hR
      refine lv_goto (tgt := 52) hx hb dX9_hang_34 (by decide) ?_
      obtain ⟨hr1, hs1⟩ := Prod.mk.inj (Option.some.inj hf)
      exact xr_v E hR hS rfl rfl hs1.symm hc hs dX9_hang_52
  · have hf := ite_p hq1 hf
    refine lv_aload_n hx hb dX9_hang_6 rfl (lv_at hl 0 rfl) ?_
    refine lv_iload hx hb dX9_hang_7 (lv_at hl 4 rfl) ?_
    obtain ⟨hk17, hf⟩ := zc_s hf
    obtain ⟨σ18, eσ18, hf⟩ := zl_s hf
    refine x_putI E hR hS hk17 ok9 37 (Nat.le_of_ble_eq_true rfl) rfl fl_X9_237 (Or.inl rfl) rfl rfl dX9_hang_9 (fun H locs hR hS => ?_)
    rw [← eσ18] at hR
    refine lv_goto (tgt := 52) hx hb dX9_hang_12 (by decide) ?_
    obtain ⟨hr1, hs1⟩ := Prod.mk.inj (Option.some.inj hf)
    exact xr_v E hR hS rfl rfl hs1.symm hc hs dX9_hang_52
theorem C_X9_hang {g : GG} {v0 : Nat} {v1 : Int32} {v2 : Int32} {v3 : Int32} {v4 : Int32} {σ : Mm} {r : Unit} {σ' : Mm} (hf : f_X9_hang v0 v1 v2 v3 v4 σ = some (r, σ')) : Ct g yX9_hang cX9_hang 5 none rm_X9_hang [.ref (gB g + v0), .int v1, .int v2, .int v3, .int v4] σ none σ' :=
  Ct.of false (by decide +kernel) (fun h => by cases h) (Nat.le_of_ble_eq_true rfl) (V_X9_hang_0 _ _ _ _ _ _ _ _ hf)
abbrev rm_X9_takeItem : Room := { frames := 2, cells := 0, slots := 0, locals := 43 }
set_option maxRecDepth 100000 in
def f_X9_takeItem_143 (v0 : Nat) (v1 : Int32) (v2 : Int32) (v5 : Int32) (v6 : Int32) (v7 : Int32) (v8 : Int32) (σ : Mm) : Option (Int32 × Mm) :=
  zck (kO σ v0 9) (zrb (mR σ v0 29) (fun b2 => zck (kA σ 1 b2 (mD σ v0 36)) (zlt (sD σ b2 (ix (mD σ v0 36)) v8) (fun σ4 => zrb (mR σ4 v0 30) (fun b5 => zck (kA σ4 1 b5 (mD σ v0 36)) (zlt (sD σ4 b5 (ix (mD σ v0 36)) (((-100 : Int32) - v1) - ((-100 : Int32) - v1) / (100 : Int32) * (100 : Int32))) (fun σ7 => zlt (sD σ7 v0 36 ((mD σ7 v0 36) + (1 : Int32))) (fun σ8 => zrb (mR σ8 v0 20) (fun b9 => zck (kA σ8 1 b9 v2) (zcb (f_X9_hang v0 v7 (mD σ8 b9 (ix v2)) (mD σ v0 36) (0 : Int32) σ8) (fun r11 σ12 => zck (kO σ12 v0 9) (zcb (f_X9_want v0 (v8 + (1 : Int32)) v6 (mD σ v0 36) (1 : Int32) σ12) (fun r14 σ15 => zck (kO σ15 v0 9) (zcb (f_X9_want v0 v5 (v8 - (1 : Int32)) (mD σ v0 36) (0 : Int32) σ15) (fun r17 σ18 => some ((0 : Int32), σ18))))))))))))))))
set_option maxRecDepth 100000 in
set_option maxHeartbeats 4000000 in
theorem V_X9_takeItem_143 {g : GG} (v0 : Nat) (v1 : Int32) (v2 : Int32) (v5 : Int32) (v6 : Int32) (v7 : Int32) (v8 : Int32) (σ : Mm) (r : Int32) (σ' : Mm) (hf : f_X9_takeItem_143 v0 v1 v2 v5 v6 v7 v8 σ = some (r, σ')) : VJ g RX9 cX9_takeItem 10 (some .int) false rm_X9_takeItem (some (.int r)) σ' (0) (0) 143 [(0, .ref (gB g + v0)), (1, .int v1), (2, .int v2), (5, .int v5), (6, .int v6), (7, .int v7), (8, .int v8)] [] σ := by
  intro p e s m args below meth c H locs cells slots ls E hR hS hl hc hs
  obtain ⟨hx, hb, hml, hr, hlocks, hown, hts, hin, hT⟩ := id E
  unfold f_X9_takeItem_143 at hf
  refine lv_aload_n hx hb dX9_takeItem_143 rfl (lv_at hl 0 rfl) ?_
  obtain ⟨hk1, hf⟩ := zc_s hf
  refine x_getI E hR hk1 ok9 36 (Nat.le_of_ble_eq_true rfl) rfl fl_X9_243 dX9_takeItem_144 ?_
  refine lv_istore (lv' := [(9, .int (mD σ v0 36)), (0, .ref (gB g + v0)), (1, .int v1), (2, .int v2), (5, .int v5), (6, .int v6), (7, .int v7), (8, .int v8)]) hx hb dX9_takeItem_147 hl (Nat.le_of_ble_eq_true rfl) rfl (fun ls hl => ?_)
  refine lv_aload_n hx hb dX9_takeItem_149 rfl (lv_at hl 1 rfl) ?_
  obtain ⟨b2, hb2, hf⟩ := zr_s hf
  refine x_getR E hR hk1 hb2 ok9 (Nat.le_of_ble_eq_true rfl) rfl fl_X9_77 dX9_takeItem_150 ?_
  refine lv_iload hx hb dX9_takeItem_153 (lv_at hl 0 rfl) ?_
  refine lv_iload hx hb dX9_takeItem_155 (lv_at hl 7 rfl) ?_
  obtain ⟨hk3, hf⟩ := zc_s hf
  obtain ⟨σ4, eσ4, hf⟩ := zl_s hf
  refine x_ist E hR hS hk3 dX9_takeItem_157 (fun H locs hR hS => ?_)
  rw [← eσ4] at hR
  refine lv_aload_n hx hb dX9_takeItem_158 rfl (lv_at hl 1 rfl) ?_
  obtain ⟨b5, hb5, hf⟩ := zr_s hf
  refine x_getR E hR (by rw [eσ4]; exact hk1) hb5 ok9 (Nat.le_of_ble_eq_true rfl) rfl fl_X9_80 dX9_takeItem_159 ?_
  refine lv_iload hx hb dX9_takeItem_162 (lv_at hl 0 rfl) ?_
  refine lv_bipush (v := (-100 : Int32)) hx hb dX9_takeItem_164 rfl ?_
  refine lv_iload_n hx hb dX9_takeItem_166 rfl (lv_at hl 2 rfl) ?_
  refine lv_isub hx hb dX9_takeItem_167 ?_
  refine lv_bipush (v := (100 : Int32)) hx hb dX9_takeItem_168 rfl ?_
  refine lv_irem hx hb dX9_takeItem_170 (by decide) ?_
  obtain ⟨hk6, hf⟩ := zc_s hf
  obtain ⟨σ7, eσ7, hf⟩ := zl_s hf
  refine x_ist E hR hS hk6 dX9_takeItem_171 (fun H locs hR hS => ?_)
  rw [← eσ7] at hR
  refine lv_aload_n hx hb dX9_takeItem_172 rfl (lv_at hl 1 rfl) ?_
  refine lv_dup hx hb dX9_takeItem_173 rfl ?_
  refine x_getI E hR (by rw [eσ7, eσ4]; exact hk1) ok9 36 (Nat.le_of_ble_eq_true rfl) rfl fl_X9_243 dX9_takeItem_174 ?_
  refine lv_iconst (v := (1 : Int32)) hx hb dX9_takeItem_177 rfl ?_
  refine lv_iadd hx hb dX9_takeItem_178 ?_
  obtain ⟨σ8, eσ8, hf⟩ := zl_s hf
  refine x_putI E hR hS (by rw [eσ7, eσ4]; exact hk1) ok9 36 (Nat.le_of_ble_eq_true rfl) rfl fl_X9_243 (Or.inl rfl) rfl rfl dX9_takeItem_179 (fun H locs hR hS => ?_)
  rw [← eσ8] at hR
  refine lv_aload_n hx hb dX9_takeItem_182 rfl (lv_at hl 1 rfl) ?_
  refine lv_iload hx hb dX9_takeItem_183 (lv_at hl 6 rfl) ?_
  refine lv_aload_n hx hb dX9_takeItem_185 rfl (lv_at hl 1 rfl) ?_
  obtain ⟨b9, hb9, hf⟩ := zr_s hf
  refine x_getR E hR (by rw [eσ8, eσ7, eσ4]; exact hk1) hb9 ok9 (Nat.le_of_ble_eq_true rfl) rfl fl_X9_65 dX9_takeItem_186 ?_
  refine lv_iload_n hx hb dX9_takeItem_189 rfl (lv_at hl 3 rfl) ?_
  obtain ⟨hk10, hf⟩ := zc_s hf
  refine x_ild E hR hk10 dX9_takeItem_190 ?_
  refine lv_iload hx hb dX9_takeItem_191 (lv_at hl 0 rfl) ?_
  refine lv_iconst (v := (0 : Int32)) hx hb dX9_takeItem_193 rfl ?_
  obtain ⟨r11, σ12, hcr11, hf⟩ := zq_s hf
  refine xV (As := [.int v7, .int (mD σ8 b9 (ix v2)), .int (mD σ v0 36), .int (0 : Int32)]) (rest := []) (st1 := []) E hR hS hl (C_X9_hang hcr11) (by rw [eσ8, eσ7, eσ4]; exact hk1) ok9 lb_X9_hang lv_X9_hang ml_X9_240 ⟨Nat.le_of_ble_eq_true rfl, Nat.le_of_ble_eq_true rfl⟩ rfl rfl rfl (Nat.le_of_ble_eq_true rfl) dX9_takeItem_194 ⟨hc, hs⟩ (fun H locs hR hS => ?_)
  refine lv_aload_n hx hb dX9_takeItem_197 rfl (lv_at hl 1 rfl) ?_
  refine lv_iload hx hb dX9_takeItem_198 (lv_at hl 7 rfl) ?_
  refine lv_iconst (v := (1 : Int32)) hx hb dX9_takeItem_200 rfl ?_
  refine lv_iadd hx hb dX9_takeItem_201 ?_
  refine lv_iload hx hb dX9_takeItem_202 (lv_at hl 5 rfl) ?_
  refine lv_iload hx hb dX9_takeItem_204 (lv_at hl 0 rfl) ?_
  refine lv_iconst (v := (1 : Int32)) hx hb dX9_takeItem_206 rfl ?_
  obtain ⟨hk13, hf⟩ := zc_s hf
  obtain ⟨r14, σ15, hcr14, hf⟩ := zq_s hf
  refine xV (As := [.int (v8 + (1 : Int32)), .int v6, .int (mD σ v0 36), .int (1 : Int32)]) (rest := []) (st1 := []) E hR hS hl (C_X9_want hcr14) hk13 ok9 lb_X9_want lv_X9_want ml_X9_153 ⟨Nat.le_of_ble_eq_true rfl, Nat.le_of_ble_eq_true rfl⟩ rfl rfl rfl (Nat.le_of_ble_eq_true rfl) dX9_takeItem_207 ⟨hc, hs⟩ (fun H locs hR hS => ?_)
  refine lv_aload_n hx hb dX9_takeItem_210 rfl (lv_at hl 1 rfl) ?_
  refine lv_iload hx hb dX9_takeItem_211 (lv_at hl 4 rfl) ?_
  refine lv_iload hx hb dX9_takeItem_213 (lv_at hl 7 rfl) ?_
  refine lv_iconst (v := (1 : Int32)) hx hb dX9_takeItem_215 rfl ?_
  refine lv_isub hx hb dX9_takeItem_216 ?_
  refine lv_iload hx hb dX9_takeItem_217 (lv_at hl 0 rfl) ?_
  refine lv_iconst (v := (0 : Int32)) hx hb dX9_takeItem_219 rfl ?_
  obtain ⟨hk16, hf⟩ := zc_s hf
  obtain ⟨r17, σ18, hcr17, hf⟩ := zq_s hf
  refine xV (As := [.int v5, .int (v8 - (1 : Int32)), .int (mD σ v0 36), .int (0 : Int32)]) (rest := []) (st1 := []) E hR hS hl (C_X9_want hcr17) hk16 ok9 lb_X9_want lv_X9_want ml_X9_153 ⟨Nat.le_of_ble_eq_true rfl, Nat.le_of_ble_eq_true rfl⟩ rfl rfl rfl (Nat.le_of_ble_eq_true rfl) dX9_takeItem_220 ⟨hc, hs⟩ (fun H locs hR hS => ?_)
  refine lv_iconst (v := (0 : Int32)) hx hb dX9_takeItem_223 rfl ?_
  obtain ⟨hr1, hs1⟩ := Prod.mk.inj (Option.some.inj hf)
  exact xr_i E hR hS rfl (by rw [hr1]) hs1.symm hc hs dX9_takeItem_224
set_option maxRecDepth 100000 in
def f_X9_takeItem_72 (v0 : Nat) (v1 : Int32) (v2 : Int32) (v5 : Int32) (v6 : Int32) (v7 : Int32) (σ : Mm) : Option (Int32 × Mm) :=
  if v1 < 0 then (zcb (f_X9_in (((((-100 : Int32) - v1) / (100 : Int32))).toInt64) ((v5).toInt64) ((v6).toInt64) σ) (fun r20 σ21 => if r20 = 0 then (some ((3 : Int32), σ21)) else (if v7 = (-9 : Int32) then (f_X9_takeItem_143 v0 v1 v2 v5 v6 v7 (((-100 : Int32) - v1) / (100 : Int32)) σ21) else (zck (kO σ21 v0 9) (zrb (mR σ21 v0 29) (fun b25 => zck (kA σ21 1 b25 v7) (zcb (f_X9_isAbove (mD σ21 b25 (ix v7)) (((-100 : Int32) - v1) / (100 : Int32)) σ21) (fun r27 σ28 => if r27 = 0 then (some ((4 : Int32), σ28)) else (f_X9_takeItem_143 v0 v1 v2 v5 v6 v7 (((-100 : Int32) - v1) / (100 : Int32)) σ28))))))))) else (zck (kO σ v0 9) (zrb (mR σ v0 20) (fun b31 => zck (kA σ 1 b31 v2) (zcb (f_X9_hang v0 v7 (mD σ b31 (ix v2)) (-9 : Int32) v1 σ) (fun r33 σ34 => some ((0 : Int32), σ34))))))
set_option maxRecDepth 100000 in
set_option maxHeartbeats 4000000 in
theorem V_X9_takeItem_72 {g : GG} (v0 : Nat) (v1 : Int32) (v2 : Int32) (v5 : Int32) (v6 : Int32) (v7 : Int32) (σ : Mm) (r : Int32) (σ' : Mm) (hf : f_X9_takeItem_72 v0 v1 v2 v5 v6 v7 σ = some (r, σ')) : VJ g RX9 cX9_takeItem 10 (some .int) false rm_X9_takeItem (some (.int r)) σ' (0) (0) 72 [(0, .ref (gB g + v0)), (1, .int v1), (2, .int v2), (5, .int v5), (6, .int v6), (7, .int v7)] [] σ := by
  intro p e s m args below meth c H locs cells slots ls E hR hS hl hc hs
  obtain ⟨hx, hb, hml, hr, hlocks, hown, hts, hin, hT⟩ := id E
  unfold f_X9_takeItem_72 at hf
  refine lv_iload_n hx hb dX9_takeItem_72 rfl (lv_at hl 1 rfl) ?_
  refine lv_if_lt (tgt := 93) hx hb dX9_takeItem_73 (by decide) (fun hq19 => ?_) (fun hq19 => ?_)
  · have hf := ite_p hq19 hf
    refine lv_bipush (v := (-100 : Int32)) hx hb dX9_takeItem_93 rfl ?_
    refine lv_iload_n hx hb dX9_takeItem_95 rfl (lv_at hl 1 rfl) ?_
    refine lv_isub hx hb dX9_takeItem_96 ?_
    refine lv_bipush (v := (100 : Int32)) hx hb dX9_takeItem_97 rfl ?_
    refine lv_idiv hx hb dX9_takeItem_99 (by decide) ?_
    refine lv_istore (lv' := [(8, .int (((-100 : Int32) - v1) / (100 : Int32))), (0, .ref (gB g + v0)), (1, .int v1), (2, .int v2), (5, .int v5), (6, .int v6), (7, .int v7)]) hx hb dX9_takeItem_100 hl (Nat.le_of_ble_eq_true rfl) rfl (fun ls hl => ?_)
    refine lv_iload hx hb dX9_takeItem_102 (lv_at hl 0 rfl) ?_
    refine lv_i2l (v := ((((-100 : Int32) - v1) / (100 : Int32))).toInt64) hx hb dX9_takeItem_104 rfl ?_
    refine lv_iload hx hb dX9_takeItem_105 (lv_at hl 4 rfl) ?_
    refine lv_i2l (v := (v5).toInt64) hx hb dX9_takeItem_107 rfl ?_
    refine lv_iload hx hb dX9_takeItem_108 (lv_at hl 5 rfl) ?_
    refine lv_i2l (v := (v6).toInt64) hx hb dX9_takeItem_110 rfl ?_
    obtain ⟨r20, σ21, hcr20, hf⟩ := zq_s hf
    refine xS (As := [.long (((((-100 : Int32) - v1) / (100 : Int32))).toInt64), .long ((v5).toInt64), .long ((v6).toInt64)]) (rest := []) (st1 := [.int r20]) E hR hS hl (C_X9_in hcr20) lb_X9_in ls_X9_in ml_X9_121 ⟨Nat.le_of_ble_eq_true rfl, Nat.le_of_ble_eq_true rfl⟩ rfl rfl rfl (Nat.le_of_ble_eq_true rfl) dX9_takeItem_111 ⟨hc, hs⟩ (fun H locs hR hS => ?_)
    refine lv_if_ne (tgt := 119) hx hb dX9_takeItem_114 (by decide) (fun hq22 => ?_) (fun hq22 => ?_)
    · have hf := ite_n hq22 hf
      refine lv_iload hx hb dX9_takeItem_119 (lv_at hl 6 rfl) ?_
      refine lv_bipush (v := (-9 : Int32)) hx hb dX9_takeItem_121 rfl ?_
      refine lv_icmp_eq (tgt := 143) hx hb dX9_takeItem_123 (by decide) (fun hq23 => ?_) (fun hq23 => ?_)
      · have hf := ite_p hq23 hf
        exact V_X9_takeItem_143  _ _ _ _ _ _ _ _ _ _ hf p e s m args below meth c _ _ _ _ _ E hR hS (lv_sub hl [1, 2, 3, 4, 5, 6, 0] rfl) hc hs
      · have hf := ite_n hq23 hf
        refine lv_aload_n hx hb dX9_takeItem_126 rfl (lv_at hl 1 rfl) ?_
        obtain ⟨hk24, hf⟩ := zc_s hf
        obtain ⟨b25, hb25, hf⟩ := zr_s hf
        refine x_getR E hR hk24 hb25 ok9 (Nat.le_of_ble_eq_true rfl) rfl fl_X9_77 dX9_takeItem_127 ?_
        refine lv_iload hx hb dX9_takeItem_130 (lv_at hl 6 rfl) ?_
        obtain ⟨hk26, hf⟩ := zc_s hf
        refine x_ild E hR hk26 dX9_takeItem_132 ?_
        refine lv_iload hx hb dX9_takeItem_133 (lv_at hl 0 rfl) ?_
        obtain ⟨r27, σ28, hcr27, hf⟩ := zq_s hf
        refine xS (As := [.int (mD σ21 b25 (ix v7)), .int (((-100 : Int32) - v1) / (100 : Int32))]) (rest := []) (st1 := [.int r27]) E hR hS hl (C_X9_isAbove hcr27) lb_X9_isAbove ls_X9_isAbove ml_X9_149 ⟨Nat.le_of_ble_eq_true rfl, Nat.le_of_ble_eq_true rfl⟩ rfl rfl rfl (Nat.le_of_ble_eq_true rfl) dX9_takeItem_135 ⟨hc, hs⟩ (fun H locs hR hS => ?_)
        refine lv_if_ne (tgt := 143) hx hb dX9_takeItem_138 (by decide) (fun hq29 => ?_) (fun hq29 => ?_)
        · have hf := ite_n hq29 hf
          exact V_X9_takeItem_143  _ _ _ _ _ _ _ _ _ _ hf p e s m args below meth c _ _ _ _ _ E hR hS (lv_sub hl [1, 2, 3, 4, 5, 6, 0] rfl) hc hs
        · have hf := ite_p hq29 hf
          refine lv_iconst (v := (4 : Int32)) hx hb dX9_takeItem_141 rfl ?_
          obtain ⟨hr1, hs1⟩ := Prod.mk.inj (Option.some.inj hf)
          exact xr_i E hR hS rfl (by rw [hr1]) hs1.symm hc hs dX9_takeItem_142
    · have hf := ite_p hq22 hf
      refine lv_iconst (v := (3 : Int32)) hx hb dX9_takeItem_117 rfl ?_
      obtain ⟨hr1, hs1⟩ := Prod.mk.inj (Option.some.inj hf)
      exact xr_i E hR hS rfl (by rw [hr1]) hs1.symm hc hs dX9_takeItem_118
  · have hf := ite_n hq19 hf
    refine lv_aload_n hx hb dX9_takeItem_76 rfl (lv_at hl 0 rfl) ?_
    refine lv_iload hx hb dX9_takeItem_77 (lv_at hl 5 rfl) ?_
    refine lv_aload_n hx hb dX9_takeItem_79 rfl (lv_at hl 0 rfl) ?_
    obtain ⟨hk30, hf⟩ := zc_s hf
    obtain ⟨b31, hb31, hf⟩ := zr_s hf
    refine x_getR E hR hk30 hb31 ok9 (Nat.le_of_ble_eq_true rfl) rfl fl_X9_65 dX9_takeItem_80 ?_
    refine lv_iload_n hx hb dX9_takeItem_83 rfl (lv_at hl 2 rfl) ?_
    obtain ⟨hk32, hf⟩ := zc_s hf
    refine x_ild E hR hk32 dX9_takeItem_84 ?_
    refine lv_bipush (v := (-9 : Int32)) hx hb dX9_takeItem_85 rfl ?_
    refine lv_iload_n hx hb dX9_takeItem_87 rfl (lv_at hl 1 rfl) ?_
    obtain ⟨r33, σ34, hcr33, hf⟩ := zq_s hf
    refine xV (As := [.int v7, .int (mD σ b31 (ix v2)), .int (-9 : Int32), .int v1]) (rest := []) (st1 := []) E hR hS hl (C_X9_hang hcr33) hk30 ok9 lb_X9_hang lv_X9_hang ml_X9_240 ⟨Nat.le_of_ble_eq_true rfl, Nat.le_of_ble_eq_true rfl⟩ rfl rfl rfl (Nat.le_of_ble_eq_true rfl) dX9_takeItem_88 ⟨hc, hs⟩ (fun H locs hR hS => ?_)
    refine lv_iconst (v := (0 : Int32)) hx hb dX9_takeItem_91 rfl ?_
    obtain ⟨hr1, hs1⟩ := Prod.mk.inj (Option.some.inj hf)
    exact xr_i E hR hS rfl (by rw [hr1]) hs1.symm hc hs dX9_takeItem_92
set_option maxRecDepth 100000 in
def f_X9_takeItem_67 (v0 : Nat) (v1 : Int32) (v2 : Int32) (v5 : Int32) (v6 : Int32) (v7 : Int32) (w0 : Int32) (w1 : Int32) (σ : Mm) : Option (Int32 × Mm) :=
  if w1 < w0 then (f_X9_takeItem_72 v0 v1 v2 v5 v6 v7 σ) else (some ((5 : Int32), σ))
set_option maxRecDepth 100000 in
set_option maxHeartbeats 4000000 in
theorem V_X9_takeItem_67 {g : GG} (v0 : Nat) (v1 : Int32) (v2 : Int32) (v5 : Int32) (v6 : Int32) (v7 : Int32) (w0 : Int32) (w1 : Int32) (σ : Mm) (r : Int32) (σ' : Mm) (hf : f_X9_takeItem_67 v0 v1 v2 v5 v6 v7 w0 w1 σ = some (r, σ')) : VJ g RX9 cX9_takeItem 10 (some .int) false rm_X9_takeItem (some (.int r)) σ' (0) (0) 67 [(0, .ref (gB g + v0)), (1, .int v1), (2, .int v2), (5, .int v5), (6, .int v6), (7, .int v7)] [.int w1, .int w0] σ := by
  intro p e s m args below meth c H locs cells slots ls E hR hS hl hc hs
  obtain ⟨hx, hb, hml, hr, hlocks, hown, hts, hin, hT⟩ := id E
  unfold f_X9_takeItem_67 at hf
  refine lv_icmp_gt (tgt := 72) hx hb dX9_takeItem_67 (by decide) (fun hq35 => ?_) (fun hq35 => ?_)
  · have hf := ite_p hq35 hf
    exact V_X9_takeItem_72  _ _ _ _ _ _ _ _ _ hf p e s m args below meth c _ _ _ _ _ E hR hS (lv_sub hl [0, 1, 2, 3, 4, 5] rfl) hc hs
  · have hf := ite_n hq35 hf
    refine lv_iconst (v := (5 : Int32)) hx hb dX9_takeItem_70 rfl ?_
    obtain ⟨hr1, hs1⟩ := Prod.mk.inj (Option.some.inj hf)
    exact xr_i E hR hS rfl (by rw [hr1]) hs1.symm hc hs dX9_takeItem_71
set_option maxRecDepth 100000 in
def f_X9_takeItem_53 (v0 : Nat) (v1 : Int32) (v2 : Int32) (v4 : Int32) (v5 : Int32) (v6 : Int32) (v7 : Int32) (w0 : Int32) (σ : Mm) : Option (Int32 × Mm) :=
  if v4 ≤ v6 then (f_X9_takeItem_67 v0 v1 v2 v5 v6 v7 w0 v4 σ) else (f_X9_takeItem_67 v0 v1 v2 v5 v6 v7 w0 v6 σ)
set_option maxRecDepth 100000 in
set_option maxHeartbeats 4000000 in
theorem V_X9_takeItem_53 {g : GG} (v0 : Nat) (v1 : Int32) (v2 : Int32) (v4 : Int32) (v5 : Int32) (v6 : Int32) (v7 : Int32) (w0 : Int32) (σ : Mm) (r : Int32) (σ' : Mm) (hf : f_X9_takeItem_53 v0 v1 v2 v4 v5 v6 v7 w0 σ = some (r, σ')) : VJ g RX9 cX9_takeItem 10 (some .int) false rm_X9_takeItem (some (.int r)) σ' (0) (0) 53 [(0, .ref (gB g + v0)), (1, .int v1), (2, .int v2), (4, .int v4), (5, .int v5), (6, .int v6), (7, .int v7)] [.int w0] σ := by
  intro p e s m args below meth c H locs cells slots ls E hR hS hl hc hs
  obtain ⟨hx, hb, hml, hr, hlocks, hown, hts, hin, hT⟩ := id E
  unfold f_X9_takeItem_53 at hf
  refine lv_iload hx hb dX9_takeItem_53 (lv_at hl 5 rfl) ?_
  refine lv_iload hx hb dX9_takeItem_55 (lv_at hl 3 rfl) ?_
  refine lv_icmp_ge (tgt := 65) hx hb dX9_takeItem_57 (by decide) (fun hq36 => ?_) (fun hq36 => ?_)
  · have hf := ite_p hq36 hf
    refine lv_iload hx hb dX9_takeItem_65 (lv_at hl 3 rfl) ?_
    exact V_X9_takeItem_67  _ _ _ _ _ _ _ _ _ _ _ hf p e s m args below meth c _ _ _ _ _ E hR hS (lv_sub hl [0, 1, 2, 4, 5, 6] rfl) hc hs
  · have hf := ite_n hq36 hf
    refine lv_iload hx hb dX9_takeItem_60 (lv_at hl 5 rfl) ?_
    refine lv_goto (tgt := 67) hx hb dX9_takeItem_62 (by decide) ?_
    exact V_X9_takeItem_67  _ _ _ _ _ _ _ _ _ _ _ hf p e s m args below meth c _ _ _ _ _ E hR hS (lv_sub hl [0, 1, 2, 4, 5, 6] rfl) hc hs
set_option maxRecDepth 100000 in
def f_X9_takeItem_37 (v0 : Nat) (v1 : Int32) (v2 : Int32) (v3 : Int32) (v4 : Int32) (v5 : Int32) (v6 : Int32) (v7 : Int32) (σ : Mm) : Option (Int32 × Mm) :=
  if v1 ≤ 0 then (f_X9_takeItem_72 v0 v1 v2 v5 v6 v7 σ) else (if v5 ≤ v3 then (f_X9_takeItem_53 v0 v1 v2 v4 v5 v6 v7 v3 σ) else (f_X9_takeItem_53 v0 v1 v2 v4 v5 v6 v7 v5 σ))
set_option maxRecDepth 100000 in
set_option maxHeartbeats 4000000 in
theorem V_X9_takeItem_37 {g : GG} (v0 : Nat) (v1 : Int32) (v2 : Int32) (v3 : Int32) (v4 : Int32) (v5 : Int32) (v6 : Int32) (v7 : Int32) (σ : Mm) (r : Int32) (σ' : Mm) (hf : f_X9_takeItem_37 v0 v1 v2 v3 v4 v5 v6 v7 σ = some (r, σ')) : VJ g RX9 cX9_takeItem 10 (some .int) false rm_X9_takeItem (some (.int r)) σ' (0) (0) 37 [(0, .ref (gB g + v0)), (1, .int v1), (2, .int v2), (3, .int v3), (4, .int v4), (5, .int v5), (6, .int v6), (7, .int v7)] [] σ := by
  intro p e s m args below meth c H locs cells slots ls E hR hS hl hc hs
  obtain ⟨hx, hb, hml, hr, hlocks, hown, hts, hin, hT⟩ := id E
  unfold f_X9_takeItem_37 at hf
  refine lv_iload_n hx hb dX9_takeItem_37 rfl (lv_at hl 1 rfl) ?_
  refine lv_if_le (tgt := 72) hx hb dX9_takeItem_38 (by decide) (fun hq37 => ?_) (fun hq37 => ?_)
  · have hf := ite_p hq37 hf
    exact V_X9_takeItem_72  _ _ _ _ _ _ _ _ _ hf p e s m args below meth c _ _ _ _ _ E hR hS (lv_sub hl [0, 1, 2, 5, 6, 7] rfl) hc hs
  · have hf := ite_n hq37 hf
    refine lv_iload hx hb dX9_takeItem_41 (lv_at hl 5 rfl) ?_
    refine lv_iload_n hx hb dX9_takeItem_43 rfl (lv_at hl 3 rfl) ?_
    refine lv_icmp_le (tgt := 52) hx hb dX9_takeItem_44 (by decide) (fun hq38 => ?_) (fun hq38 => ?_)
    · have hf := ite_p hq38 hf
      refine lv_iload_n hx hb dX9_takeItem_52 rfl (lv_at hl 3 rfl) ?_
      exact V_X9_takeItem_53  _ _ _ _ _ _ _ _ _ _ _ hf p e s m args below meth c _ _ _ _ _ E hR hS (lv_sub hl [0, 1, 2, 4, 5, 6, 7] rfl) hc hs
    · have hf := ite_n hq38 hf
      refine lv_iload hx hb dX9_takeItem_47 (lv_at hl 5 rfl) ?_
      refine lv_goto (tgt := 53) hx hb dX9_takeItem_49 (by decide) ?_
      exact V_X9_takeItem_53  _ _ _ _ _ _ _ _ _ _ _ hf p e s m args below meth c _ _ _ _ _ E hR hS (lv_sub hl [0, 1, 2, 4, 5, 6, 7] rfl) hc hs
set_option maxRecDepth 100000 in
def f_X9_takeItem (v0 : Nat) (v1 : Int32) (v2 : Int32) (v3 : Int32) (v4 : Int32) (σ : Mm) : Option (Int32 × Mm) :=
  zck (kO σ v0 9) (zrb (mR σ v0 17) (fun b40 => zck (kA σ 1 b40 v2) (zrb (mR σ v0 18) (fun b42 => zck (kA σ 1 b42 v2) (zrb (mR σ v0 19) (fun b44 => zck (kA σ 1 b44 v2) (if v1 ≤ 0 then (f_X9_takeItem_37 v0 v1 v2 v3 v4 (mD σ b40 (ix v2)) (mD σ b42 (ix v2)) (mD σ b44 (ix v2)) σ) else (if (mD σ b40 (ix v2)) ≤ (mD σ b42 (ix v2)) then (f_X9_takeItem_37 v0 v1 v2 v3 v4 (mD σ b40 (ix v2)) (mD σ b42 (ix v2)) (mD σ b44 (ix v2)) σ) else (some ((3 : Int32), σ))))))))))
set_option maxRecDepth 100000 in
set_option maxHeartbeats 4000000 in
theorem V_X9_takeItem_0 {g : GG} (v0 : Nat) (v1 : Int32) (v2 : Int32) (v3 : Int32) (v4 : Int32) (σ : Mm) (r : Int32) (σ' : Mm) (hf : f_X9_takeItem v0 v1 v2 v3 v4 σ = some (r, σ')) : VJ g RX9 cX9_takeItem 10 (some .int) false rm_X9_takeItem (some (.int r)) σ' (0) (0) 0 [(0, .ref (gB g + v0)), (1, .int v1), (2, .int v2), (3, .int v3), (4, .int v4)] [] σ := by
  intro p e s m args below meth c H locs cells slots ls E hR hS hl hc hs
  obtain ⟨hx, hb, hml, hr, hlocks, hown, hts, hin, hT⟩ := id E
  unfold f_X9_takeItem at hf
  refine lv_aload_n hx hb dX9_takeItem_0 rfl (lv_at hl 0 rfl) ?_
  obtain ⟨hk39, hf⟩ := zc_s hf
  obtain ⟨b40, hb40, hf⟩ := zr_s hf
  refine x_getR E hR hk39 hb40 ok9 (Nat.le_of_ble_eq_true rfl) rfl fl_X9_56 dX9_takeItem_1 ?_
  refine lv_iload_n hx hb dX9_takeItem_4 rfl (lv_at hl 2 rfl) ?_
  obtain ⟨hk41, hf⟩ := zc_s hf
  refine x_ild E hR hk41 dX9_takeItem_5 ?_
  refine lv_istore (lv' := [(5, .int (mD σ b40 (ix v2))), (0, .ref (gB g + v0)), (1, .int v1), (2, .int v2), (3, .int v3), (4, .int v4)]) hx hb dX9_takeItem_6 hl (Nat.le_of_ble_eq_true rfl) rfl (fun ls hl => ?_)
  refine lv_aload_n hx hb dX9_takeItem_8 rfl (lv_at hl 1 rfl) ?_
  obtain ⟨b42, hb42, hf⟩ := zr_s hf
  refine x_getR E hR hk39 hb42 ok9 (Nat.le_of_ble_eq_true rfl) rfl fl_X9_59 dX9_takeItem_9 ?_
  refine lv_iload_n hx hb dX9_takeItem_12 rfl (lv_at hl 3 rfl) ?_
  obtain ⟨hk43, hf⟩ := zc_s hf
  refine x_ild E hR hk43 dX9_takeItem_13 ?_
  refine lv_istore (lv' := [(6, .int (mD σ b42 (ix v2))), (5, .int (mD σ b40 (ix v2))), (0, .ref (gB g + v0)), (1, .int v1), (2, .int v2), (3, .int v3), (4, .int v4)]) hx hb dX9_takeItem_14 hl (Nat.le_of_ble_eq_true rfl) rfl (fun ls hl => ?_)
  refine lv_aload_n hx hb dX9_takeItem_16 rfl (lv_at hl 2 rfl) ?_
  obtain ⟨b44, hb44, hf⟩ := zr_s hf
  refine x_getR E hR hk39 hb44 ok9 (Nat.le_of_ble_eq_true rfl) rfl fl_X9_62 dX9_takeItem_17 ?_
  refine lv_iload_n hx hb dX9_takeItem_20 rfl (lv_at hl 4 rfl) ?_
  obtain ⟨hk45, hf⟩ := zc_s hf
  refine x_ild E hR hk45 dX9_takeItem_21 ?_
  refine lv_istore (lv' := [(7, .int (mD σ b44 (ix v2))), (6, .int (mD σ b42 (ix v2))), (5, .int (mD σ b40 (ix v2))), (0, .ref (gB g + v0)), (1, .int v1), (2, .int v2), (3, .int v3), (4, .int v4)]) hx hb dX9_takeItem_22 hl (Nat.le_of_ble_eq_true rfl) rfl (fun ls hl => ?_)
  refine lv_iload_n hx hb dX9_takeItem_24 rfl (lv_at hl 4 rfl) ?_
  refine lv_if_le (tgt := 37) hx hb dX9_takeItem_25 (by decide) (fun hq46 => ?_) (fun hq46 => ?_)
  · have hf := ite_p hq46 hf
    exact V_X9_takeItem_37  _ _ _ _ _ _ _ _ _ _ _ hf p e s m args below meth c _ _ _ _ _ E hR hS (lv_sub hl [3, 4, 5, 6, 7, 2, 1, 0] rfl) hc hs
  · have hf := ite_n hq46 hf
    refine lv_iload hx hb dX9_takeItem_28 (lv_at hl 2 rfl) ?_
    refine lv_iload hx hb dX9_takeItem_30 (lv_at hl 1 rfl) ?_
    refine lv_icmp_le (tgt := 37) hx hb dX9_takeItem_32 (by decide) (fun hq47 => ?_) (fun hq47 => ?_)
    · have hf := ite_p hq47 hf
      exact V_X9_takeItem_37  _ _ _ _ _ _ _ _ _ _ _ hf p e s m args below meth c _ _ _ _ _ E hR hS (lv_sub hl [3, 4, 5, 6, 7, 2, 1, 0] rfl) hc hs
    · have hf := ite_n hq47 hf
      refine lv_iconst (v := (3 : Int32)) hx hb dX9_takeItem_35 rfl ?_
      obtain ⟨hr1, hs1⟩ := Prod.mk.inj (Option.some.inj hf)
      exact xr_i E hR hS rfl (by rw [hr1]) hs1.symm hc hs dX9_takeItem_36
theorem C_X9_takeItem {g : GG} {v0 : Nat} {v1 : Int32} {v2 : Int32} {v3 : Int32} {v4 : Int32} {σ : Mm} {r : Int32} {σ' : Mm} (hf : f_X9_takeItem v0 v1 v2 v3 v4 σ = some (r, σ')) : Ct g yX9_takeItem cX9_takeItem 10 (some .int) rm_X9_takeItem [.ref (gB g + v0), .int v1, .int v2, .int v3, .int v4] σ (some (.int r)) σ' :=
  Ct.of false (by decide +kernel) (fun h => by cases h) (Nat.le_of_ble_eq_true rfl) (V_X9_takeItem_0 _ _ _ _ _ _ _ _ hf)
abbrev rm_X9_shownDigest : Room := { frames := 1, cells := 0, slots := 0, locals := 25 }
set_option maxRecDepth 100000 in
def f_X9_shownDigest_74 (k_7 : Nat → Int32 → Mm → Option (Int32 × Mm)) (v0 : Nat) (v1 : Int32) (v2 : Int32) (w0 : Int32) (σ : Mm) : Option (Int32 × Mm) :=
  zck (kO σ v0 9) (zrb (mR σ v0 35) (fun b2 => zrb (mR σ v0 29) (fun b3 => zck (kA σ 1 b3 v1) (zrb (mR σ v0 30) (fun b5 => zck (kA σ 1 b5 v1) (zcb (f_X9_digestOf (mD σ b3 (ix v1)) (mD σ b5 (ix v1)) v2 w0 σ) (fun r7 σ8 => zck (kA σ8 1 b2 v1) (zlt (sD σ8 b2 (ix v1) r7) (fun σ10 => k_7 v0 (v1 + (-1 : Int32)) σ10)))))))))
set_option maxRecDepth 100000 in
set_option maxHeartbeats 4000000 in
theorem V_X9_shownDigest_74 {g : GG} (k_7 : Nat → Int32 → Mm → Option (Int32 × Mm)) (hk_7 : ∀ (v0 : Nat) (v1 : Int32) (σ : Mm) (r : Int32) (σ' : Mm), k_7 v0 v1 σ = some (r, σ') → VJ g RX9 cX9_shownDigest 4 (some .int) false rm_X9_shownDigest (some (.int r)) σ' (0) (0) 7 [(0, .ref (gB g + v0)), (1, .int v1)] [] σ) (v0 : Nat) (v1 : Int32) (v2 : Int32) (w0 : Int32) (σ : Mm) (r : Int32) (σ' : Mm) (hf : f_X9_shownDigest_74 k_7 v0 v1 v2 w0 σ = some (r, σ')) : VJ g RX9 cX9_shownDigest 4 (some .int) false rm_X9_shownDigest (some (.int r)) σ' (0) (0) 74 [(0, .ref (gB g + v0)), (1, .int v1), (2, .int v2)] [.int w0] σ := by
  intro p e s m args below meth c H locs cells slots ls E hR hS hl hc hs
  obtain ⟨hx, hb, hml, hr, hlocks, hown, hts, hin, hT⟩ := id E
  unfold f_X9_shownDigest_74 at hf
  refine lv_istore_n (lv' := [(3, .int w0), (0, .ref (gB g + v0)), (1, .int v1), (2, .int v2)]) hx hb dX9_shownDigest_74 rfl hl (Nat.le_of_ble_eq_true rfl) rfl (fun ls hl => ?_)
  refine lv_aload_n hx hb dX9_shownDigest_75 rfl (lv_at hl 1 rfl) ?_
  obtain ⟨hk1, hf⟩ := zc_s hf
  obtain ⟨b2, hb2, hf⟩ := zr_s hf
  refine x_getR E hR hk1 hb2 ok9 (Nat.le_of_ble_eq_true rfl) rfl fl_X9_95 dX9_shownDigest_76 ?_
  refine lv_iload_n hx hb dX9_shownDigest_79 rfl (lv_at hl 2 rfl) ?_
  refine lv_aload_n hx hb dX9_shownDigest_80 rfl (lv_at hl 1 rfl) ?_
  obtain ⟨b3, hb3, hf⟩ := zr_s hf
  refine x_getR E hR hk1 hb3 ok9 (Nat.le_of_ble_eq_true rfl) rfl fl_X9_77 dX9_shownDigest_81 ?_
  refine lv_iload_n hx hb dX9_shownDigest_84 rfl (lv_at hl 2 rfl) ?_
  obtain ⟨hk4, hf⟩ := zc_s hf
  refine x_ild E hR hk4 dX9_shownDigest_85 ?_
  refine lv_aload_n hx hb dX9_shownDigest_86 rfl (lv_at hl 1 rfl) ?_
  obtain ⟨b5, hb5, hf⟩ := zr_s hf
  refine x_getR E hR hk1 hb5 ok9 (Nat.le_of_ble_eq_true rfl) rfl fl_X9_80 dX9_shownDigest_87 ?_
  refine lv_iload_n hx hb dX9_shownDigest_90 rfl (lv_at hl 2 rfl) ?_
  obtain ⟨hk6, hf⟩ := zc_s hf
  refine x_ild E hR hk6 dX9_shownDigest_91 ?_
  refine lv_iload_n hx hb dX9_shownDigest_92 rfl (lv_at hl 3 rfl) ?_
  refine lv_iload_n hx hb dX9_shownDigest_93 rfl (lv_at hl 0 rfl) ?_
  obtain ⟨r7, σ8, hcr7, hf⟩ := zq_s hf
  refine xS (As := [.int (mD σ b3 (ix v1)), .int (mD σ b5 (ix v1)), .int v2, .int w0]) (rest := [.int v1, .ref (gB g + b2)]) (st1 := [.int r7, .int v1, .ref (gB g + b2)]) E hR hS hl (C_X9_digestOf hcr7) lb_X9_digestOf ls_X9_digestOf ml_X9_161 ⟨Nat.le_of_ble_eq_true rfl, Nat.le_of_ble_eq_true rfl⟩ rfl rfl rfl (Nat.le_of_ble_eq_true rfl) dX9_shownDigest_94 ⟨hc, hs⟩ (fun H locs hR hS => ?_)
  obtain ⟨hk9, hf⟩ := zc_s hf
  obtain ⟨σ10, eσ10, hf⟩ := zl_s hf
  refine x_ist E hR hS hk9 dX9_shownDigest_97 (fun H locs hR hS => ?_)
  rw [← eσ10] at hR
  refine lv_iinc (v := (v1 + (-1 : Int32))) (lv' := [(1, .int (v1 + (-1 : Int32))), (3, .int w0), (0, .ref (gB g + v0)), (2, .int v2)]) hx hb dX9_shownDigest_98 hl (k := 2) rfl rfl (Nat.le_of_ble_eq_true rfl) rfl (fun ls hl => ?_)
  refine lv_goto (tgt := 7) hx hb dX9_shownDigest_101 (by decide) ?_
  exact hk_7 _ _ _ _ _ hf p e s m args below meth c _ _ _ _ _ E hR hS (lv_sub hl [2, 0] rfl) hc hs
set_option maxRecDepth 100000 in
def f_X9_shownDigest_42 (k_7 : Nat → Int32 → Mm → Option (Int32 × Mm)) (v0 : Nat) (v1 : Int32) (w0 : Int32) (σ : Mm) : Option (Int32 × Mm) :=
  zck (kO σ v0 9) (zrb (mR σ v0 32) (fun b12 => zck (kA σ 1 b12 v1) (if (mD σ b12 (ix v1)) = (-9 : Int32) then (zrb (mR σ v0 34) (fun b18 => zck (kA σ 1 b18 v1) (f_X9_shownDigest_74 k_7 v0 v1 w0 (mD σ b18 (ix v1)) σ))) else (zrb (mR σ v0 35) (fun b15 => zck (kA σ 1 b12 v1) (zck (kA σ 1 b15 (mD σ b12 (ix v1))) (f_X9_shownDigest_74 k_7 v0 v1 w0 (mD σ b15 (ix (mD σ b12 (ix v1)))) σ)))))))
set_option maxRecDepth 100000 in
set_option maxHeartbeats 4000000 in
theorem V_X9_shownDigest_42 {g : GG} (k_7 : Nat → Int32 → Mm → Option (Int32 × Mm)) (hk_7 : ∀ (v0 : Nat) (v1 : Int32) (σ : Mm) (r : Int32) (σ' : Mm), k_7 v0 v1 σ = some (r, σ') → VJ g RX9 cX9_shownDigest 4 (some .int) false rm_X9_shownDigest (some (.int r)) σ' (0) (0) 7 [(0, .ref (gB g + v0)), (1, .int v1)] [] σ) (v0 : Nat) (v1 : Int32) (w0 : Int32) (σ : Mm) (r : Int32) (σ' : Mm) (hf : f_X9_shownDigest_42 k_7 v0 v1 w0 σ = some (r, σ')) : VJ g RX9 cX9_shownDigest 4 (some .int) false rm_X9_shownDigest (some (.int r)) σ' (0) (0) 42 [(0, .ref (gB g + v0)), (1, .int v1)] [.int w0] σ := by
  intro p e s m args below meth c H locs cells slots ls E hR hS hl hc hs
  obtain ⟨hx, hb, hml, hr, hlocks, hown, hts, hin, hT⟩ := id E
  unfold f_X9_shownDigest_42 at hf
  refine lv_istore_n (lv' := [(2, .int w0), (0, .ref (gB g + v0)), (1, .int v1)]) hx hb dX9_shownDigest_42 rfl hl (Nat.le_of_ble_eq_true rfl) rfl (fun ls hl => ?_)
  refine lv_aload_n hx hb dX9_shownDigest_43 rfl (lv_at hl 1 rfl) ?_
  obtain ⟨hk11, hf⟩ := zc_s hf
  obtain ⟨b12, hb12, hf⟩ := zr_s hf
  refine x_getR E hR hk11 hb12 ok9 (Nat.le_of_ble_eq_true rfl) rfl fl_X9_86 dX9_shownDigest_44 ?_
  refine lv_iload_n hx hb dX9_shownDigest_47 rfl (lv_at hl 2 rfl) ?_
  obtain ⟨hk13, hf⟩ := zc_s hf
  refine x_ild E hR hk13 dX9_shownDigest_48 ?_
  refine lv_bipush (v := (-9 : Int32)) hx hb dX9_shownDigest_49 rfl ?_
  refine lv_icmp_ne (tgt := 63) hx hb dX9_shownDigest_51 (by decide) (fun hq14 => ?_) (fun hq14 => ?_)
  · have hf := ite_n hq14 hf
    refine lv_aload_n hx hb dX9_shownDigest_63 rfl (lv_at hl 1 rfl) ?_
    obtain ⟨b15, hb15, hf⟩ := zr_s hf
    refine x_getR E hR hk11 hb15 ok9 (Nat.le_of_ble_eq_true rfl) rfl fl_X9_95 dX9_shownDigest_64 ?_
    refine lv_aload_n hx hb dX9_shownDigest_67 rfl (lv_at hl 1 rfl) ?_
    refine x_getR E hR hk11 hb12 ok9 (Nat.le_of_ble_eq_true rfl) rfl fl_X9_86 dX9_shownDigest_68 ?_
    refine lv_iload_n hx hb dX9_shownDigest_71 rfl (lv_at hl 2 rfl) ?_
    obtain ⟨hk16, hf⟩ := zc_s hf
    refine x_ild E hR hk16 dX9_shownDigest_72 ?_
    obtain ⟨hk17, hf⟩ := zc_s hf
    refine x_ild E hR hk17 dX9_shownDigest_73 ?_
    exact V_X9_shownDigest_74 _ hk_7 _ _ _ _ _ _ _ hf p e s m args below meth c _ _ _ _ _ E hR hS (lv_sub hl [1, 2, 0] rfl) hc hs
  · have hf := ite_p hq14 hf
    refine lv_aload_n hx hb dX9_shownDigest_54 rfl (lv_at hl 1 rfl) ?_
    obtain ⟨b18, hb18, hf⟩ := zr_s hf
    refine x_getR E hR hk11 hb18 ok9 (Nat.le_of_ble_eq_true rfl) rfl fl_X9_92 dX9_shownDigest_55 ?_
    refine lv_iload_n hx hb dX9_shownDigest_58 rfl (lv_at hl 2 rfl) ?_
    obtain ⟨hk19, hf⟩ := zc_s hf
    refine x_ild E hR hk19 dX9_shownDigest_59 ?_
    refine lv_goto (tgt := 74) hx hb dX9_shownDigest_60 (by decide) ?_
    exact V_X9_shownDigest_74 _ hk_7 _ _ _ _ _ _ _ hf p e s m args below meth c _ _ _ _ _ E hR hS (lv_sub hl [1, 2, 0] rfl) hc hs
set_option maxRecDepth 100000 in
def f_X9_shownDigest_7 : Nat → Nat → Int32 → Mm → Option (Int32 × Mm)
  | 0, _, _, _ => none
  | n + 1, v0, v1, σ =>
    if v1 < 0 then (zck (kO σ v0 9) (if (mD σ v0 36) = 0 then (some ((mD σ v0 37), σ)) else (zrb (mR σ v0 35) (fun b23 => zck (kA σ 1 b23 (0 : Int32)) (some ((mD σ b23 (ix (0 : Int32))), σ)))))) else (zck (kO σ v0 9) (zrb (mR σ v0 31) (fun b26 => zck (kA σ 1 b26 v1) (if (mD σ b26 (ix v1)) = (-9 : Int32) then (zrb (mR σ v0 33) (fun b32 => zck (kA σ 1 b32 v1) (f_X9_shownDigest_42 (f_X9_shownDigest_7 n) v0 v1 (mD σ b32 (ix v1)) σ))) else (zrb (mR σ v0 35) (fun b29 => zck (kA σ 1 b26 v1) (zck (kA σ 1 b29 (mD σ b26 (ix v1))) (f_X9_shownDigest_42 (f_X9_shownDigest_7 n) v0 v1 (mD σ b29 (ix (mD σ b26 (ix v1)))) σ))))))))
set_option maxRecDepth 100000 in
set_option maxHeartbeats 4000000 in
theorem V_X9_shownDigest_7 {g : GG} : ∀ (n : Nat) (v0 : Nat) (v1 : Int32) (σ : Mm) (r : Int32) (σ' : Mm), f_X9_shownDigest_7 n v0 v1 σ = some (r, σ') → VJ g RX9 cX9_shownDigest 4 (some .int) false rm_X9_shownDigest (some (.int r)) σ' (0) (0) 7 [(0, .ref (gB g + v0)), (1, .int v1)] [] σ := by
  intro n
  induction n with
  | zero =>
    intro v0 v1 σ r σ' hf
    unfold f_X9_shownDigest_7 at hf
    cases hf
  | succ n ih =>
    intro v0 v1 σ r σ' hf p e s m args below meth c H locs cells slots ls E hR hS hl hc hs
    obtain ⟨hx, hb, hml, hr, hlocks, hown, hts, hin, hT⟩ := id E
    unfold f_X9_shownDigest_7 at hf
    refine lv_iload_n hx hb dX9_shownDigest_7 rfl (lv_at hl 1 rfl) ?_
    refine lv_if_lt (tgt := 104) hx hb dX9_shownDigest_8 (by decide) (fun hq20 => ?_) (fun hq20 => ?_)
    · have hf := ite_p hq20 hf
      refine lv_aload_n hx hb dX9_shownDigest_104 rfl (lv_at hl 0 rfl) ?_
      obtain ⟨hk21, hf⟩ := zc_s hf
      refine x_getI E hR hk21 ok9 36 (Nat.le_of_ble_eq_true rfl) rfl fl_X9_243 dX9_shownDigest_105 ?_
      refine lv_if_ne (tgt := 118) hx hb dX9_shownDigest_108 (by decide) (fun hq22 => ?_) (fun hq22 => ?_)
      · have hf := ite_n hq22 hf
        refine lv_aload_n hx hb dX9_shownDigest_118 rfl (lv_at hl 0 rfl) ?_
        obtain ⟨b23, hb23, hf⟩ := zr_s hf
        refine x_getR E hR hk21 hb23 ok9 (Nat.le_of_ble_eq_true rfl) rfl fl_X9_95 dX9_shownDigest_119 ?_
        refine lv_iconst (v := (0 : Int32)) hx hb dX9_shownDigest_122 rfl ?_
        obtain ⟨hk24, hf⟩ := zc_s hf
        refine x_ild E hR hk24 dX9_shownDigest_123 ?_
        obtain ⟨hr1, hs1⟩ := Prod.mk.inj (Option.some.inj hf)
        exact xr_i E hR hS rfl (by rw [hr1]) hs1.symm hc hs dX9_shownDigest_124
      · have hf := ite_p hq22 hf
        refine lv_aload_n hx hb dX9_shownDigest_111 rfl (lv_at hl 0 rfl) ?_
        refine x_getI E hR hk21 ok9 37 (Nat.le_of_ble_eq_true rfl) rfl fl_X9_237 dX9_shownDigest_112 ?_
        refine lv_goto (tgt := 124) hx hb dX9_shownDigest_115 (by decide) ?_
        obtain ⟨hr1, hs1⟩ := Prod.mk.inj (Option.some.inj hf)
        exact xr_i E hR hS rfl (by rw [hr1]) hs1.symm hc hs dX9_shownDigest_124
    · have hf := ite_n hq20 hf
      refine lv_aload_n hx hb dX9_shownDigest_11 rfl (lv_at hl 0 rfl) ?_
      obtain ⟨hk25, hf⟩ := zc_s hf
      obtain ⟨b26, hb26, hf⟩ := zr_s hf
      refine x_getR E hR hk25 hb26 ok9 (Nat.le_of_ble_eq_true rfl) rfl fl_X9_83 dX9_shownDigest_12 ?_
      refine lv_iload_n hx hb dX9_shownDigest_15 rfl (lv_at hl 1 rfl) ?_
      obtain ⟨hk27, hf⟩ := zc_s hf
      refine x_ild E hR hk27 dX9_shownDigest_16 ?_
      refine lv_bipush (v := (-9 : Int32)) hx hb dX9_shownDigest_17 rfl ?_
      refine lv_icmp_ne (tgt := 31) hx hb dX9_shownDigest_19 (by decide) (fun hq28 => ?_) (fun hq28 => ?_)
      · have hf := ite_n hq28 hf
        refine lv_aload_n hx hb dX9_shownDigest_31 rfl (lv_at hl 0 rfl) ?_
        obtain ⟨b29, hb29, hf⟩ := zr_s hf
        refine x_getR E hR hk25 hb29 ok9 (Nat.le_of_ble_eq_true rfl) rfl fl_X9_95 dX9_shownDigest_32 ?_
        refine lv_aload_n hx hb dX9_shownDigest_35 rfl (lv_at hl 0 rfl) ?_
        refine x_getR E hR hk25 hb26 ok9 (Nat.le_of_ble_eq_true rfl) rfl fl_X9_83 dX9_shownDigest_36 ?_
        refine lv_iload_n hx hb dX9_shownDigest_39 rfl (lv_at hl 1 rfl) ?_
        obtain ⟨hk30, hf⟩ := zc_s hf
        refine x_ild E hR hk30 dX9_shownDigest_40 ?_
        obtain ⟨hk31, hf⟩ := zc_s hf
        refine x_ild E hR hk31 dX9_shownDigest_41 ?_
        exact V_X9_shownDigest_42 _ ih _ _ _ _ _ _ hf p e s m args below meth c _ _ _ _ _ E hR hS (lv_sub hl [0, 1] rfl) hc hs
      · have hf := ite_p hq28 hf
        refine lv_aload_n hx hb dX9_shownDigest_22 rfl (lv_at hl 0 rfl) ?_
        obtain ⟨b32, hb32, hf⟩ := zr_s hf
        refine x_getR E hR hk25 hb32 ok9 (Nat.le_of_ble_eq_true rfl) rfl fl_X9_89 dX9_shownDigest_23 ?_
        refine lv_iload_n hx hb dX9_shownDigest_26 rfl (lv_at hl 1 rfl) ?_
        obtain ⟨hk33, hf⟩ := zc_s hf
        refine x_ild E hR hk33 dX9_shownDigest_27 ?_
        refine lv_goto (tgt := 42) hx hb dX9_shownDigest_28 (by decide) ?_
        exact V_X9_shownDigest_42 _ ih _ _ _ _ _ _ hf p e s m args below meth c _ _ _ _ _ E hR hS (lv_sub hl [0, 1] rfl) hc hs
set_option maxRecDepth 100000 in
def f_X9_shownDigest (v0 : Nat) (σ : Mm) : Option (Int32 × Mm) :=
  zck (kO σ v0 9) (f_X9_shownDigest_7 1000 v0 ((mD σ v0 36) - (1 : Int32)) σ)
set_option maxRecDepth 100000 in
set_option maxHeartbeats 4000000 in
theorem V_X9_shownDigest_0 {g : GG} (v0 : Nat) (σ : Mm) (r : Int32) (σ' : Mm) (hf : f_X9_shownDigest v0 σ = some (r, σ')) : VJ g RX9 cX9_shownDigest 4 (some .int) false rm_X9_shownDigest (some (.int r)) σ' (0) (0) 0 [(0, .ref (gB g + v0))] [] σ := by
  intro p e s m args below meth c H locs cells slots ls E hR hS hl hc hs
  obtain ⟨hx, hb, hml, hr, hlocks, hown, hts, hin, hT⟩ := id E
  unfold f_X9_shownDigest at hf
  refine lv_aload_n hx hb dX9_shownDigest_0 rfl (lv_at hl 0 rfl) ?_
  obtain ⟨hk34, hf⟩ := zc_s hf
  refine x_getI E hR hk34 ok9 36 (Nat.le_of_ble_eq_true rfl) rfl fl_X9_243 dX9_shownDigest_1 ?_
  refine lv_iconst (v := (1 : Int32)) hx hb dX9_shownDigest_4 rfl ?_
  refine lv_isub hx hb dX9_shownDigest_5 ?_
  refine lv_istore_n (lv' := [(1, .int ((mD σ v0 36) - (1 : Int32))), (0, .ref (gB g + v0))]) hx hb dX9_shownDigest_6 rfl hl (Nat.le_of_ble_eq_true rfl) rfl (fun ls hl => ?_)
  exact V_X9_shownDigest_7  1000 _ _ _ _ _ hf p e s m args below meth c _ _ _ _ _ E hR hS (lv_sub hl [1, 0] rfl) hc hs
theorem C_X9_shownDigest {g : GG} {v0 : Nat} {σ : Mm} {r : Int32} {σ' : Mm} (hf : f_X9_shownDigest v0 σ = some (r, σ')) : Ct g yX9_shownDigest cX9_shownDigest 4 (some .int) rm_X9_shownDigest [.ref (gB g + v0)] σ (some (.int r)) σ' :=
  Ct.of false (by decide +kernel) (fun h => by cases h) (Nat.le_of_ble_eq_true rfl) (V_X9_shownDigest_0 _ _ _ _ hf)
