abbrev rm_X8_lengths : Room := { frames := 5, cells := 0, slots := 0, locals := 108 }
set_option maxRecDepth 100000 in
def f_X8_lengths_47 (k_22 : Nat → Int32 → Int32 → Int32 → Int32 → Int32 → Mm → Option (Int32 × Mm)) (v0 : Nat) (v1 : Int32) (v2 : Int32) (v3 : Int32) (v4 : Int32) (v5 : Int32) (σ : Mm) : Option (Int32 × Mm) :=
  k_22 v0 v1 v2 v3 v4 (v5 + (-1 : Int32)) σ
set_option maxRecDepth 100000 in
set_option maxHeartbeats 4000000 in
theorem V_X8_lengths_47 {g : GG} (k_22 : Nat → Int32 → Int32 → Int32 → Int32 → Int32 → Mm → Option (Int32 × Mm)) (hk_22 : ∀ (v0 : Nat) (v1 : Int32) (v2 : Int32) (v3 : Int32) (v4 : Int32) (v5 : Int32) (σ : Mm) (r : Int32) (σ' : Mm), k_22 v0 v1 v2 v3 v4 v5 σ = some (r, σ') → VJ g RX8 cX8_lengths 6 (some .int) false rm_X8_lengths (some (.int r)) σ' (0) (0) 22 [(0, .ref (gB g + v0)), (1, .int v1), (2, .int v2), (3, .int v3), (4, .int v4), (5, .int v5)] [] σ) (v0 : Nat) (v1 : Int32) (v2 : Int32) (v3 : Int32) (v4 : Int32) (v5 : Int32) (σ : Mm) (r : Int32) (σ' : Mm) (hf : f_X8_lengths_47 k_22 v0 v1 v2 v3 v4 v5 σ = some (r, σ')) : VJ g RX8 cX8_lengths 6 (some .int) false rm_X8_lengths (some (.int r)) σ' (0) (0) 47 [(0, .ref (gB g + v0)), (1, .int v1), (2, .int v2), (3, .int v3), (4, .int v4), (5, .int v5)] [] σ := by
  intro p e s m args below meth c H locs cells slots ls E hR hS hl hc hs
  obtain ⟨hx, hb, hml, hr, hlocks, hown, hts, hin, hT⟩ := id E
  unfold f_X8_lengths_47 at hf
  refine lv_iinc (v := (v5 + (-1 : Int32))) (lv' := [(5, .int (v5 + (-1 : Int32))), (0, .ref (gB g + v0)), (1, .int v1), (2, .int v2), (3, .int v3), (4, .int v4)]) hx hb dX8_lengths_47 hl (k := 5) rfl rfl (Nat.le_of_ble_eq_true rfl) rfl (fun ls hl => ?_)
  refine lv_goto (tgt := 22) hx hb dX8_lengths_50 (by decide) ?_
  exact hk_22 _ _ _ _ _ _ _ _ _ hf p e s m args below meth c _ _ _ _ _ E hR hS (lv_sub hl [1, 2, 3, 4, 5, 0] rfl) hc hs
set_option maxRecDepth 100000 in
def f_X8_lengths_22 : Nat → Nat → Int32 → Int32 → Int32 → Int32 → Int32 → Mm → Option (Int32 × Mm)
  | 0, _, _, _, _, _, _, _ => none
  | n + 1, v0, v1, v2, v3, v4, v5, σ =>
    if v5 < 0 then (if v2 = 0 then (some (v3, σ)) else (some (v4, σ))) else (zck (kO σ v0 8) (zrb (mR σ v0 1) (fun b4 => zck (kO σ b4 7) (zcb (f_X7_proofLengthOf b4 v5 σ) (fun r6 σ7 => if r6 = v1 then (f_X8_lengths_47 (f_X8_lengths_22 n) v0 v1 v2 (v3 + (1 : Int32)) v5 v5 σ7) else (f_X8_lengths_47 (f_X8_lengths_22 n) v0 v1 v2 v3 v4 v5 σ7))))))
set_option maxRecDepth 100000 in
set_option maxHeartbeats 4000000 in
theorem V_X8_lengths_22 {g : GG} : ∀ (n : Nat) (v0 : Nat) (v1 : Int32) (v2 : Int32) (v3 : Int32) (v4 : Int32) (v5 : Int32) (σ : Mm) (r : Int32) (σ' : Mm), f_X8_lengths_22 n v0 v1 v2 v3 v4 v5 σ = some (r, σ') → VJ g RX8 cX8_lengths 6 (some .int) false rm_X8_lengths (some (.int r)) σ' (0) (0) 22 [(0, .ref (gB g + v0)), (1, .int v1), (2, .int v2), (3, .int v3), (4, .int v4), (5, .int v5)] [] σ := by
  intro n
  induction n with
  | zero =>
    intro v0 v1 v2 v3 v4 v5 σ r σ' hf
    unfold f_X8_lengths_22 at hf
    cases hf
  | succ n ih =>
    intro v0 v1 v2 v3 v4 v5 σ r σ' hf p e s m args below meth c H locs cells slots ls E hR hS hl hc hs
    obtain ⟨hx, hb, hml, hr, hlocks, hown, hts, hin, hT⟩ := id E
    unfold f_X8_lengths_22 at hf
    refine lv_iload hx hb dX8_lengths_22 (lv_at hl 5 rfl) ?_
    refine lv_if_lt (tgt := 53) hx hb dX8_lengths_24 (by decide) (fun hq1 => ?_) (fun hq1 => ?_)
    · have hf := ite_p hq1 hf
      refine lv_iload_n hx hb dX8_lengths_53 rfl (lv_at hl 2 rfl) ?_
      refine lv_if_ne (tgt := 61) hx hb dX8_lengths_54 (by decide) (fun hq2 => ?_) (fun hq2 => ?_)
      · have hf := ite_n hq2 hf
        refine lv_iload hx hb dX8_lengths_61 (lv_at hl 4 rfl) ?_
        obtain ⟨hr1, hs1⟩ := Prod.mk.inj (Option.some.inj hf)
        exact xr_i E hR hS rfl (by rw [hr1]) hs1.symm hc hs dX8_lengths_63
      · have hf := ite_p hq2 hf
        refine lv_iload_n hx hb dX8_lengths_57 rfl (lv_at hl 3 rfl) ?_
        refine lv_goto (tgt := 63) hx hb dX8_lengths_58 (by decide) ?_
        obtain ⟨hr1, hs1⟩ := Prod.mk.inj (Option.some.inj hf)
        exact xr_i E hR hS rfl (by rw [hr1]) hs1.symm hc hs dX8_lengths_63
    · have hf := ite_n hq1 hf
      refine lv_aload_n hx hb dX8_lengths_27 rfl (lv_at hl 0 rfl) ?_
      obtain ⟨hk3, hf⟩ := zc_s hf
      obtain ⟨b4, hb4, hf⟩ := zr_s hf
      refine x_getR E hR hk3 hb4 ok8 (Nat.le_of_ble_eq_true rfl) rfl fl_X8_19 dX8_lengths_28 ?_
      refine lv_iload hx hb dX8_lengths_31 (lv_at hl 5 rfl) ?_
      obtain ⟨hk5, hf⟩ := zc_s hf
      obtain ⟨r6, σ7, hcr6, hf⟩ := zq_s hf
      refine xV (As := [.int v5]) (rest := []) (st1 := [.int r6]) E hR hS hl (C_X7_proofLengthOf hcr6) hk5 ok7 lb_X7_proofLengthOf lv_X7_proofLengthOf ml_X8_173 ⟨Nat.le_of_ble_eq_true rfl, Nat.le_of_ble_eq_true rfl⟩ rfl rfl rfl (Nat.le_of_ble_eq_true rfl) dX8_lengths_33 ⟨hc, hs⟩ (fun H locs hR hS => ?_)
      refine lv_iload_n hx hb dX8_lengths_36 rfl (lv_at hl 1 rfl) ?_
      refine lv_icmp_ne (tgt := 47) hx hb dX8_lengths_37 (by decide) (fun hq8 => ?_) (fun hq8 => ?_)
      · have hf := ite_n hq8 hf
        exact V_X8_lengths_47 _ ih _ _ _ _ _ _ _ _ _ hf p e s m args below meth c _ _ _ _ _ E hR hS (lv_sub hl [0, 1, 2, 3, 4, 5] rfl) hc hs
      · have hf := ite_p hq8 hf
        refine lv_iinc (v := (v3 + (1 : Int32))) (lv' := [(3, .int (v3 + (1 : Int32))), (0, .ref (gB g + v0)), (1, .int v1), (2, .int v2), (4, .int v4), (5, .int v5)]) hx hb dX8_lengths_40 hl (k := 3) rfl rfl (Nat.le_of_ble_eq_true rfl) rfl (fun ls hl => ?_)
        refine lv_iload hx hb dX8_lengths_43 (lv_at hl 5 rfl) ?_
        refine lv_istore (lv' := [(4, .int v5), (3, .int (v3 + (1 : Int32))), (0, .ref (gB g + v0)), (1, .int v1), (2, .int v2), (5, .int v5)]) hx hb dX8_lengths_45 hl (Nat.le_of_ble_eq_true rfl) rfl (fun ls hl => ?_)
        exact V_X8_lengths_47 _ ih _ _ _ _ _ _ _ _ _ hf p e s m args below meth c _ _ _ _ _ E hR hS (lv_sub hl [2, 3, 4, 1, 0, 5] rfl) hc hs
set_option maxRecDepth 100000 in
def f_X8_lengths_12 (v0 : Nat) (v1 : Int32) (v2 : Int32) (σ : Mm) : Option (Int32 × Mm) :=
  f_X8_lengths_22 1000 v0 v1 v2 (0 : Int32) (-9 : Int32) (99 : Int32) σ
set_option maxRecDepth 100000 in
set_option maxHeartbeats 4000000 in
theorem V_X8_lengths_12 {g : GG} (v0 : Nat) (v1 : Int32) (v2 : Int32) (σ : Mm) (r : Int32) (σ' : Mm) (hf : f_X8_lengths_12 v0 v1 v2 σ = some (r, σ')) : VJ g RX8 cX8_lengths 6 (some .int) false rm_X8_lengths (some (.int r)) σ' (0) (0) 12 [(0, .ref (gB g + v0)), (1, .int v1), (2, .int v2)] [] σ := by
  intro p e s m args below meth c H locs cells slots ls E hR hS hl hc hs
  obtain ⟨hx, hb, hml, hr, hlocks, hown, hts, hin, hT⟩ := id E
  unfold f_X8_lengths_12 at hf
  refine lv_iconst (v := (0 : Int32)) hx hb dX8_lengths_12 rfl ?_
  refine lv_istore_n (lv' := [(3, .int (0 : Int32)), (0, .ref (gB g + v0)), (1, .int v1), (2, .int v2)]) hx hb dX8_lengths_13 rfl hl (Nat.le_of_ble_eq_true rfl) rfl (fun ls hl => ?_)
  refine lv_bipush (v := (-9 : Int32)) hx hb dX8_lengths_14 rfl ?_
  refine lv_istore (lv' := [(4, .int (-9 : Int32)), (3, .int (0 : Int32)), (0, .ref (gB g + v0)), (1, .int v1), (2, .int v2)]) hx hb dX8_lengths_16 hl (Nat.le_of_ble_eq_true rfl) rfl (fun ls hl => ?_)
  refine lv_bipush (v := (99 : Int32)) hx hb dX8_lengths_18 rfl ?_
  refine lv_istore (lv' := [(5, .int (99 : Int32)), (4, .int (-9 : Int32)), (3, .int (0 : Int32)), (0, .ref (gB g + v0)), (1, .int v1), (2, .int v2)]) hx hb dX8_lengths_20 hl (Nat.le_of_ble_eq_true rfl) rfl (fun ls hl => ?_)
  exact V_X8_lengths_22  1000 _ _ _ _ _ _ _ _ _ hf p e s m args below meth c _ _ _ _ _ E hR hS (lv_sub hl [3, 4, 5, 2, 1, 0] rfl) hc hs
set_option maxRecDepth 100000 in
def f_X8_lengths (v0 : Nat) (v1 : Int32) (v2 : Int32) (σ : Mm) : Option (Int32 × Mm) :=
  if v2 = 0 then (f_X8_lengths_12 v0 v1 v2 σ) else (if v2 = (1 : Int32) then (f_X8_lengths_12 v0 v1 v2 σ) else (some ((-2 : Int32), σ)))
set_option maxRecDepth 100000 in
set_option maxHeartbeats 4000000 in
theorem V_X8_lengths_0 {g : GG} (v0 : Nat) (v1 : Int32) (v2 : Int32) (σ : Mm) (r : Int32) (σ' : Mm) (hf : f_X8_lengths v0 v1 v2 σ = some (r, σ')) : VJ g RX8 cX8_lengths 6 (some .int) false rm_X8_lengths (some (.int r)) σ' (0) (0) 0 [(0, .ref (gB g + v0)), (1, .int v1), (2, .int v2)] [] σ := by
  intro p e s m args below meth c H locs cells slots ls E hR hS hl hc hs
  obtain ⟨hx, hb, hml, hr, hlocks, hown, hts, hin, hT⟩ := id E
  unfold f_X8_lengths at hf
  refine lv_iload_n hx hb dX8_lengths_0 rfl (lv_at hl 2 rfl) ?_
  refine lv_if_eq (tgt := 12) hx hb dX8_lengths_1 (by decide) (fun hq9 => ?_) (fun hq9 => ?_)
  · have hf := ite_p hq9 hf
    exact V_X8_lengths_12  _ _ _ _ _ _ hf p e s m args below meth c _ _ _ _ _ E hR hS (lv_sub hl [0, 1, 2] rfl) hc hs
  · have hf := ite_n hq9 hf
    refine lv_iload_n hx hb dX8_lengths_4 rfl (lv_at hl 2 rfl) ?_
    refine lv_iconst (v := (1 : Int32)) hx hb dX8_lengths_5 rfl ?_
    refine lv_icmp_eq (tgt := 12) hx hb dX8_lengths_6 (by decide) (fun hq10 => ?_) (fun hq10 => ?_)
    · have hf := ite_p hq10 hf
      exact V_X8_lengths_12  _ _ _ _ _ _ hf p e s m args below meth c _ _ _ _ _ E hR hS (lv_sub hl [0, 1, 2] rfl) hc hs
    · have hf := ite_n hq10 hf
      refine lv_bipush (v := (-2 : Int32)) hx hb dX8_lengths_9 rfl ?_
      obtain ⟨hr1, hs1⟩ := Prod.mk.inj (Option.some.inj hf)
      exact xr_i E hR hS rfl (by rw [hr1]) hs1.symm hc hs dX8_lengths_11
theorem C_X8_lengths {g : GG} {v0 : Nat} {v1 : Int32} {v2 : Int32} {σ : Mm} {r : Int32} {σ' : Mm} (hf : f_X8_lengths v0 v1 v2 σ = some (r, σ')) : Ct g yX8_lengths cX8_lengths 6 (some .int) rm_X8_lengths [.ref (gB g + v0), .int v1, .int v2] σ (some (.int r)) σ' :=
  Ct.of false (by decide +kernel) (fun h => by cases h) (Nat.le_of_ble_eq_true rfl) (V_X8_lengths_0 _ _ _ _ _ _ hf)
abbrev rm_X8_send : Room := { frames := 3, cells := 0, slots := 0, locals := 69 }
set_option maxRecDepth 100000 in
def f_X8_send (v0 : Nat) (v1 : Int32) (v2 : Int32) (σ : Mm) : Option (Int32 × Mm) :=
  zcb (f_X8_isRange v1 v2 σ) (fun r1 σ2 => if r1 = 0 then (some ((-2 : Int32), σ2)) else (zck (kO σ2 v0 8) (zrb (mR σ2 v0 1) (fun b5 => zrb (mR σ2 v0 0) (fun b6 => zrb (mR σ2 v0 3) (fun b7 => zck (kO σ2 b7 5) (zcb (f_X5_row b7 σ2) (fun r9 σ10 => zck (kO σ10 b5 7) (zcb (f_X7_writeProof b5 b6 v1 v2 r9 σ10) (fun r12 σ13 => zck (kO σ13 v0 8) (zrb (mR σ13 v0 3) (fun b15 => zck (kO σ13 b15 5) (zcb (f_X5_row b15 σ13) (fun r17 σ18 => zck (kO σ18 r17 1) (zcb (f_X1_count r17 σ18) (fun r20 σ21 => some (r20, σ21)))))))))))))))))
set_option maxRecDepth 100000 in
set_option maxHeartbeats 4000000 in
theorem V_X8_send_0 {g : GG} (v0 : Nat) (v1 : Int32) (v2 : Int32) (σ : Mm) (r : Int32) (σ' : Mm) (hf : f_X8_send v0 v1 v2 σ = some (r, σ')) : VJ g RX8 cX8_send 3 (some .int) false rm_X8_send (some (.int r)) σ' (0) (0) 0 [(0, .ref (gB g + v0)), (1, .int v1), (2, .int v2)] [] σ := by
  intro p e s m args below meth c H locs cells slots ls E hR hS hl hc hs
  obtain ⟨hx, hb, hml, hr, hlocks, hown, hts, hin, hT⟩ := id E
  unfold f_X8_send at hf
  refine lv_iload_n hx hb dX8_send_0 rfl (lv_at hl 1 rfl) ?_
  refine lv_iload_n hx hb dX8_send_1 rfl (lv_at hl 2 rfl) ?_
  obtain ⟨r1, σ2, hcr1, hf⟩ := zq_s hf
  refine xS (As := [.int v1, .int v2]) (rest := []) (st1 := [.int r1]) E hR hS hl (C_X8_isRange hcr1) lb_X8_isRange ls_X8_isRange ml_X8_153 ⟨Nat.le_of_ble_eq_true rfl, Nat.le_of_ble_eq_true rfl⟩ rfl rfl rfl (Nat.le_of_ble_eq_true rfl) dX8_send_2 ⟨hc, hs⟩ (fun H locs hR hS => ?_)
  refine lv_if_ne (tgt := 11) hx hb dX8_send_5 (by decide) (fun hq3 => ?_) (fun hq3 => ?_)
  · have hf := ite_n hq3 hf
    refine lv_aload_n hx hb dX8_send_11 rfl (lv_at hl 0 rfl) ?_
    obtain ⟨hk4, hf⟩ := zc_s hf
    obtain ⟨b5, hb5, hf⟩ := zr_s hf
    refine x_getR E hR hk4 hb5 ok8 (Nat.le_of_ble_eq_true rfl) rfl fl_X8_19 dX8_send_12 ?_
    refine lv_aload_n hx hb dX8_send_15 rfl (lv_at hl 0 rfl) ?_
    obtain ⟨b6, hb6, hf⟩ := zr_s hf
    refine x_getR E hR hk4 hb6 ok8 (Nat.le_of_ble_eq_true rfl) rfl fl_X8_12 dX8_send_16 ?_
    refine lv_iload_n hx hb dX8_send_19 rfl (lv_at hl 1 rfl) ?_
    refine lv_iload_n hx hb dX8_send_20 rfl (lv_at hl 2 rfl) ?_
    refine lv_aload_n hx hb dX8_send_21 rfl (lv_at hl 0 rfl) ?_
    obtain ⟨b7, hb7, hf⟩ := zr_s hf
    refine x_getR E hR hk4 hb7 ok8 (Nat.le_of_ble_eq_true rfl) rfl fl_X8_33 dX8_send_22 ?_
    obtain ⟨hk8, hf⟩ := zc_s hf
    obtain ⟨r9, σ10, hcr9, hf⟩ := zq_s hf
    refine xV (As := []) (rest := [.int v2, .int v1, .ref (gB g + b6), .ref (gB g + b5)]) (st1 := [.ref (gB g + r9), .int v2, .int v1, .ref (gB g + b6), .ref (gB g + b5)]) E hR hS hl (C_X5_row hcr9) hk8 ok5 lb_X5_row lv_X5_row ml_X8_108 ⟨Nat.le_of_ble_eq_true rfl, Nat.le_of_ble_eq_true rfl⟩ rfl rfl rfl (Nat.le_of_ble_eq_true rfl) dX8_send_25 ⟨hc, hs⟩ (fun H locs hR hS => ?_)
    obtain ⟨hk11, hf⟩ := zc_s hf
    obtain ⟨r12, σ13, hcr12, hf⟩ := zq_s hf
    refine xV (As := [.ref (gB g + b6), .int v1, .int v2, .ref (gB g + r9)]) (rest := []) (st1 := []) E hR hS hl (C_X7_writeProof hcr12) hk11 ok7 lb_X7_writeProof lv_X7_writeProof ml_X8_157 ⟨Nat.le_of_ble_eq_true rfl, Nat.le_of_ble_eq_true rfl⟩ rfl rfl rfl (Nat.le_of_ble_eq_true rfl) dX8_send_28 ⟨hc, hs⟩ (fun H locs hR hS => ?_)
    refine lv_aload_n hx hb dX8_send_31 rfl (lv_at hl 0 rfl) ?_
    obtain ⟨hk14, hf⟩ := zc_s hf
    obtain ⟨b15, hb15, hf⟩ := zr_s hf
    refine x_getR E hR hk14 hb15 ok8 (Nat.le_of_ble_eq_true rfl) rfl fl_X8_33 dX8_send_32 ?_
    obtain ⟨hk16, hf⟩ := zc_s hf
    obtain ⟨r17, σ18, hcr17, hf⟩ := zq_s hf
    refine xV (As := []) (rest := []) (st1 := [.ref (gB g + r17)]) E hR hS hl (C_X5_row hcr17) hk16 ok5 lb_X5_row lv_X5_row ml_X8_108 ⟨Nat.le_of_ble_eq_true rfl, Nat.le_of_ble_eq_true rfl⟩ rfl rfl rfl (Nat.le_of_ble_eq_true rfl) dX8_send_35 ⟨hc, hs⟩ (fun H locs hR hS => ?_)
    obtain ⟨hk19, hf⟩ := zc_s hf
    obtain ⟨r20, σ21, hcr20, hf⟩ := zq_s hf
    refine xV (As := []) (rest := []) (st1 := [.int r20]) E hR hS hl (C_X1_count hcr20) hk19 ok1 lb_X1_count lv_X1_count ml_X8_112 ⟨Nat.le_of_ble_eq_true rfl, Nat.le_of_ble_eq_true rfl⟩ rfl rfl rfl (Nat.le_of_ble_eq_true rfl) dX8_send_38 ⟨hc, hs⟩ (fun H locs hR hS => ?_)
    obtain ⟨hr1, hs1⟩ := Prod.mk.inj (Option.some.inj hf)
    exact xr_i E hR hS rfl (by rw [hr1]) hs1.symm hc hs dX8_send_41
  · have hf := ite_p hq3 hf
    refine lv_bipush (v := (-2 : Int32)) hx hb dX8_send_8 rfl ?_
    obtain ⟨hr1, hs1⟩ := Prod.mk.inj (Option.some.inj hf)
    exact xr_i E hR hS rfl (by rw [hr1]) hs1.symm hc hs dX8_send_10
theorem C_X8_send {g : GG} {v0 : Nat} {v1 : Int32} {v2 : Int32} {σ : Mm} {r : Int32} {σ' : Mm} (hf : f_X8_send v0 v1 v2 σ = some (r, σ')) : Ct g yX8_send cX8_send 3 (some .int) rm_X8_send [.ref (gB g + v0), .int v1, .int v2] σ (some (.int r)) σ' :=
  Ct.of false (by decide +kernel) (fun h => by cases h) (Nat.le_of_ble_eq_true rfl) (V_X8_send_0 _ _ _ _ _ _ hf)
abbrev rm_X8_isNodeItem : Room := { frames := 0, cells := 0, slots := 0, locals := 0 }
set_option maxRecDepth 100000 in
def f_X8_isNodeItem (v0 : Int32) (σ : Mm) : Option (Int32 × Mm) :=
  if (-100 : Int32) < v0 then (some ((0 : Int32), σ)) else (if v0 < (-10099 : Int32) then (some ((0 : Int32), σ)) else (some ((1 : Int32), σ)))
set_option maxRecDepth 100000 in
set_option maxHeartbeats 4000000 in
theorem V_X8_isNodeItem_0 {g : GG} (v0 : Int32) (σ : Mm) (r : Int32) (σ' : Mm) (hf : f_X8_isNodeItem v0 σ = some (r, σ')) : VJ g RX8 cX8_isNodeItem 1 (some .boolean) false rm_X8_isNodeItem (some (.int r)) σ' (0) (0) 0 [(0, .int v0)] [] σ := by
  intro p e s m args below meth c H locs cells slots ls E hR hS hl hc hs
  obtain ⟨hx, hb, hml, hr, hlocks, hown, hts, hin, hT⟩ := id E
  unfold f_X8_isNodeItem at hf
  refine lv_iload_n hx hb dX8_isNodeItem_0 rfl (lv_at hl 0 rfl) ?_
  refine lv_bipush (v := (-100 : Int32)) hx hb dX8_isNodeItem_1 rfl ?_
  refine lv_icmp_gt (tgt := 17) hx hb dX8_isNodeItem_3 (by decide) (fun hq1 => ?_) (fun hq1 => ?_)
  · have hf := ite_p hq1 hf
    refine lv_iconst (v := (0 : Int32)) hx hb dX8_isNodeItem_17 rfl ?_
    obtain ⟨hr1, hs1⟩ := Prod.mk.inj (Option.some.inj hf)
    exact xr_z E hR hS rfl rfl (by rw [hr1]) hs1.symm hc hs dX8_isNodeItem_18
  · have hf := ite_n hq1 hf
    refine lv_iload_n hx hb dX8_isNodeItem_6 rfl (lv_at hl 0 rfl) ?_
    refine lv_sipush (v := (-10099 : Int32)) hx hb dX8_isNodeItem_7 rfl ?_
    refine lv_icmp_lt (tgt := 17) hx hb dX8_isNodeItem_10 (by decide) (fun hq2 => ?_) (fun hq2 => ?_)
    · have hf := ite_p hq2 hf
      refine lv_iconst (v := (0 : Int32)) hx hb dX8_isNodeItem_17 rfl ?_
      obtain ⟨hr1, hs1⟩ := Prod.mk.inj (Option.some.inj hf)
      exact xr_z E hR hS rfl rfl (by rw [hr1]) hs1.symm hc hs dX8_isNodeItem_18
    · have hf := ite_n hq2 hf
      refine lv_iconst (v := (1 : Int32)) hx hb dX8_isNodeItem_13 rfl ?_
      refine lv_goto (tgt := 18) hx hb dX8_isNodeItem_14 (by decide) ?_
      obtain ⟨hr1, hs1⟩ := Prod.mk.inj (Option.some.inj hf)
      exact xr_z E hR hS rfl rfl (by rw [hr1]) hs1.symm hc hs dX8_isNodeItem_18
theorem C_X8_isNodeItem {g : GG} {v0 : Int32} {σ : Mm} {r : Int32} {σ' : Mm} (hf : f_X8_isNodeItem v0 σ = some (r, σ')) : Ct g yX8_isNodeItem cX8_isNodeItem 1 (some .boolean) rm_X8_isNodeItem [.int v0] σ (some (.int r)) σ' :=
  Ct.of false (by decide +kernel) (fun h => by cases h) (Nat.le_of_ble_eq_true rfl) (V_X8_isNodeItem_0 _ _ _ _ hf)
abbrev rm_X8_isItem : Room := { frames := 1, cells := 0, slots := 0, locals := 20 }
set_option maxRecDepth 100000 in
def f_X8_isItem (v0 : Int32) (σ : Mm) : Option (Int32 × Mm) :=
  if 0 ≤ v0 then (some ((1 : Int32), σ)) else (zcb (f_X8_isNodeItem v0 σ) (fun r2 σ3 => if r2 = 0 then (some ((0 : Int32), σ3)) else (some ((1 : Int32), σ3))))
set_option maxRecDepth 100000 in
set_option maxHeartbeats 4000000 in
theorem V_X8_isItem_0 {g : GG} (v0 : Int32) (σ : Mm) (r : Int32) (σ' : Mm) (hf : f_X8_isItem v0 σ = some (r, σ')) : VJ g RX8 cX8_isItem 1 (some .boolean) false rm_X8_isItem (some (.int r)) σ' (0) (0) 0 [(0, .int v0)] [] σ := by
  intro p e s m args below meth c H locs cells slots ls E hR hS hl hc hs
  obtain ⟨hx, hb, hml, hr, hlocks, hown, hts, hin, hT⟩ := id E
  unfold f_X8_isItem at hf
  refine lv_iload_n hx hb dX8_isItem_0 rfl (lv_at hl 0 rfl) ?_
  refine lv_if_ge (tgt := 11) hx hb dX8_isItem_1 (by decide) (fun hq1 => ?_) (fun hq1 => ?_)
  · have hf := ite_p hq1 hf
    refine lv_iconst (v := (1 : Int32)) hx hb dX8_isItem_11 rfl ?_
    refine lv_goto (tgt := 16) hx hb dX8_isItem_12 (by decide) ?_
    obtain ⟨hr1, hs1⟩ := Prod.mk.inj (Option.some.inj hf)
    exact xr_z E hR hS rfl rfl (by rw [hr1]) hs1.symm hc hs dX8_isItem_16
  · have hf := ite_n hq1 hf
    refine lv_iload_n hx hb dX8_isItem_4 rfl (lv_at hl 0 rfl) ?_
    obtain ⟨r2, σ3, hcr2, hf⟩ := zq_s hf
    refine xS (As := [.int v0]) (rest := []) (st1 := [.int r2]) E hR hS hl (C_X8_isNodeItem hcr2) lb_X8_isNodeItem ls_X8_isNodeItem ml_X8_275 ⟨Nat.le_of_ble_eq_true rfl, Nat.le_of_ble_eq_true rfl⟩ rfl rfl rfl (Nat.le_of_ble_eq_true rfl) dX8_isItem_5 ⟨hc, hs⟩ (fun H locs hR hS => ?_)
    refine lv_if_eq (tgt := 15) hx hb dX8_isItem_8 (by decide) (fun hq4 => ?_) (fun hq4 => ?_)
    · have hf := ite_p hq4 hf
      refine lv_iconst (v := (0 : Int32)) hx hb dX8_isItem_15 rfl ?_
      obtain ⟨hr1, hs1⟩ := Prod.mk.inj (Option.some.inj hf)
      exact xr_z E hR hS rfl rfl (by rw [hr1]) hs1.symm hc hs dX8_isItem_16
    · have hf := ite_n hq4 hf
      refine lv_iconst (v := (1 : Int32)) hx hb dX8_isItem_11 rfl ?_
      refine lv_goto (tgt := 16) hx hb dX8_isItem_12 (by decide) ?_
      obtain ⟨hr1, hs1⟩ := Prod.mk.inj (Option.some.inj hf)
      exact xr_z E hR hS rfl rfl (by rw [hr1]) hs1.symm hc hs dX8_isItem_16
theorem C_X8_isItem {g : GG} {v0 : Int32} {σ : Mm} {r : Int32} {σ' : Mm} (hf : f_X8_isItem v0 σ = some (r, σ')) : Ct g yX8_isItem cX8_isItem 1 (some .boolean) rm_X8_isItem [.int v0] σ (some (.int r)) σ' :=
  Ct.of false (by decide +kernel) (fun h => by cases h) (Nat.le_of_ble_eq_true rfl) (V_X8_isItem_0 _ _ _ _ hf)
abbrev rm_X8_tell : Room := { frames := 2, cells := 0, slots := 0, locals := 41 }
set_option maxRecDepth 100000 in
def f_X8_tell (v0 : Nat) (v1 : Int32) (σ : Mm) : Option (Int32 × Mm) :=
  zcb (f_X8_isItem v1 σ) (fun r1 σ2 => if r1 = 0 then (some ((-2 : Int32), σ2)) else (zck (kO σ2 v0 8) (zrb (mR σ2 v0 3) (fun b5 => zck (kO σ2 b5 5) (zcb (f_X5_row b5 σ2) (fun r7 σ8 => zck (kO σ8 r7 1) (zcb (f_X1_isFull r7 σ8) (fun r10 σ11 => if r10 = 0 then (zck (kO σ11 v0 8) (zrb (mR σ11 v0 3) (fun b14 => zck (kO σ11 b14 5) (zcb (f_X5_row b14 σ11) (fun r16 σ17 => zck (kO σ17 r16 1) (zcb (f_X1_add r16 v1 σ17) (fun r19 σ20 => zck (kO σ20 v0 8) (zrb (mR σ20 v0 3) (fun b22 => zck (kO σ20 b22 5) (zcb (f_X5_row b22 σ20) (fun r24 σ25 => zck (kO σ25 r24 1) (zcb (f_X1_count r24 σ25) (fun r27 σ28 => some (r27, σ28)))))))))))))) else (some ((-4 : Int32), σ11))))))))))
set_option maxRecDepth 100000 in
set_option maxHeartbeats 4000000 in
theorem V_X8_tell_0 {g : GG} (v0 : Nat) (v1 : Int32) (σ : Mm) (r : Int32) (σ' : Mm) (hf : f_X8_tell v0 v1 σ = some (r, σ')) : VJ g RX8 cX8_tell 2 (some .int) false rm_X8_tell (some (.int r)) σ' (0) (0) 0 [(0, .ref (gB g + v0)), (1, .int v1)] [] σ := by
  intro p e s m args below meth c H locs cells slots ls E hR hS hl hc hs
  obtain ⟨hx, hb, hml, hr, hlocks, hown, hts, hin, hT⟩ := id E
  unfold f_X8_tell at hf
  refine lv_iload_n hx hb dX8_tell_0 rfl (lv_at hl 1 rfl) ?_
  obtain ⟨r1, σ2, hcr1, hf⟩ := zq_s hf
  refine xS (As := [.int v1]) (rest := []) (st1 := [.int r1]) E hR hS hl (C_X8_isItem hcr1) lb_X8_isItem ls_X8_isItem ml_X8_176 ⟨Nat.le_of_ble_eq_true rfl, Nat.le_of_ble_eq_true rfl⟩ rfl rfl rfl (Nat.le_of_ble_eq_true rfl) dX8_tell_1 ⟨hc, hs⟩ (fun H locs hR hS => ?_)
  refine lv_if_ne (tgt := 10) hx hb dX8_tell_4 (by decide) (fun hq3 => ?_) (fun hq3 => ?_)
  · have hf := ite_n hq3 hf
    refine lv_aload_n hx hb dX8_tell_10 rfl (lv_at hl 0 rfl) ?_
    obtain ⟨hk4, hf⟩ := zc_s hf
    obtain ⟨b5, hb5, hf⟩ := zr_s hf
    refine x_getR E hR hk4 hb5 ok8 (Nat.le_of_ble_eq_true rfl) rfl fl_X8_33 dX8_tell_11 ?_
    obtain ⟨hk6, hf⟩ := zc_s hf
    obtain ⟨r7, σ8, hcr7, hf⟩ := zq_s hf
    refine xV (As := []) (rest := []) (st1 := [.ref (gB g + r7)]) E hR hS hl (C_X5_row hcr7) hk6 ok5 lb_X5_row lv_X5_row ml_X8_108 ⟨Nat.le_of_ble_eq_true rfl, Nat.le_of_ble_eq_true rfl⟩ rfl rfl rfl (Nat.le_of_ble_eq_true rfl) dX8_tell_14 ⟨hc, hs⟩ (fun H locs hR hS => ?_)
    obtain ⟨hk9, hf⟩ := zc_s hf
    obtain ⟨r10, σ11, hcr10, hf⟩ := zq_s hf
    refine xV (As := []) (rest := []) (st1 := [.int r10]) E hR hS hl (C_X1_isFull hcr10) hk9 ok1 lb_X1_isFull lv_X1_isFull ml_X8_179 ⟨Nat.le_of_ble_eq_true rfl, Nat.le_of_ble_eq_true rfl⟩ rfl rfl rfl (Nat.le_of_ble_eq_true rfl) dX8_tell_17 ⟨hc, hs⟩ (fun H locs hR hS => ?_)
    refine lv_if_eq (tgt := 26) hx hb dX8_tell_20 (by decide) (fun hq12 => ?_) (fun hq12 => ?_)
    · have hf := ite_p hq12 hf
      refine lv_aload_n hx hb dX8_tell_26 rfl (lv_at hl 0 rfl) ?_
      obtain ⟨hk13, hf⟩ := zc_s hf
      obtain ⟨b14, hb14, hf⟩ := zr_s hf
      refine x_getR E hR hk13 hb14 ok8 (Nat.le_of_ble_eq_true rfl) rfl fl_X8_33 dX8_tell_27 ?_
      obtain ⟨hk15, hf⟩ := zc_s hf
      obtain ⟨r16, σ17, hcr16, hf⟩ := zq_s hf
      refine xV (As := []) (rest := []) (st1 := [.ref (gB g + r16)]) E hR hS hl (C_X5_row hcr16) hk15 ok5 lb_X5_row lv_X5_row ml_X8_108 ⟨Nat.le_of_ble_eq_true rfl, Nat.le_of_ble_eq_true rfl⟩ rfl rfl rfl (Nat.le_of_ble_eq_true rfl) dX8_tell_30 ⟨hc, hs⟩ (fun H locs hR hS => ?_)
      refine lv_iload_n hx hb dX8_tell_33 rfl (lv_at hl 1 rfl) ?_
      obtain ⟨hk18, hf⟩ := zc_s hf
      obtain ⟨r19, σ20, hcr19, hf⟩ := zq_s hf
      refine xV (As := [.int v1]) (rest := []) (st1 := []) E hR hS hl (C_X1_add hcr19) hk18 ok1 lb_X1_add lv_X1_add ml_X8_183 ⟨Nat.le_of_ble_eq_true rfl, Nat.le_of_ble_eq_true rfl⟩ rfl rfl rfl (Nat.le_of_ble_eq_true rfl) dX8_tell_34 ⟨hc, hs⟩ (fun H locs hR hS => ?_)
      refine lv_aload_n hx hb dX8_tell_37 rfl (lv_at hl 0 rfl) ?_
      obtain ⟨hk21, hf⟩ := zc_s hf
      obtain ⟨b22, hb22, hf⟩ := zr_s hf
      refine x_getR E hR hk21 hb22 ok8 (Nat.le_of_ble_eq_true rfl) rfl fl_X8_33 dX8_tell_38 ?_
      obtain ⟨hk23, hf⟩ := zc_s hf
      obtain ⟨r24, σ25, hcr24, hf⟩ := zq_s hf
      refine xV (As := []) (rest := []) (st1 := [.ref (gB g + r24)]) E hR hS hl (C_X5_row hcr24) hk23 ok5 lb_X5_row lv_X5_row ml_X8_108 ⟨Nat.le_of_ble_eq_true rfl, Nat.le_of_ble_eq_true rfl⟩ rfl rfl rfl (Nat.le_of_ble_eq_true rfl) dX8_tell_41 ⟨hc, hs⟩ (fun H locs hR hS => ?_)
      obtain ⟨hk26, hf⟩ := zc_s hf
      obtain ⟨r27, σ28, hcr27, hf⟩ := zq_s hf
      refine xV (As := []) (rest := []) (st1 := [.int r27]) E hR hS hl (C_X1_count hcr27) hk26 ok1 lb_X1_count lv_X1_count ml_X8_112 ⟨Nat.le_of_ble_eq_true rfl, Nat.le_of_ble_eq_true rfl⟩ rfl rfl rfl (Nat.le_of_ble_eq_true rfl) dX8_tell_44 ⟨hc, hs⟩ (fun H locs hR hS => ?_)
      obtain ⟨hr1, hs1⟩ := Prod.mk.inj (Option.some.inj hf)
      exact xr_i E hR hS rfl (by rw [hr1]) hs1.symm hc hs dX8_tell_47
    · have hf := ite_n hq12 hf
      refine lv_bipush (v := (-4 : Int32)) hx hb dX8_tell_23 rfl ?_
      obtain ⟨hr1, hs1⟩ := Prod.mk.inj (Option.some.inj hf)
      exact xr_i E hR hS rfl (by rw [hr1]) hs1.symm hc hs dX8_tell_25
  · have hf := ite_p hq3 hf
    refine lv_bipush (v := (-2 : Int32)) hx hb dX8_tell_7 rfl ?_
    obtain ⟨hr1, hs1⟩ := Prod.mk.inj (Option.some.inj hf)
    exact xr_i E hR hS rfl (by rw [hr1]) hs1.symm hc hs dX8_tell_9
theorem C_X8_tell {g : GG} {v0 : Nat} {v1 : Int32} {σ : Mm} {r : Int32} {σ' : Mm} (hf : f_X8_tell v0 v1 σ = some (r, σ')) : Ct g yX8_tell cX8_tell 2 (some .int) rm_X8_tell [.ref (gB g + v0), .int v1] σ (some (.int r)) σ' :=
  Ct.of false (by decide +kernel) (fun h => by cases h) (Nat.le_of_ble_eq_true rfl) (V_X8_tell_0 _ _ _ _ _ hf)
abbrev rm_X8_alter : Room := { frames := 2, cells := 0, slots := 0, locals := 43 }
set_option maxRecDepth 100000 in
def f_X8_alter (v0 : Nat) (v1 : Int32) (v2 : Int32) (σ : Mm) : Option (Int32 × Mm) :=
  zck (kO σ v0 8) (zrb (mR σ v0 3) (fun b2 => zck (kO σ b2 5) (zcb (f_X5_row b2 σ) (fun r4 σ5 => zck (kO σ5 r4 1) (zcb (f_X1_hasPlace r4 v1 σ5) (fun r7 σ8 => if r7 = 0 then (some ((-1 : Int32), σ8)) else (zcb (f_X8_isItem v2 σ8) (fun r10 σ11 => if r10 = 0 then (some ((-2 : Int32), σ11)) else (zck (kO σ11 v0 8) (zrb (mR σ11 v0 3) (fun b14 => zck (kO σ11 b14 5) (zcb (f_X5_row b14 σ11) (fun r16 σ17 => zck (kO σ17 r16 1) (zcb (f_X1_itemAt r16 v1 σ17) (fun r19 σ20 => zck (kO σ20 v0 8) (zrb (mR σ20 v0 3) (fun b22 => zck (kO σ20 b22 5) (zcb (f_X5_row b22 σ20) (fun r24 σ25 => zck (kO σ25 r24 1) (zcb (f_X1_replace r24 v1 v2 σ25) (fun r27 σ28 => some (r19, σ28))))))))))))))))))))))
set_option maxRecDepth 100000 in
set_option maxHeartbeats 4000000 in
theorem V_X8_alter_0 {g : GG} (v0 : Nat) (v1 : Int32) (v2 : Int32) (σ : Mm) (r : Int32) (σ' : Mm) (hf : f_X8_alter v0 v1 v2 σ = some (r, σ')) : VJ g RX8 cX8_alter 4 (some .int) false rm_X8_alter (some (.int r)) σ' (0) (0) 0 [(0, .ref (gB g + v0)), (1, .int v1), (2, .int v2)] [] σ := by
  intro p e s m args below meth c H locs cells slots ls E hR hS hl hc hs
  obtain ⟨hx, hb, hml, hr, hlocks, hown, hts, hin, hT⟩ := id E
  unfold f_X8_alter at hf
  refine lv_aload_n hx hb dX8_alter_0 rfl (lv_at hl 0 rfl) ?_
  obtain ⟨hk1, hf⟩ := zc_s hf
  obtain ⟨b2, hb2, hf⟩ := zr_s hf
  refine x_getR E hR hk1 hb2 ok8 (Nat.le_of_ble_eq_true rfl) rfl fl_X8_33 dX8_alter_1 ?_
  obtain ⟨hk3, hf⟩ := zc_s hf
  obtain ⟨r4, σ5, hcr4, hf⟩ := zq_s hf
  refine xV (As := []) (rest := []) (st1 := [.ref (gB g + r4)]) E hR hS hl (C_X5_row hcr4) hk3 ok5 lb_X5_row lv_X5_row ml_X8_108 ⟨Nat.le_of_ble_eq_true rfl, Nat.le_of_ble_eq_true rfl⟩ rfl rfl rfl (Nat.le_of_ble_eq_true rfl) dX8_alter_4 ⟨hc, hs⟩ (fun H locs hR hS => ?_)
  refine lv_iload_n hx hb dX8_alter_7 rfl (lv_at hl 1 rfl) ?_
  obtain ⟨hk6, hf⟩ := zc_s hf
  obtain ⟨r7, σ8, hcr7, hf⟩ := zq_s hf
  refine xV (As := [.int v1]) (rest := []) (st1 := [.int r7]) E hR hS hl (C_X1_hasPlace hcr7) hk6 ok1 lb_X1_hasPlace lv_X1_hasPlace ml_X8_167 ⟨Nat.le_of_ble_eq_true rfl, Nat.le_of_ble_eq_true rfl⟩ rfl rfl rfl (Nat.le_of_ble_eq_true rfl) dX8_alter_8 ⟨hc, hs⟩ (fun H locs hR hS => ?_)
  refine lv_if_ne (tgt := 16) hx hb dX8_alter_11 (by decide) (fun hq9 => ?_) (fun hq9 => ?_)
  · have hf := ite_n hq9 hf
    refine lv_iload_n hx hb dX8_alter_16 rfl (lv_at hl 2 rfl) ?_
    obtain ⟨r10, σ11, hcr10, hf⟩ := zq_s hf
    refine xS (As := [.int v2]) (rest := []) (st1 := [.int r10]) E hR hS hl (C_X8_isItem hcr10) lb_X8_isItem ls_X8_isItem ml_X8_176 ⟨Nat.le_of_ble_eq_true rfl, Nat.le_of_ble_eq_true rfl⟩ rfl rfl rfl (Nat.le_of_ble_eq_true rfl) dX8_alter_17 ⟨hc, hs⟩ (fun H locs hR hS => ?_)
    refine lv_if_ne (tgt := 26) hx hb dX8_alter_20 (by decide) (fun hq12 => ?_) (fun hq12 => ?_)
    · have hf := ite_n hq12 hf
      refine lv_aload_n hx hb dX8_alter_26 rfl (lv_at hl 0 rfl) ?_
      obtain ⟨hk13, hf⟩ := zc_s hf
      obtain ⟨b14, hb14, hf⟩ := zr_s hf
      refine x_getR E hR hk13 hb14 ok8 (Nat.le_of_ble_eq_true rfl) rfl fl_X8_33 dX8_alter_27 ?_
      obtain ⟨hk15, hf⟩ := zc_s hf
      obtain ⟨r16, σ17, hcr16, hf⟩ := zq_s hf
      refine xV (As := []) (rest := []) (st1 := [.ref (gB g + r16)]) E hR hS hl (C_X5_row hcr16) hk15 ok5 lb_X5_row lv_X5_row ml_X8_108 ⟨Nat.le_of_ble_eq_true rfl, Nat.le_of_ble_eq_true rfl⟩ rfl rfl rfl (Nat.le_of_ble_eq_true rfl) dX8_alter_30 ⟨hc, hs⟩ (fun H locs hR hS => ?_)
      refine lv_iload_n hx hb dX8_alter_33 rfl (lv_at hl 1 rfl) ?_
      obtain ⟨hk18, hf⟩ := zc_s hf
      obtain ⟨r19, σ20, hcr19, hf⟩ := zq_s hf
      refine xV (As := [.int v1]) (rest := []) (st1 := [.int r19]) E hR hS hl (C_X1_itemAt hcr19) hk18 ok1 lb_X1_itemAt lv_X1_itemAt ml_X8_170 ⟨Nat.le_of_ble_eq_true rfl, Nat.le_of_ble_eq_true rfl⟩ rfl rfl rfl (Nat.le_of_ble_eq_true rfl) dX8_alter_34 ⟨hc, hs⟩ (fun H locs hR hS => ?_)
      refine lv_istore_n (lv' := [(3, .int r19), (0, .ref (gB g + v0)), (1, .int v1), (2, .int v2)]) hx hb dX8_alter_37 rfl hl (Nat.le_of_ble_eq_true rfl) rfl (fun ls hl => ?_)
      refine lv_aload_n hx hb dX8_alter_38 rfl (lv_at hl 1 rfl) ?_
      obtain ⟨hk21, hf⟩ := zc_s hf
      obtain ⟨b22, hb22, hf⟩ := zr_s hf
      refine x_getR E hR hk21 hb22 ok8 (Nat.le_of_ble_eq_true rfl) rfl fl_X8_33 dX8_alter_39 ?_
      obtain ⟨hk23, hf⟩ := zc_s hf
      obtain ⟨r24, σ25, hcr24, hf⟩ := zq_s hf
      refine xV (As := []) (rest := []) (st1 := [.ref (gB g + r24)]) E hR hS hl (C_X5_row hcr24) hk23 ok5 lb_X5_row lv_X5_row ml_X8_108 ⟨Nat.le_of_ble_eq_true rfl, Nat.le_of_ble_eq_true rfl⟩ rfl rfl rfl (Nat.le_of_ble_eq_true rfl) dX8_alter_42 ⟨hc, hs⟩ (fun H locs hR hS => ?_)
      refine lv_iload_n hx hb dX8_alter_45 rfl (lv_at hl 2 rfl) ?_
      refine lv_iload_n hx hb dX8_alter_46 rfl (lv_at hl 3 rfl) ?_
      obtain ⟨hk26, hf⟩ := zc_s hf
      obtain ⟨r27, σ28, hcr27, hf⟩ := zq_s hf
      refine xV (As := [.int v1, .int v2]) (rest := []) (st1 := []) E hR hS hl (C_X1_replace hcr27) hk26 ok1 lb_X1_replace lv_X1_replace ml_X8_186 ⟨Nat.le_of_ble_eq_true rfl, Nat.le_of_ble_eq_true rfl⟩ rfl rfl rfl (Nat.le_of_ble_eq_true rfl) dX8_alter_47 ⟨hc, hs⟩ (fun H locs hR hS => ?_)
      refine lv_iload_n hx hb dX8_alter_50 rfl (lv_at hl 0 rfl) ?_
      obtain ⟨hr1, hs1⟩ := Prod.mk.inj (Option.some.inj hf)
      exact xr_i E hR hS rfl (by rw [hr1]) hs1.symm hc hs dX8_alter_51
    · have hf := ite_p hq12 hf
      refine lv_bipush (v := (-2 : Int32)) hx hb dX8_alter_23 rfl ?_
      obtain ⟨hr1, hs1⟩ := Prod.mk.inj (Option.some.inj hf)
      exact xr_i E hR hS rfl (by rw [hr1]) hs1.symm hc hs dX8_alter_25
  · have hf := ite_p hq9 hf
    refine lv_iconst (v := (-1 : Int32)) hx hb dX8_alter_14 rfl ?_
    obtain ⟨hr1, hs1⟩ := Prod.mk.inj (Option.some.inj hf)
    exact xr_i E hR hS rfl (by rw [hr1]) hs1.symm hc hs dX8_alter_15
theorem C_X8_alter {g : GG} {v0 : Nat} {v1 : Int32} {v2 : Int32} {σ : Mm} {r : Int32} {σ' : Mm} (hf : f_X8_alter v0 v1 v2 σ = some (r, σ')) : Ct g yX8_alter cX8_alter 4 (some .int) rm_X8_alter [.ref (gB g + v0), .int v1, .int v2] σ (some (.int r)) σ' :=
  Ct.of false (by decide +kernel) (fun h => by cases h) (Nat.le_of_ble_eq_true rfl) (V_X8_alter_0 _ _ _ _ _ _ hf)
abbrev rm_X8_cut : Room := { frames := 1, cells := 0, slots := 0, locals := 21 }
set_option maxRecDepth 100000 in
def f_X8_cut (v0 : Nat) (v1 : Int32) (σ : Mm) : Option (Int32 × Mm) :=
  zck (kO σ v0 8) (zrb (mR σ v0 3) (fun b2 => zck (kO σ b2 5) (zcb (f_X5_row b2 σ) (fun r4 σ5 => zck (kO σ5 r4 1) (zcb (f_X1_count r4 σ5) (fun r7 σ8 => if v1 < 0 then (some ((-2 : Int32), σ8)) else (if v1 ≤ r7 then (zck (kO σ8 v0 8) (zrb (mR σ8 v0 3) (fun b12 => zck (kO σ8 b12 5) (zcb (f_X5_row b12 σ8) (fun r14 σ15 => zck (kO σ15 r14 1) (zcb (f_X1_shorten r14 v1 σ15) (fun r17 σ18 => some (r7, σ18)))))))) else (some ((-2 : Int32), σ8)))))))))
set_option maxRecDepth 100000 in
set_option maxHeartbeats 4000000 in
theorem V_X8_cut_0 {g : GG} (v0 : Nat) (v1 : Int32) (σ : Mm) (r : Int32) (σ' : Mm) (hf : f_X8_cut v0 v1 σ = some (r, σ')) : VJ g RX8 cX8_cut 3 (some .int) false rm_X8_cut (some (.int r)) σ' (0) (0) 0 [(0, .ref (gB g + v0)), (1, .int v1)] [] σ := by
  intro p e s m args below meth c H locs cells slots ls E hR hS hl hc hs
  obtain ⟨hx, hb, hml, hr, hlocks, hown, hts, hin, hT⟩ := id E
  unfold f_X8_cut at hf
  refine lv_aload_n hx hb dX8_cut_0 rfl (lv_at hl 0 rfl) ?_
  obtain ⟨hk1, hf⟩ := zc_s hf
  obtain ⟨b2, hb2, hf⟩ := zr_s hf
  refine x_getR E hR hk1 hb2 ok8 (Nat.le_of_ble_eq_true rfl) rfl fl_X8_33 dX8_cut_1 ?_
  obtain ⟨hk3, hf⟩ := zc_s hf
  obtain ⟨r4, σ5, hcr4, hf⟩ := zq_s hf
  refine xV (As := []) (rest := []) (st1 := [.ref (gB g + r4)]) E hR hS hl (C_X5_row hcr4) hk3 ok5 lb_X5_row lv_X5_row ml_X8_108 ⟨Nat.le_of_ble_eq_true rfl, Nat.le_of_ble_eq_true rfl⟩ rfl rfl rfl (Nat.le_of_ble_eq_true rfl) dX8_cut_4 ⟨hc, hs⟩ (fun H locs hR hS => ?_)
  obtain ⟨hk6, hf⟩ := zc_s hf
  obtain ⟨r7, σ8, hcr7, hf⟩ := zq_s hf
  refine xV (As := []) (rest := []) (st1 := [.int r7]) E hR hS hl (C_X1_count hcr7) hk6 ok1 lb_X1_count lv_X1_count ml_X8_112 ⟨Nat.le_of_ble_eq_true rfl, Nat.le_of_ble_eq_true rfl⟩ rfl rfl rfl (Nat.le_of_ble_eq_true rfl) dX8_cut_7 ⟨hc, hs⟩ (fun H locs hR hS => ?_)
  refine lv_istore_n (lv' := [(2, .int r7), (0, .ref (gB g + v0)), (1, .int v1)]) hx hb dX8_cut_10 rfl hl (Nat.le_of_ble_eq_true rfl) rfl (fun ls hl => ?_)
  refine lv_iload_n hx hb dX8_cut_11 rfl (lv_at hl 2 rfl) ?_
  refine lv_if_lt (tgt := 20) hx hb dX8_cut_12 (by decide) (fun hq9 => ?_) (fun hq9 => ?_)
  · have hf := ite_p hq9 hf
    refine lv_bipush (v := (-2 : Int32)) hx hb dX8_cut_20 rfl ?_
    obtain ⟨hr1, hs1⟩ := Prod.mk.inj (Option.some.inj hf)
    exact xr_i E hR hS rfl (by rw [hr1]) hs1.symm hc hs dX8_cut_22
  · have hf := ite_n hq9 hf
    refine lv_iload_n hx hb dX8_cut_15 rfl (lv_at hl 2 rfl) ?_
    refine lv_iload_n hx hb dX8_cut_16 rfl (lv_at hl 0 rfl) ?_
    refine lv_icmp_le (tgt := 23) hx hb dX8_cut_17 (by decide) (fun hq10 => ?_) (fun hq10 => ?_)
    · have hf := ite_p hq10 hf
      refine lv_aload_n hx hb dX8_cut_23 rfl (lv_at hl 1 rfl) ?_
      obtain ⟨hk11, hf⟩ := zc_s hf
      obtain ⟨b12, hb12, hf⟩ := zr_s hf
      refine x_getR E hR hk11 hb12 ok8 (Nat.le_of_ble_eq_true rfl) rfl fl_X8_33 dX8_cut_24 ?_
      obtain ⟨hk13, hf⟩ := zc_s hf
      obtain ⟨r14, σ15, hcr14, hf⟩ := zq_s hf
      refine xV (As := []) (rest := []) (st1 := [.ref (gB g + r14)]) E hR hS hl (C_X5_row hcr14) hk13 ok5 lb_X5_row lv_X5_row ml_X8_108 ⟨Nat.le_of_ble_eq_true rfl, Nat.le_of_ble_eq_true rfl⟩ rfl rfl rfl (Nat.le_of_ble_eq_true rfl) dX8_cut_27 ⟨hc, hs⟩ (fun H locs hR hS => ?_)
      refine lv_iload_n hx hb dX8_cut_30 rfl (lv_at hl 2 rfl) ?_
      obtain ⟨hk16, hf⟩ := zc_s hf
      obtain ⟨r17, σ18, hcr17, hf⟩ := zq_s hf
      refine xV (As := [.int v1]) (rest := []) (st1 := []) E hR hS hl (C_X1_shorten hcr17) hk16 ok1 lb_X1_shorten lv_X1_shorten ml_X8_189 ⟨Nat.le_of_ble_eq_true rfl, Nat.le_of_ble_eq_true rfl⟩ rfl rfl rfl (Nat.le_of_ble_eq_true rfl) dX8_cut_31 ⟨hc, hs⟩ (fun H locs hR hS => ?_)
      refine lv_iload_n hx hb dX8_cut_34 rfl (lv_at hl 0 rfl) ?_
      obtain ⟨hr1, hs1⟩ := Prod.mk.inj (Option.some.inj hf)
      exact xr_i E hR hS rfl (by rw [hr1]) hs1.symm hc hs dX8_cut_35
    · have hf := ite_n hq10 hf
      refine lv_bipush (v := (-2 : Int32)) hx hb dX8_cut_20 rfl ?_
      obtain ⟨hr1, hs1⟩ := Prod.mk.inj (Option.some.inj hf)
      exact xr_i E hR hS rfl (by rw [hr1]) hs1.symm hc hs dX8_cut_22
theorem C_X8_cut {g : GG} {v0 : Nat} {v1 : Int32} {σ : Mm} {r : Int32} {σ' : Mm} (hf : f_X8_cut v0 v1 σ = some (r, σ')) : Ct g yX8_cut cX8_cut 3 (some .int) rm_X8_cut [.ref (gB g + v0), .int v1] σ (some (.int r)) σ' :=
  Ct.of false (by decide +kernel) (fun h => by cases h) (Nat.le_of_ble_eq_true rfl) (V_X8_cut_0 _ _ _ _ _ hf)
abbrev rm_X8_trust : Room := { frames := 3, cells := 0, slots := 0, locals := 62 }
set_option maxRecDepth 100000 in
def f_X8_trust (v0 : Nat) (σ : Mm) : Option (Int32 × Mm) :=
  zck (kO σ v0 8) (zrb (mR σ v0 3) (fun b2 => zrb (mR σ v0 1) (fun b3 => zck (kO σ b3 7) (zcb (f_X7_rootDigest b3 σ) (fun r5 σ6 => zck (kO σ6 b2 5) (zcb (f_X5_nowTrust b2 r5 σ6) (fun r8 σ9 => some (r8, σ9))))))))
set_option maxRecDepth 100000 in
set_option maxHeartbeats 4000000 in
theorem V_X8_trust_0 {g : GG} (v0 : Nat) (σ : Mm) (r : Int32) (σ' : Mm) (hf : f_X8_trust v0 σ = some (r, σ')) : VJ g RX8 cX8_trust 1 (some .int) false rm_X8_trust (some (.int r)) σ' (0) (0) 0 [(0, .ref (gB g + v0))] [] σ := by
  intro p e s m args below meth c H locs cells slots ls E hR hS hl hc hs
  obtain ⟨hx, hb, hml, hr, hlocks, hown, hts, hin, hT⟩ := id E
  unfold f_X8_trust at hf
  refine lv_aload_n hx hb dX8_trust_0 rfl (lv_at hl 0 rfl) ?_
  obtain ⟨hk1, hf⟩ := zc_s hf
  obtain ⟨b2, hb2, hf⟩ := zr_s hf
  refine x_getR E hR hk1 hb2 ok8 (Nat.le_of_ble_eq_true rfl) rfl fl_X8_33 dX8_trust_1 ?_
  refine lv_aload_n hx hb dX8_trust_4 rfl (lv_at hl 0 rfl) ?_
  obtain ⟨b3, hb3, hf⟩ := zr_s hf
  refine x_getR E hR hk1 hb3 ok8 (Nat.le_of_ble_eq_true rfl) rfl fl_X8_19 dX8_trust_5 ?_
  obtain ⟨hk4, hf⟩ := zc_s hf
  obtain ⟨r5, σ6, hcr5, hf⟩ := zq_s hf
  refine xV (As := []) (rest := [.ref (gB g + b2)]) (st1 := [.int r5, .ref (gB g + b2)]) E hR hS hl (C_X7_rootDigest hcr5) hk4 ok7 lb_X7_rootDigest lv_X7_rootDigest ml_X8_98 ⟨Nat.le_of_ble_eq_true rfl, Nat.le_of_ble_eq_true rfl⟩ rfl rfl rfl (Nat.le_of_ble_eq_true rfl) dX8_trust_8 ⟨hc, hs⟩ (fun H locs hR hS => ?_)
  obtain ⟨hk7, hf⟩ := zc_s hf
  obtain ⟨r8, σ9, hcr8, hf⟩ := zq_s hf
  refine xV (As := [.int r5]) (rest := []) (st1 := [.int r8]) E hR hS hl (C_X5_nowTrust hcr8) hk7 ok5 lb_X5_nowTrust lv_X5_nowTrust ml_X8_192 ⟨Nat.le_of_ble_eq_true rfl, Nat.le_of_ble_eq_true rfl⟩ rfl rfl rfl (Nat.le_of_ble_eq_true rfl) dX8_trust_11 ⟨hc, hs⟩ (fun H locs hR hS => ?_)
  obtain ⟨hr1, hs1⟩ := Prod.mk.inj (Option.some.inj hf)
  exact xr_i E hR hS rfl (by rw [hr1]) hs1.symm hc hs dX8_trust_14
theorem C_X8_trust {g : GG} {v0 : Nat} {σ : Mm} {r : Int32} {σ' : Mm} (hf : f_X8_trust v0 σ = some (r, σ')) : Ct g yX8_trust cX8_trust 1 (some .int) rm_X8_trust [.ref (gB g + v0)] σ (some (.int r)) σ' :=
  Ct.of false (by decide +kernel) (fun h => by cases h) (Nat.le_of_ble_eq_true rfl) (V_X8_trust_0 _ _ _ _ hf)
abbrev rm_X8_believe : Room := { frames := 2, cells := 0, slots := 0, locals := 43 }
set_option maxRecDepth 100000 in
def f_X8_believe (v0 : Nat) (v1 : Int32) (σ : Mm) : Option (Int32 × Mm) :=
  if 0 ≤ v1 then (zck (kO σ v0 8) (zrb (mR σ v0 3) (fun b3 => zck (kO σ b3 5) (zcb (f_X5_nowTrust b3 v1 σ) (fun r5 σ6 => some (r5, σ6)))))) else (some ((-2 : Int32), σ))
set_option maxRecDepth 100000 in
set_option maxHeartbeats 4000000 in
theorem V_X8_believe_0 {g : GG} (v0 : Nat) (v1 : Int32) (σ : Mm) (r : Int32) (σ' : Mm) (hf : f_X8_believe v0 v1 σ = some (r, σ')) : VJ g RX8 cX8_believe 2 (some .int) false rm_X8_believe (some (.int r)) σ' (0) (0) 0 [(0, .ref (gB g + v0)), (1, .int v1)] [] σ := by
  intro p e s m args below meth c H locs cells slots ls E hR hS hl hc hs
  obtain ⟨hx, hb, hml, hr, hlocks, hown, hts, hin, hT⟩ := id E
  unfold f_X8_believe at hf
  refine lv_iload_n hx hb dX8_believe_0 rfl (lv_at hl 1 rfl) ?_
  refine lv_if_ge (tgt := 9) hx hb dX8_believe_1 (by decide) (fun hq1 => ?_) (fun hq1 => ?_)
  · have hf := ite_p hq1 hf
    refine lv_aload_n hx hb dX8_believe_9 rfl (lv_at hl 0 rfl) ?_
    obtain ⟨hk2, hf⟩ := zc_s hf
    obtain ⟨b3, hb3, hf⟩ := zr_s hf
    refine x_getR E hR hk2 hb3 ok8 (Nat.le_of_ble_eq_true rfl) rfl fl_X8_33 dX8_believe_10 ?_
    refine lv_iload_n hx hb dX8_believe_13 rfl (lv_at hl 1 rfl) ?_
    obtain ⟨hk4, hf⟩ := zc_s hf
    obtain ⟨r5, σ6, hcr5, hf⟩ := zq_s hf
    refine xV (As := [.int v1]) (rest := []) (st1 := [.int r5]) E hR hS hl (C_X5_nowTrust hcr5) hk4 ok5 lb_X5_nowTrust lv_X5_nowTrust ml_X8_192 ⟨Nat.le_of_ble_eq_true rfl, Nat.le_of_ble_eq_true rfl⟩ rfl rfl rfl (Nat.le_of_ble_eq_true rfl) dX8_believe_14 ⟨hc, hs⟩ (fun H locs hR hS => ?_)
    obtain ⟨hr1, hs1⟩ := Prod.mk.inj (Option.some.inj hf)
    exact xr_i E hR hS rfl (by rw [hr1]) hs1.symm hc hs dX8_believe_17
  · have hf := ite_n hq1 hf
    refine lv_bipush (v := (-2 : Int32)) hx hb dX8_believe_4 rfl ?_
    refine lv_goto (tgt := 17) hx hb dX8_believe_6 (by decide) ?_
    obtain ⟨hr1, hs1⟩ := Prod.mk.inj (Option.some.inj hf)
    exact xr_i E hR hS rfl (by rw [hr1]) hs1.symm hc hs dX8_believe_17
theorem C_X8_believe {g : GG} {v0 : Nat} {v1 : Int32} {σ : Mm} {r : Int32} {σ' : Mm} (hf : f_X8_believe v0 v1 σ = some (r, σ')) : Ct g yX8_believe cX8_believe 2 (some .int) rm_X8_believe [.ref (gB g + v0), .int v1] σ (some (.int r)) σ' :=
  Ct.of false (by decide +kernel) (fun h => by cases h) (Nat.le_of_ble_eq_true rfl) (V_X8_believe_0 _ _ _ _ _ hf)
abbrev rm_X8_read : Room := { frames := 5, cells := 0, slots := 0, locals := 120 }
set_option maxRecDepth 100000 in
def f_X8_read (v0 : Nat) (v1 : Int32) (v2 : Int32) (σ : Mm) : Option (Int32 × Mm) :=
  zcb (f_X8_isRange v1 v2 σ) (fun r1 σ2 => if r1 = 0 then (some ((-2 : Int32), σ2)) else (zck (kO σ2 v0 8) (zrb (mR σ2 v0 3) (fun b5 => zck (kO σ2 b5 5) (zcb (f_X5_reasonBy b5 v1 v2 σ2) (fun r7 σ8 => some (r7, σ8)))))))
set_option maxRecDepth 100000 in
set_option maxHeartbeats 4000000 in
theorem V_X8_read_0 {g : GG} (v0 : Nat) (v1 : Int32) (v2 : Int32) (σ : Mm) (r : Int32) (σ' : Mm) (hf : f_X8_read v0 v1 v2 σ = some (r, σ')) : VJ g RX8 cX8_read 3 (some .int) false rm_X8_read (some (.int r)) σ' (0) (0) 0 [(0, .ref (gB g + v0)), (1, .int v1), (2, .int v2)] [] σ := by
  intro p e s m args below meth c H locs cells slots ls E hR hS hl hc hs
  obtain ⟨hx, hb, hml, hr, hlocks, hown, hts, hin, hT⟩ := id E
  unfold f_X8_read at hf
  refine lv_iload_n hx hb dX8_read_0 rfl (lv_at hl 1 rfl) ?_
  refine lv_iload_n hx hb dX8_read_1 rfl (lv_at hl 2 rfl) ?_
  obtain ⟨r1, σ2, hcr1, hf⟩ := zq_s hf
  refine xS (As := [.int v1, .int v2]) (rest := []) (st1 := [.int r1]) E hR hS hl (C_X8_isRange hcr1) lb_X8_isRange ls_X8_isRange ml_X8_153 ⟨Nat.le_of_ble_eq_true rfl, Nat.le_of_ble_eq_true rfl⟩ rfl rfl rfl (Nat.le_of_ble_eq_true rfl) dX8_read_2 ⟨hc, hs⟩ (fun H locs hR hS => ?_)
  refine lv_if_eq (tgt := 20) hx hb dX8_read_5 (by decide) (fun hq3 => ?_) (fun hq3 => ?_)
  · have hf := ite_p hq3 hf
    refine lv_bipush (v := (-2 : Int32)) hx hb dX8_read_20 rfl ?_
    obtain ⟨hr1, hs1⟩ := Prod.mk.inj (Option.some.inj hf)
    exact xr_i E hR hS rfl (by rw [hr1]) hs1.symm hc hs dX8_read_22
  · have hf := ite_n hq3 hf
    refine lv_aload_n hx hb dX8_read_8 rfl (lv_at hl 0 rfl) ?_
    obtain ⟨hk4, hf⟩ := zc_s hf
    obtain ⟨b5, hb5, hf⟩ := zr_s hf
    refine x_getR E hR hk4 hb5 ok8 (Nat.le_of_ble_eq_true rfl) rfl fl_X8_33 dX8_read_9 ?_
    refine lv_iload_n hx hb dX8_read_12 rfl (lv_at hl 1 rfl) ?_
    refine lv_iload_n hx hb dX8_read_13 rfl (lv_at hl 2 rfl) ?_
    obtain ⟨hk6, hf⟩ := zc_s hf
    obtain ⟨r7, σ8, hcr7, hf⟩ := zq_s hf
    refine xV (As := [.int v1, .int v2]) (rest := []) (st1 := [.int r7]) E hR hS hl (C_X5_reasonBy hcr7) hk6 ok5 lb_X5_reasonBy lv_X5_reasonBy ml_X8_195 ⟨Nat.le_of_ble_eq_true rfl, Nat.le_of_ble_eq_true rfl⟩ rfl rfl rfl (Nat.le_of_ble_eq_true rfl) dX8_read_14 ⟨hc, hs⟩ (fun H locs hR hS => ?_)
    refine lv_goto (tgt := 22) hx hb dX8_read_17 (by decide) ?_
    obtain ⟨hr1, hs1⟩ := Prod.mk.inj (Option.some.inj hf)
    exact xr_i E hR hS rfl (by rw [hr1]) hs1.symm hc hs dX8_read_22
theorem C_X8_read {g : GG} {v0 : Nat} {v1 : Int32} {v2 : Int32} {σ : Mm} {r : Int32} {σ' : Mm} (hf : f_X8_read v0 v1 v2 σ = some (r, σ')) : Ct g yX8_read cX8_read 3 (some .int) rm_X8_read [.ref (gB g + v0), .int v1, .int v2] σ (some (.int r)) σ' :=
  Ct.of false (by decide +kernel) (fun h => by cases h) (Nat.le_of_ble_eq_true rfl) (V_X8_read_0 _ _ _ _ _ _ hf)
abbrev rm_X8_learnt : Room := { frames := 5, cells := 0, slots := 0, locals := 120 }
set_option maxRecDepth 100000 in
def f_X8_learnt (v0 : Nat) (v1 : Int32) (v2 : Int32) (v3 : Int32) (σ : Mm) : Option (Int32 × Mm) :=
  zcb (f_X8_isRange v1 v2 σ) (fun r1 σ2 => if r1 = 0 then (some ((-2 : Int32), σ2)) else (if v3 < 0 then (some ((-2 : Int32), σ2)) else (if v3 ≤ (4 : Int32) then (zck (kO σ2 v0 8) (zrb (mR σ2 v0 3) (fun b7 => zck (kO σ2 b7 5) (zcb (f_X5_reasonBy b7 v1 v2 σ2) (fun r9 σ10 => if r9 = 0 then (zck (kO σ10 v0 8) (zrb (mR σ10 v0 3) (fun b13 => zck (kO σ10 b13 5) (zcb (f_X5_shown b13 σ10) (fun r15 σ16 => if v3 = (0 : Int32) then (zck (kO σ16 r15 2) (zcb (f_X2_countWithin r15 v1 v2 σ16) (fun r20 σ21 => some (r20, σ21)))) else (if v3 = (1 : Int32) then (zck (kO σ16 r15 2) (zcb (f_X2_sumWithin r15 v1 v2 σ16) (fun r24 σ25 => some (r24, σ25)))) else (if v3 = (2 : Int32) then (zck (kO σ16 r15 2) (zcb (f_X2_greatestBelow r15 v1 σ16) (fun r28 σ29 => some (r28, σ29)))) else (if v3 = (3 : Int32) then (zck (kO σ16 r15 2) (zcb (f_X2_leastAbove r15 v2 σ16) (fun r32 σ33 => some (r32, σ33)))) else (zck (kO σ16 r15 2) (zcb (f_X2_count r15 σ16) (fun r35 σ36 => some (r35, σ36)))))))))))) else (some ((-3 : Int32), σ10))))))) else (some ((-2 : Int32), σ2)))))
set_option maxRecDepth 100000 in
set_option maxHeartbeats 4000000 in
theorem V_X8_learnt_0 {g : GG} (v0 : Nat) (v1 : Int32) (v2 : Int32) (v3 : Int32) (σ : Mm) (r : Int32) (σ' : Mm) (hf : f_X8_learnt v0 v1 v2 v3 σ = some (r, σ')) : VJ g RX8 cX8_learnt 5 (some .int) false rm_X8_learnt (some (.int r)) σ' (0) (0) 0 [(0, .ref (gB g + v0)), (1, .int v1), (2, .int v2), (3, .int v3)] [] σ := by
  intro p e s m args below meth c H locs cells slots ls E hR hS hl hc hs
  obtain ⟨hx, hb, hml, hr, hlocks, hown, hts, hin, hT⟩ := id E
  unfold f_X8_learnt at hf
  refine lv_iload_n hx hb dX8_learnt_0 rfl (lv_at hl 1 rfl) ?_
  refine lv_iload_n hx hb dX8_learnt_1 rfl (lv_at hl 2 rfl) ?_
  obtain ⟨r1, σ2, hcr1, hf⟩ := zq_s hf
  refine xS (As := [.int v1, .int v2]) (rest := []) (st1 := [.int r1]) E hR hS hl (C_X8_isRange hcr1) lb_X8_isRange ls_X8_isRange ml_X8_153 ⟨Nat.le_of_ble_eq_true rfl, Nat.le_of_ble_eq_true rfl⟩ rfl rfl rfl (Nat.le_of_ble_eq_true rfl) dX8_learnt_2 ⟨hc, hs⟩ (fun H locs hR hS => ?_)
  refine lv_if_eq (tgt := 17) hx hb dX8_learnt_5 (by decide) (fun hq3 => ?_) (fun hq3 => ?_)
  · have hf := ite_p hq3 hf
    refine lv_bipush (v := (-2 : Int32)) hx hb dX8_learnt_17 rfl ?_
    obtain ⟨hr1, hs1⟩ := Prod.mk.inj (Option.some.inj hf)
    exact xr_i E hR hS rfl (by rw [hr1]) hs1.symm hc hs dX8_learnt_19
  · have hf := ite_n hq3 hf
    refine lv_iload_n hx hb dX8_learnt_8 rfl (lv_at hl 3 rfl) ?_
    refine lv_if_lt (tgt := 17) hx hb dX8_learnt_9 (by decide) (fun hq4 => ?_) (fun hq4 => ?_)
    · have hf := ite_p hq4 hf
      refine lv_bipush (v := (-2 : Int32)) hx hb dX8_learnt_17 rfl ?_
      obtain ⟨hr1, hs1⟩ := Prod.mk.inj (Option.some.inj hf)
      exact xr_i E hR hS rfl (by rw [hr1]) hs1.symm hc hs dX8_learnt_19
    · have hf := ite_n hq4 hf
      refine lv_iload_n hx hb dX8_learnt_12 rfl (lv_at hl 3 rfl) ?_
      refine lv_iconst (v := (4 : Int32)) hx hb dX8_learnt_13 rfl ?_
      refine lv_icmp_le (tgt := 20) hx hb dX8_learnt_14 (by decide) (fun hq5 => ?_) (fun hq5 => ?_)
      · have hf := ite_p hq5 hf
        refine lv_aload_n hx hb dX8_learnt_20 rfl (lv_at hl 0 rfl) ?_
        obtain ⟨hk6, hf⟩ := zc_s hf
        obtain ⟨b7, hb7, hf⟩ := zr_s hf
        refine x_getR E hR hk6 hb7 ok8 (Nat.le_of_ble_eq_true rfl) rfl fl_X8_33 dX8_learnt_21 ?_
        refine lv_iload_n hx hb dX8_learnt_24 rfl (lv_at hl 1 rfl) ?_
        refine lv_iload_n hx hb dX8_learnt_25 rfl (lv_at hl 2 rfl) ?_
        obtain ⟨hk8, hf⟩ := zc_s hf
        obtain ⟨r9, σ10, hcr9, hf⟩ := zq_s hf
        refine xV (As := [.int v1, .int v2]) (rest := []) (st1 := [.int r9]) E hR hS hl (C_X5_reasonBy hcr9) hk8 ok5 lb_X5_reasonBy lv_X5_reasonBy ml_X8_195 ⟨Nat.le_of_ble_eq_true rfl, Nat.le_of_ble_eq_true rfl⟩ rfl rfl rfl (Nat.le_of_ble_eq_true rfl) dX8_learnt_26 ⟨hc, hs⟩ (fun H locs hR hS => ?_)
        refine lv_if_eq (tgt := 35) hx hb dX8_learnt_29 (by decide) (fun hq11 => ?_) (fun hq11 => ?_)
        · have hf := ite_p hq11 hf
          refine lv_aload_n hx hb dX8_learnt_35 rfl (lv_at hl 0 rfl) ?_
          obtain ⟨hk12, hf⟩ := zc_s hf
          obtain ⟨b13, hb13, hf⟩ := zr_s hf
          refine x_getR E hR hk12 hb13 ok8 (Nat.le_of_ble_eq_true rfl) rfl fl_X8_33 dX8_learnt_36 ?_
          obtain ⟨hk14, hf⟩ := zc_s hf
          obtain ⟨r15, σ16, hcr15, hf⟩ := zq_s hf
          refine xV (As := []) (rest := []) (st1 := [.ref (gB g + r15)]) E hR hS hl (C_X5_shown hcr15) hk14 ok5 lb_X5_shown lv_X5_shown ml_X8_198 ⟨Nat.le_of_ble_eq_true rfl, Nat.le_of_ble_eq_true rfl⟩ rfl rfl rfl (Nat.le_of_ble_eq_true rfl) dX8_learnt_39 ⟨hc, hs⟩ (fun H locs hR hS => ?_)
          refine lv_astore (lv' := [(4, .ref (gB g + r15)), (0, .ref (gB g + v0)), (1, .int v1), (2, .int v2), (3, .int v3)]) hx hb dX8_learnt_42 hl (Nat.le_of_ble_eq_true rfl) rfl (fun ls hl => ?_)
          refine lv_iload_n hx hb dX8_learnt_44 rfl (lv_at hl 4 rfl) ?_
          refine lv_topi (fun x17 ex => ?_)
          subst ex
          by_cases hq18 : x17 = (0 : Int32)
          · have hf := ite_p hq18 hf
            refine lv_tableIn (tgt := 76) (off := 31) hx hb dX8_learnt_45 (by rw [hq18]; decide) (by rw [hq18]; decide) (by rw [hq18]; decide) (by decide) ?_
            refine lv_aload hx hb dX8_learnt_76 (lv_at hl 0 rfl) ?_
            refine lv_iload_n hx hb dX8_learnt_78 rfl (lv_at hl 2 rfl) ?_
            refine lv_iload_n hx hb dX8_learnt_79 rfl (lv_at hl 3 rfl) ?_
            obtain ⟨hk19, hf⟩ := zc_s hf
            obtain ⟨r20, σ21, hcr20, hf⟩ := zq_s hf
            refine xV (As := [.int v1, .int v2]) (rest := []) (st1 := [.int r20]) E hR hS hl (C_X2_countWithin hcr20) hk19 ok2 lb_X2_countWithin lv_X2_countWithin ml_X8_144 ⟨Nat.le_of_ble_eq_true rfl, Nat.le_of_ble_eq_true rfl⟩ rfl rfl rfl (Nat.le_of_ble_eq_true rfl) dX8_learnt_80 ⟨hc, hs⟩ (fun H locs hR hS => ?_)
            obtain ⟨hr1, hs1⟩ := Prod.mk.inj (Option.some.inj hf)
            exact xr_i E hR hS rfl (by rw [hr1]) hs1.symm hc hs dX8_learnt_83
          have hf := ite_n hq18 hf
          by_cases hq22 : x17 = (1 : Int32)
          · have hf := ite_p hq22 hf
            refine lv_tableIn (tgt := 84) (off := 39) hx hb dX8_learnt_45 (by rw [hq22]; decide) (by rw [hq22]; decide) (by rw [hq22]; decide) (by decide) ?_
            refine lv_aload hx hb dX8_learnt_84 (lv_at hl 0 rfl) ?_
            refine lv_iload_n hx hb dX8_learnt_86 rfl (lv_at hl 2 rfl) ?_
            refine lv_iload_n hx hb dX8_learnt_87 rfl (lv_at hl 3 rfl) ?_
            obtain ⟨hk23, hf⟩ := zc_s hf
            obtain ⟨r24, σ25, hcr24, hf⟩ := zq_s hf
            refine xV (As := [.int v1, .int v2]) (rest := []) (st1 := [.int r24]) E hR hS hl (C_X2_sumWithin hcr24) hk23 ok2 lb_X2_sumWithin lv_X2_sumWithin ml_X8_104 ⟨Nat.le_of_ble_eq_true rfl, Nat.le_of_ble_eq_true rfl⟩ rfl rfl rfl (Nat.le_of_ble_eq_true rfl) dX8_learnt_88 ⟨hc, hs⟩ (fun H locs hR hS => ?_)
            obtain ⟨hr1, hs1⟩ := Prod.mk.inj (Option.some.inj hf)
            exact xr_i E hR hS rfl (by rw [hr1]) hs1.symm hc hs dX8_learnt_91
          have hf := ite_n hq22 hf
          by_cases hq26 : x17 = (2 : Int32)
          · have hf := ite_p hq26 hf
            refine lv_tableIn (tgt := 92) (off := 47) hx hb dX8_learnt_45 (by rw [hq26]; decide) (by rw [hq26]; decide) (by rw [hq26]; decide) (by decide) ?_
            refine lv_aload hx hb dX8_learnt_92 (lv_at hl 0 rfl) ?_
            refine lv_iload_n hx hb dX8_learnt_94 rfl (lv_at hl 2 rfl) ?_
            obtain ⟨hk27, hf⟩ := zc_s hf
            obtain ⟨r28, σ29, hcr28, hf⟩ := zq_s hf
            refine xV (As := [.int v1]) (rest := []) (st1 := [.int r28]) E hR hS hl (C_X2_greatestBelow hcr28) hk27 ok2 lb_X2_greatestBelow lv_X2_greatestBelow ml_X8_202 ⟨Nat.le_of_ble_eq_true rfl, Nat.le_of_ble_eq_true rfl⟩ rfl rfl rfl (Nat.le_of_ble_eq_true rfl) dX8_learnt_95 ⟨hc, hs⟩ (fun H locs hR hS => ?_)
            obtain ⟨hr1, hs1⟩ := Prod.mk.inj (Option.some.inj hf)
            exact xr_i E hR hS rfl (by rw [hr1]) hs1.symm hc hs dX8_learnt_98
          have hf := ite_n hq26 hf
          by_cases hq30 : x17 = (3 : Int32)
          · have hf := ite_p hq30 hf
            refine lv_tableIn (tgt := 99) (off := 54) hx hb dX8_learnt_45 (by rw [hq30]; decide) (by rw [hq30]; decide) (by rw [hq30]; decide) (by decide) ?_
            refine lv_aload hx hb dX8_learnt_99 (lv_at hl 0 rfl) ?_
            refine lv_iload_n hx hb dX8_learnt_101 rfl (lv_at hl 3 rfl) ?_
            obtain ⟨hk31, hf⟩ := zc_s hf
            obtain ⟨r32, σ33, hcr32, hf⟩ := zq_s hf
            refine xV (As := [.int v2]) (rest := []) (st1 := [.int r32]) E hR hS hl (C_X2_leastAbove hcr32) hk31 ok2 lb_X2_leastAbove lv_X2_leastAbove ml_X8_205 ⟨Nat.le_of_ble_eq_true rfl, Nat.le_of_ble_eq_true rfl⟩ rfl rfl rfl (Nat.le_of_ble_eq_true rfl) dX8_learnt_102 ⟨hc, hs⟩ (fun H locs hR hS => ?_)
            obtain ⟨hr1, hs1⟩ := Prod.mk.inj (Option.some.inj hf)
            exact xr_i E hR hS rfl (by rw [hr1]) hs1.symm hc hs dX8_learnt_105
          have hf := ite_n hq30 hf
          refine lv_tableOut (tgt := 106) hx hb dX8_learnt_45 (sw_out (fun j h1 h2 => by
              have hj : j = 0 ∨ j = 1 ∨ j = 2 ∨ j = 3 := by omega
              rcases hj with rfl | rfl | rfl | rfl
              · exact hq18
              · exact hq22
              · exact hq26
              · exact hq30
              )) (by decide) ?_
          refine lv_aload hx hb dX8_learnt_106 (lv_at hl 0 rfl) ?_
          obtain ⟨hk34, hf⟩ := zc_s hf
          obtain ⟨r35, σ36, hcr35, hf⟩ := zq_s hf
          refine xV (As := []) (rest := []) (st1 := [.int r35]) E hR hS hl (C_X2_count hcr35) hk34 ok2 lb_X2_count lv_X2_count ml_X8_90 ⟨Nat.le_of_ble_eq_true rfl, Nat.le_of_ble_eq_true rfl⟩ rfl rfl rfl (Nat.le_of_ble_eq_true rfl) dX8_learnt_108 ⟨hc, hs⟩ (fun H locs hR hS => ?_)
          obtain ⟨hr1, hs1⟩ := Prod.mk.inj (Option.some.inj hf)
          exact xr_i E hR hS rfl (by rw [hr1]) hs1.symm hc hs dX8_learnt_111
        · have hf := ite_n hq11 hf
          refine lv_bipush (v := (-3 : Int32)) hx hb dX8_learnt_32 rfl ?_
          obtain ⟨hr1, hs1⟩ := Prod.mk.inj (Option.some.inj hf)
          exact xr_i E hR hS rfl (by rw [hr1]) hs1.symm hc hs dX8_learnt_34
      · have hf := ite_n hq5 hf
        refine lv_bipush (v := (-2 : Int32)) hx hb dX8_learnt_17 rfl ?_
        obtain ⟨hr1, hs1⟩ := Prod.mk.inj (Option.some.inj hf)
        exact xr_i E hR hS rfl (by rw [hr1]) hs1.symm hc hs dX8_learnt_19
theorem C_X8_learnt {g : GG} {v0 : Nat} {v1 : Int32} {v2 : Int32} {v3 : Int32} {σ : Mm} {r : Int32} {σ' : Mm} (hf : f_X8_learnt v0 v1 v2 v3 σ = some (r, σ')) : Ct g yX8_learnt cX8_learnt 5 (some .int) rm_X8_learnt [.ref (gB g + v0), .int v1, .int v2, .int v3] σ (some (.int r)) σ' :=
  Ct.of false (by decide +kernel) (fun h => by cases h) (Nat.le_of_ble_eq_true rfl) (V_X8_learnt_0 _ _ _ _ _ _ _ hf)
abbrev rm_X8_found : Room := { frames := 5, cells := 0, slots := 0, locals := 120 }
set_option maxRecDepth 100000 in
def f_X8_found (v0 : Nat) (v1 : Int32) (v2 : Int32) (v3 : Int32) (σ : Mm) : Option (Int32 × Mm) :=
  zcb (f_X8_isRange v1 v2 σ) (fun r1 σ2 => if r1 = 0 then (some ((-2 : Int32), σ2)) else (zck (kO σ2 v0 8) (zrb (mR σ2 v0 3) (fun b5 => zck (kO σ2 b5 5) (zcb (f_X5_reasonBy b5 v1 v2 σ2) (fun r7 σ8 => if r7 = 0 then (zck (kO σ8 v0 8) (zrb (mR σ8 v0 3) (fun b11 => zck (kO σ8 b11 5) (zcb (f_X5_shown b11 σ8) (fun r13 σ14 => zck (kO σ14 r13 2) (zcb (f_X2_keyOfPlace r13 v1 v2 v3 σ14) (fun r16 σ17 => if r16 = (-9 : Int32) then (some ((-9 : Int32), σ17)) else (zck (kO σ17 r13 2) (zcb (f_X2_valueOf r13 r16 σ17) (fun r20 σ21 => some ((((100 : Int32) * r16) + r20), σ21))))))))))) else (some ((-3 : Int32), σ8))))))))
set_option maxRecDepth 100000 in
set_option maxHeartbeats 4000000 in
theorem V_X8_found_0 {g : GG} (v0 : Nat) (v1 : Int32) (v2 : Int32) (v3 : Int32) (σ : Mm) (r : Int32) (σ' : Mm) (hf : f_X8_found v0 v1 v2 v3 σ = some (r, σ')) : VJ g RX8 cX8_found 6 (some .int) false rm_X8_found (some (.int r)) σ' (0) (0) 0 [(0, .ref (gB g + v0)), (1, .int v1), (2, .int v2), (3, .int v3)] [] σ := by
  intro p e s m args below meth c H locs cells slots ls E hR hS hl hc hs
  obtain ⟨hx, hb, hml, hr, hlocks, hown, hts, hin, hT⟩ := id E
  unfold f_X8_found at hf
  refine lv_iload_n hx hb dX8_found_0 rfl (lv_at hl 1 rfl) ?_
  refine lv_iload_n hx hb dX8_found_1 rfl (lv_at hl 2 rfl) ?_
  obtain ⟨r1, σ2, hcr1, hf⟩ := zq_s hf
  refine xS (As := [.int v1, .int v2]) (rest := []) (st1 := [.int r1]) E hR hS hl (C_X8_isRange hcr1) lb_X8_isRange ls_X8_isRange ml_X8_153 ⟨Nat.le_of_ble_eq_true rfl, Nat.le_of_ble_eq_true rfl⟩ rfl rfl rfl (Nat.le_of_ble_eq_true rfl) dX8_found_2 ⟨hc, hs⟩ (fun H locs hR hS => ?_)
  refine lv_if_ne (tgt := 11) hx hb dX8_found_5 (by decide) (fun hq3 => ?_) (fun hq3 => ?_)
  · have hf := ite_n hq3 hf
    refine lv_aload_n hx hb dX8_found_11 rfl (lv_at hl 0 rfl) ?_
    obtain ⟨hk4, hf⟩ := zc_s hf
    obtain ⟨b5, hb5, hf⟩ := zr_s hf
    refine x_getR E hR hk4 hb5 ok8 (Nat.le_of_ble_eq_true rfl) rfl fl_X8_33 dX8_found_12 ?_
    refine lv_iload_n hx hb dX8_found_15 rfl (lv_at hl 1 rfl) ?_
    refine lv_iload_n hx hb dX8_found_16 rfl (lv_at hl 2 rfl) ?_
    obtain ⟨hk6, hf⟩ := zc_s hf
    obtain ⟨r7, σ8, hcr7, hf⟩ := zq_s hf
    refine xV (As := [.int v1, .int v2]) (rest := []) (st1 := [.int r7]) E hR hS hl (C_X5_reasonBy hcr7) hk6 ok5 lb_X5_reasonBy lv_X5_reasonBy ml_X8_195 ⟨Nat.le_of_ble_eq_true rfl, Nat.le_of_ble_eq_true rfl⟩ rfl rfl rfl (Nat.le_of_ble_eq_true rfl) dX8_found_17 ⟨hc, hs⟩ (fun H locs hR hS => ?_)
    refine lv_if_eq (tgt := 26) hx hb dX8_found_20 (by decide) (fun hq9 => ?_) (fun hq9 => ?_)
    · have hf := ite_p hq9 hf
      refine lv_aload_n hx hb dX8_found_26 rfl (lv_at hl 0 rfl) ?_
      obtain ⟨hk10, hf⟩ := zc_s hf
      obtain ⟨b11, hb11, hf⟩ := zr_s hf
      refine x_getR E hR hk10 hb11 ok8 (Nat.le_of_ble_eq_true rfl) rfl fl_X8_33 dX8_found_27 ?_
      obtain ⟨hk12, hf⟩ := zc_s hf
      obtain ⟨r13, σ14, hcr13, hf⟩ := zq_s hf
      refine xV (As := []) (rest := []) (st1 := [.ref (gB g + r13)]) E hR hS hl (C_X5_shown hcr13) hk12 ok5 lb_X5_shown lv_X5_shown ml_X8_198 ⟨Nat.le_of_ble_eq_true rfl, Nat.le_of_ble_eq_true rfl⟩ rfl rfl rfl (Nat.le_of_ble_eq_true rfl) dX8_found_30 ⟨hc, hs⟩ (fun H locs hR hS => ?_)
      refine lv_astore (lv' := [(4, .ref (gB g + r13)), (0, .ref (gB g + v0)), (1, .int v1), (2, .int v2), (3, .int v3)]) hx hb dX8_found_33 hl (Nat.le_of_ble_eq_true rfl) rfl (fun ls hl => ?_)
      refine lv_aload hx hb dX8_found_35 (lv_at hl 0 rfl) ?_
      refine lv_iload_n hx hb dX8_found_37 rfl (lv_at hl 2 rfl) ?_
      refine lv_iload_n hx hb dX8_found_38 rfl (lv_at hl 3 rfl) ?_
      refine lv_iload_n hx hb dX8_found_39 rfl (lv_at hl 4 rfl) ?_
      obtain ⟨hk15, hf⟩ := zc_s hf
      obtain ⟨r16, σ17, hcr16, hf⟩ := zq_s hf
      refine xV (As := [.int v1, .int v2, .int v3]) (rest := []) (st1 := [.int r16]) E hR hS hl (C_X2_keyOfPlace hcr16) hk15 ok2 lb_X2_keyOfPlace lv_X2_keyOfPlace ml_X8_208 ⟨Nat.le_of_ble_eq_true rfl, Nat.le_of_ble_eq_true rfl⟩ rfl rfl rfl (Nat.le_of_ble_eq_true rfl) dX8_found_40 ⟨hc, hs⟩ (fun H locs hR hS => ?_)
      refine lv_istore (lv' := [(5, .int r16), (4, .ref (gB g + r13)), (0, .ref (gB g + v0)), (1, .int v1), (2, .int v2), (3, .int v3)]) hx hb dX8_found_43 hl (Nat.le_of_ble_eq_true rfl) rfl (fun ls hl => ?_)
      refine lv_iload hx hb dX8_found_45 (lv_at hl 0 rfl) ?_
      refine lv_bipush (v := (-9 : Int32)) hx hb dX8_found_47 rfl ?_
      refine lv_icmp_ne (tgt := 57) hx hb dX8_found_49 (by decide) (fun hq18 => ?_) (fun hq18 => ?_)
      · have hf := ite_n hq18 hf
        refine lv_bipush (v := (100 : Int32)) hx hb dX8_found_57 rfl ?_
        refine lv_iload hx hb dX8_found_59 (lv_at hl 0 rfl) ?_
        refine lv_imul hx hb dX8_found_61 ?_
        refine lv_aload hx hb dX8_found_62 (lv_at hl 1 rfl) ?_
        refine lv_iload hx hb dX8_found_64 (lv_at hl 0 rfl) ?_
        obtain ⟨hk19, hf⟩ := zc_s hf
        obtain ⟨r20, σ21, hcr20, hf⟩ := zq_s hf
        refine xV (As := [.int r16]) (rest := [.int ((100 : Int32) * r16)]) (st1 := [.int r20, .int ((100 : Int32) * r16)]) E hR hS hl (C_X2_valueOf hcr20) hk19 ok2 lb_X2_valueOf lv_X2_valueOf ml_X8_64 ⟨Nat.le_of_ble_eq_true rfl, Nat.le_of_ble_eq_true rfl⟩ rfl rfl rfl (Nat.le_of_ble_eq_true rfl) dX8_found_66 ⟨hc, hs⟩ (fun H locs hR hS => ?_)
        refine lv_iadd hx hb dX8_found_69 ?_
        obtain ⟨hr1, hs1⟩ := Prod.mk.inj (Option.some.inj hf)
        exact xr_i E hR hS rfl (by rw [hr1]) hs1.symm hc hs dX8_found_70
      · have hf := ite_p hq18 hf
        refine lv_bipush (v := (-9 : Int32)) hx hb dX8_found_52 rfl ?_
        refine lv_goto (tgt := 70) hx hb dX8_found_54 (by decide) ?_
        obtain ⟨hr1, hs1⟩ := Prod.mk.inj (Option.some.inj hf)
        exact xr_i E hR hS rfl (by rw [hr1]) hs1.symm hc hs dX8_found_70
    · have hf := ite_n hq9 hf
      refine lv_bipush (v := (-3 : Int32)) hx hb dX8_found_23 rfl ?_
      obtain ⟨hr1, hs1⟩ := Prod.mk.inj (Option.some.inj hf)
      exact xr_i E hR hS rfl (by rw [hr1]) hs1.symm hc hs dX8_found_25
  · have hf := ite_p hq3 hf
    refine lv_bipush (v := (-2 : Int32)) hx hb dX8_found_8 rfl ?_
    obtain ⟨hr1, hs1⟩ := Prod.mk.inj (Option.some.inj hf)
    exact xr_i E hR hS rfl (by rw [hr1]) hs1.symm hc hs dX8_found_10
theorem C_X8_found {g : GG} {v0 : Nat} {v1 : Int32} {v2 : Int32} {v3 : Int32} {σ : Mm} {r : Int32} {σ' : Mm} (hf : f_X8_found v0 v1 v2 v3 σ = some (r, σ')) : Ct g yX8_found cX8_found 6 (some .int) rm_X8_found [.ref (gB g + v0), .int v1, .int v2, .int v3] σ (some (.int r)) σ' :=
  Ct.of false (by decide +kernel) (fun h => by cases h) (Nat.le_of_ble_eq_true rfl) (V_X8_found_0 _ _ _ _ _ _ _ hf)
abbrev rm_X8_isStep : Room := { frames := 1, cells := 0, slots := 0, locals := 20 }
set_option maxRecDepth 100000 in
def f_X8_isStep (v0 : Int32) (v1 : Int32) (σ : Mm) : Option (Int32 × Mm) :=
  zcb (f_X8_isNumber v0 σ) (fun r1 σ2 => if r1 = 0 then (some ((0 : Int32), σ2)) else (zcb (f_X8_isNumber v1 σ2) (fun r4 σ5 => if r4 = 0 then (if v1 = (-9 : Int32) then (some ((1 : Int32), σ5)) else (some ((0 : Int32), σ5))) else (some ((1 : Int32), σ5)))))
set_option maxRecDepth 100000 in
set_option maxHeartbeats 4000000 in
theorem V_X8_isStep_0 {g : GG} (v0 : Int32) (v1 : Int32) (σ : Mm) (r : Int32) (σ' : Mm) (hf : f_X8_isStep v0 v1 σ = some (r, σ')) : VJ g RX8 cX8_isStep 2 (some .boolean) false rm_X8_isStep (some (.int r)) σ' (0) (0) 0 [(0, .int v0), (1, .int v1)] [] σ := by
  intro p e s m args below meth c H locs cells slots ls E hR hS hl hc hs
  obtain ⟨hx, hb, hml, hr, hlocks, hown, hts, hin, hT⟩ := id E
  unfold f_X8_isStep at hf
  refine lv_iload_n hx hb dX8_isStep_0 rfl (lv_at hl 0 rfl) ?_
  obtain ⟨r1, σ2, hcr1, hf⟩ := zq_s hf
  refine xS (As := [.int v0]) (rest := []) (st1 := [.int r1]) E hR hS hl (C_X8_isNumber hcr1) lb_X8_isNumber ls_X8_isNumber ml_X8_57 ⟨Nat.le_of_ble_eq_true rfl, Nat.le_of_ble_eq_true rfl⟩ rfl rfl rfl (Nat.le_of_ble_eq_true rfl) dX8_isStep_1 ⟨hc, hs⟩ (fun H locs hR hS => ?_)
  refine lv_if_eq (tgt := 24) hx hb dX8_isStep_4 (by decide) (fun hq3 => ?_) (fun hq3 => ?_)
  · have hf := ite_p hq3 hf
    refine lv_iconst (v := (0 : Int32)) hx hb dX8_isStep_24 rfl ?_
    obtain ⟨hr1, hs1⟩ := Prod.mk.inj (Option.some.inj hf)
    exact xr_z E hR hS rfl rfl (by rw [hr1]) hs1.symm hc hs dX8_isStep_25
  · have hf := ite_n hq3 hf
    refine lv_iload_n hx hb dX8_isStep_7 rfl (lv_at hl 1 rfl) ?_
    obtain ⟨r4, σ5, hcr4, hf⟩ := zq_s hf
    refine xS (As := [.int v1]) (rest := []) (st1 := [.int r4]) E hR hS hl (C_X8_isNumber hcr4) lb_X8_isNumber ls_X8_isNumber ml_X8_57 ⟨Nat.le_of_ble_eq_true rfl, Nat.le_of_ble_eq_true rfl⟩ rfl rfl rfl (Nat.le_of_ble_eq_true rfl) dX8_isStep_8 ⟨hc, hs⟩ (fun H locs hR hS => ?_)
    refine lv_if_ne (tgt := 20) hx hb dX8_isStep_11 (by decide) (fun hq6 => ?_) (fun hq6 => ?_)
    · have hf := ite_n hq6 hf
      refine lv_iconst (v := (1 : Int32)) hx hb dX8_isStep_20 rfl ?_
      refine lv_goto (tgt := 25) hx hb dX8_isStep_21 (by decide) ?_
      obtain ⟨hr1, hs1⟩ := Prod.mk.inj (Option.some.inj hf)
      exact xr_z E hR hS rfl rfl (by rw [hr1]) hs1.symm hc hs dX8_isStep_25
    · have hf := ite_p hq6 hf
      refine lv_iload_n hx hb dX8_isStep_14 rfl (lv_at hl 1 rfl) ?_
      refine lv_bipush (v := (-9 : Int32)) hx hb dX8_isStep_15 rfl ?_
      refine lv_icmp_ne (tgt := 24) hx hb dX8_isStep_17 (by decide) (fun hq7 => ?_) (fun hq7 => ?_)
      · have hf := ite_n hq7 hf
        refine lv_iconst (v := (0 : Int32)) hx hb dX8_isStep_24 rfl ?_
        obtain ⟨hr1, hs1⟩ := Prod.mk.inj (Option.some.inj hf)
        exact xr_z E hR hS rfl rfl (by rw [hr1]) hs1.symm hc hs dX8_isStep_25
      · have hf := ite_p hq7 hf
        refine lv_iconst (v := (1 : Int32)) hx hb dX8_isStep_20 rfl ?_
        refine lv_goto (tgt := 25) hx hb dX8_isStep_21 (by decide) ?_
        obtain ⟨hr1, hs1⟩ := Prod.mk.inj (Option.some.inj hf)
        exact xr_z E hR hS rfl rfl (by rw [hr1]) hs1.symm hc hs dX8_isStep_25
theorem C_X8_isStep {g : GG} {v0 : Int32} {v1 : Int32} {σ : Mm} {r : Int32} {σ' : Mm} (hf : f_X8_isStep v0 v1 σ = some (r, σ')) : Ct g yX8_isStep cX8_isStep 2 (some .boolean) rm_X8_isStep [.int v0, .int v1] σ (some (.int r)) σ' :=
  Ct.of false (by decide +kernel) (fun h => by cases h) (Nat.le_of_ble_eq_true rfl) (V_X8_isStep_0 _ _ _ _ _ hf)
abbrev rm_X8_step : Room := { frames := 6, cells := 0, slots := 0, locals := 144 }
set_option maxRecDepth 100000 in
def f_X8_step (v0 : Nat) (v1 : Int32) (v2 : Int32) (σ : Mm) : Option (Int32 × Mm) :=
  zcb (f_X8_isStep v1 v2 σ) (fun r1 σ2 => if r1 = 0 then (some ((-2 : Int32), σ2)) else (zck (kO σ2 v0 8) (zrb (mR σ2 v0 3) (fun b5 => zck (kO σ2 b5 5) (zcb (f_X5_digestAfter b5 v1 v2 σ2) (fun r7 σ8 => some (r7, σ8)))))))
set_option maxRecDepth 100000 in
set_option maxHeartbeats 4000000 in
theorem V_X8_step_0 {g : GG} (v0 : Nat) (v1 : Int32) (v2 : Int32) (σ : Mm) (r : Int32) (σ' : Mm) (hf : f_X8_step v0 v1 v2 σ = some (r, σ')) : VJ g RX8 cX8_step 3 (some .int) false rm_X8_step (some (.int r)) σ' (0) (0) 0 [(0, .ref (gB g + v0)), (1, .int v1), (2, .int v2)] [] σ := by
  intro p e s m args below meth c H locs cells slots ls E hR hS hl hc hs
  obtain ⟨hx, hb, hml, hr, hlocks, hown, hts, hin, hT⟩ := id E
  unfold f_X8_step at hf
  refine lv_iload_n hx hb dX8_step_0 rfl (lv_at hl 1 rfl) ?_
  refine lv_iload_n hx hb dX8_step_1 rfl (lv_at hl 2 rfl) ?_
  obtain ⟨r1, σ2, hcr1, hf⟩ := zq_s hf
  refine xS (As := [.int v1, .int v2]) (rest := []) (st1 := [.int r1]) E hR hS hl (C_X8_isStep hcr1) lb_X8_isStep ls_X8_isStep ml_X8_212 ⟨Nat.le_of_ble_eq_true rfl, Nat.le_of_ble_eq_true rfl⟩ rfl rfl rfl (Nat.le_of_ble_eq_true rfl) dX8_step_2 ⟨hc, hs⟩ (fun H locs hR hS => ?_)
  refine lv_if_eq (tgt := 20) hx hb dX8_step_5 (by decide) (fun hq3 => ?_) (fun hq3 => ?_)
  · have hf := ite_p hq3 hf
    refine lv_bipush (v := (-2 : Int32)) hx hb dX8_step_20 rfl ?_
    obtain ⟨hr1, hs1⟩ := Prod.mk.inj (Option.some.inj hf)
    exact xr_i E hR hS rfl (by rw [hr1]) hs1.symm hc hs dX8_step_22
  · have hf := ite_n hq3 hf
    refine lv_aload_n hx hb dX8_step_8 rfl (lv_at hl 0 rfl) ?_
    obtain ⟨hk4, hf⟩ := zc_s hf
    obtain ⟨b5, hb5, hf⟩ := zr_s hf
    refine x_getR E hR hk4 hb5 ok8 (Nat.le_of_ble_eq_true rfl) rfl fl_X8_33 dX8_step_9 ?_
    refine lv_iload_n hx hb dX8_step_12 rfl (lv_at hl 1 rfl) ?_
    refine lv_iload_n hx hb dX8_step_13 rfl (lv_at hl 2 rfl) ?_
    obtain ⟨hk6, hf⟩ := zc_s hf
    obtain ⟨r7, σ8, hcr7, hf⟩ := zq_s hf
    refine xV (As := [.int v1, .int v2]) (rest := []) (st1 := [.int r7]) E hR hS hl (C_X5_digestAfter hcr7) hk6 ok5 lb_X5_digestAfter lv_X5_digestAfter ml_X8_215 ⟨Nat.le_of_ble_eq_true rfl, Nat.le_of_ble_eq_true rfl⟩ rfl rfl rfl (Nat.le_of_ble_eq_true rfl) dX8_step_14 ⟨hc, hs⟩ (fun H locs hR hS => ?_)
    refine lv_goto (tgt := 22) hx hb dX8_step_17 (by decide) ?_
    obtain ⟨hr1, hs1⟩ := Prod.mk.inj (Option.some.inj hf)
    exact xr_i E hR hS rfl (by rw [hr1]) hs1.symm hc hs dX8_step_22
theorem C_X8_step {g : GG} {v0 : Nat} {v1 : Int32} {v2 : Int32} {σ : Mm} {r : Int32} {σ' : Mm} (hf : f_X8_step v0 v1 v2 σ = some (r, σ')) : Ct g yX8_step cX8_step 3 (some .int) rm_X8_step [.ref (gB g + v0), .int v1, .int v2] σ (some (.int r)) σ' :=
  Ct.of false (by decide +kernel) (fun h => by cases h) (Nat.le_of_ble_eq_true rfl) (V_X8_step_0 _ _ _ _ _ _ hf)
abbrev rm_X8_follow : Room := { frames := 6, cells := 0, slots := 0, locals := 144 }
set_option maxRecDepth 100000 in
def f_X8_follow (v0 : Nat) (v1 : Int32) (v2 : Int32) (σ : Mm) : Option (Int32 × Mm) :=
  zcb (f_X8_isStep v1 v2 σ) (fun r1 σ2 => if r1 = 0 then (some ((-2 : Int32), σ2)) else (zck (kO σ2 v0 8) (zrb (mR σ2 v0 3) (fun b5 => zck (kO σ2 b5 5) (zcb (f_X5_digestAfter b5 v1 v2 σ2) (fun r7 σ8 => if 0 ≤ r7 then (zck (kO σ8 v0 8) (zrb (mR σ8 v0 3) (fun b11 => zck (kO σ8 b11 5) (zcb (f_X5_nowTrust b11 r7 σ8) (fun r13 σ14 => some (r13, σ14)))))) else (some (r7, σ8))))))))
set_option maxRecDepth 100000 in
set_option maxHeartbeats 4000000 in
theorem V_X8_follow_0 {g : GG} (v0 : Nat) (v1 : Int32) (v2 : Int32) (σ : Mm) (r : Int32) (σ' : Mm) (hf : f_X8_follow v0 v1 v2 σ = some (r, σ')) : VJ g RX8 cX8_follow 4 (some .int) false rm_X8_follow (some (.int r)) σ' (0) (0) 0 [(0, .ref (gB g + v0)), (1, .int v1), (2, .int v2)] [] σ := by
  intro p e s m args below meth c H locs cells slots ls E hR hS hl hc hs
  obtain ⟨hx, hb, hml, hr, hlocks, hown, hts, hin, hT⟩ := id E
  unfold f_X8_follow at hf
  refine lv_iload_n hx hb dX8_follow_0 rfl (lv_at hl 1 rfl) ?_
  refine lv_iload_n hx hb dX8_follow_1 rfl (lv_at hl 2 rfl) ?_
  obtain ⟨r1, σ2, hcr1, hf⟩ := zq_s hf
  refine xS (As := [.int v1, .int v2]) (rest := []) (st1 := [.int r1]) E hR hS hl (C_X8_isStep hcr1) lb_X8_isStep ls_X8_isStep ml_X8_212 ⟨Nat.le_of_ble_eq_true rfl, Nat.le_of_ble_eq_true rfl⟩ rfl rfl rfl (Nat.le_of_ble_eq_true rfl) dX8_follow_2 ⟨hc, hs⟩ (fun H locs hR hS => ?_)
  refine lv_if_ne (tgt := 11) hx hb dX8_follow_5 (by decide) (fun hq3 => ?_) (fun hq3 => ?_)
  · have hf := ite_n hq3 hf
    refine lv_aload_n hx hb dX8_follow_11 rfl (lv_at hl 0 rfl) ?_
    obtain ⟨hk4, hf⟩ := zc_s hf
    obtain ⟨b5, hb5, hf⟩ := zr_s hf
    refine x_getR E hR hk4 hb5 ok8 (Nat.le_of_ble_eq_true rfl) rfl fl_X8_33 dX8_follow_12 ?_
    refine lv_iload_n hx hb dX8_follow_15 rfl (lv_at hl 1 rfl) ?_
    refine lv_iload_n hx hb dX8_follow_16 rfl (lv_at hl 2 rfl) ?_
    obtain ⟨hk6, hf⟩ := zc_s hf
    obtain ⟨r7, σ8, hcr7, hf⟩ := zq_s hf
    refine xV (As := [.int v1, .int v2]) (rest := []) (st1 := [.int r7]) E hR hS hl (C_X5_digestAfter hcr7) hk6 ok5 lb_X5_digestAfter lv_X5_digestAfter ml_X8_215 ⟨Nat.le_of_ble_eq_true rfl, Nat.le_of_ble_eq_true rfl⟩ rfl rfl rfl (Nat.le_of_ble_eq_true rfl) dX8_follow_17 ⟨hc, hs⟩ (fun H locs hR hS => ?_)
    refine lv_istore_n (lv' := [(3, .int r7), (0, .ref (gB g + v0)), (1, .int v1), (2, .int v2)]) hx hb dX8_follow_20 rfl hl (Nat.le_of_ble_eq_true rfl) rfl (fun ls hl => ?_)
    refine lv_iload_n hx hb dX8_follow_21 rfl (lv_at hl 0 rfl) ?_
    refine lv_if_ge (tgt := 29) hx hb dX8_follow_22 (by decide) (fun hq9 => ?_) (fun hq9 => ?_)
    · have hf := ite_p hq9 hf
      refine lv_aload_n hx hb dX8_follow_29 rfl (lv_at hl 1 rfl) ?_
      obtain ⟨hk10, hf⟩ := zc_s hf
      obtain ⟨b11, hb11, hf⟩ := zr_s hf
      refine x_getR E hR hk10 hb11 ok8 (Nat.le_of_ble_eq_true rfl) rfl fl_X8_33 dX8_follow_30 ?_
      refine lv_iload_n hx hb dX8_follow_33 rfl (lv_at hl 0 rfl) ?_
      obtain ⟨hk12, hf⟩ := zc_s hf
      obtain ⟨r13, σ14, hcr13, hf⟩ := zq_s hf
      refine xV (As := [.int r7]) (rest := []) (st1 := [.int r13]) E hR hS hl (C_X5_nowTrust hcr13) hk12 ok5 lb_X5_nowTrust lv_X5_nowTrust ml_X8_192 ⟨Nat.le_of_ble_eq_true rfl, Nat.le_of_ble_eq_true rfl⟩ rfl rfl rfl (Nat.le_of_ble_eq_true rfl) dX8_follow_34 ⟨hc, hs⟩ (fun H locs hR hS => ?_)
      obtain ⟨hr1, hs1⟩ := Prod.mk.inj (Option.some.inj hf)
      exact xr_i E hR hS rfl (by rw [hr1]) hs1.symm hc hs dX8_follow_37
    · have hf := ite_n hq9 hf
      refine lv_iload_n hx hb dX8_follow_25 rfl (lv_at hl 0 rfl) ?_
      refine lv_goto (tgt := 37) hx hb dX8_follow_26 (by decide) ?_
      obtain ⟨hr1, hs1⟩ := Prod.mk.inj (Option.some.inj hf)
      exact xr_i E hR hS rfl (by rw [hr1]) hs1.symm hc hs dX8_follow_37
  · have hf := ite_p hq3 hf
    refine lv_bipush (v := (-2 : Int32)) hx hb dX8_follow_8 rfl ?_
    obtain ⟨hr1, hs1⟩ := Prod.mk.inj (Option.some.inj hf)
    exact xr_i E hR hS rfl (by rw [hr1]) hs1.symm hc hs dX8_follow_10
theorem C_X8_follow {g : GG} {v0 : Nat} {v1 : Int32} {v2 : Int32} {σ : Mm} {r : Int32} {σ' : Mm} (hf : f_X8_follow v0 v1 v2 σ = some (r, σ')) : Ct g yX8_follow cX8_follow 4 (some .int) rm_X8_follow [.ref (gB g + v0), .int v1, .int v2] σ (some (.int r)) σ' :=
  Ct.of false (by decide +kernel) (fun h => by cases h) (Nat.le_of_ble_eq_true rfl) (V_X8_follow_0 _ _ _ _ _ _ hf)
abbrev rm_X8_former : Room := { frames := 1, cells := 0, slots := 0, locals := 21 }
set_option maxRecDepth 100000 in
def f_X8_former (v0 : Nat) (v1 : Int32) (σ : Mm) : Option (Int32 × Mm) :=
  if v1 < 0 then (some ((-1 : Int32), σ)) else (zck (kO σ v0 8) (zrb (mR σ v0 3) (fun b3 => zck (kO σ b3 5) (zcb (f_X5_formerCount b3 σ) (fun r5 σ6 => if v1 < r5 then (zck (kO σ6 v0 8) (zrb (mR σ6 v0 3) (fun b9 => zck (kO σ6 b9 5) (zcb (f_X5_formerAt b9 v1 σ6) (fun r11 σ12 => some (r11, σ12)))))) else (some ((-1 : Int32), σ6)))))))
set_option maxRecDepth 100000 in
set_option maxHeartbeats 4000000 in
theorem V_X8_former_0 {g : GG} (v0 : Nat) (v1 : Int32) (σ : Mm) (r : Int32) (σ' : Mm) (hf : f_X8_former v0 v1 σ = some (r, σ')) : VJ g RX8 cX8_former 2 (some .int) false rm_X8_former (some (.int r)) σ' (0) (0) 0 [(0, .ref (gB g + v0)), (1, .int v1)] [] σ := by
  intro p e s m args below meth c H locs cells slots ls E hR hS hl hc hs
  obtain ⟨hx, hb, hml, hr, hlocks, hown, hts, hin, hT⟩ := id E
  unfold f_X8_former at hf
  refine lv_iload_n hx hb dX8_former_0 rfl (lv_at hl 1 rfl) ?_
  refine lv_if_lt (tgt := 15) hx hb dX8_former_1 (by decide) (fun hq1 => ?_) (fun hq1 => ?_)
  · have hf := ite_p hq1 hf
    refine lv_iconst (v := (-1 : Int32)) hx hb dX8_former_15 rfl ?_
    refine lv_goto (tgt := 27) hx hb dX8_former_16 (by decide) ?_
    obtain ⟨hr1, hs1⟩ := Prod.mk.inj (Option.some.inj hf)
    exact xr_i E hR hS rfl (by rw [hr1]) hs1.symm hc hs dX8_former_27
  · have hf := ite_n hq1 hf
    refine lv_iload_n hx hb dX8_former_4 rfl (lv_at hl 1 rfl) ?_
    refine lv_aload_n hx hb dX8_former_5 rfl (lv_at hl 0 rfl) ?_
    obtain ⟨hk2, hf⟩ := zc_s hf
    obtain ⟨b3, hb3, hf⟩ := zr_s hf
    refine x_getR E hR hk2 hb3 ok8 (Nat.le_of_ble_eq_true rfl) rfl fl_X8_33 dX8_former_6 ?_
    obtain ⟨hk4, hf⟩ := zc_s hf
    obtain ⟨r5, σ6, hcr5, hf⟩ := zq_s hf
    refine xV (As := []) (rest := [.int v1]) (st1 := [.int r5, .int v1]) E hR hS hl (C_X5_formerCount hcr5) hk4 ok5 lb_X5_formerCount lv_X5_formerCount ml_X8_116 ⟨Nat.le_of_ble_eq_true rfl, Nat.le_of_ble_eq_true rfl⟩ rfl rfl rfl (Nat.le_of_ble_eq_true rfl) dX8_former_9 ⟨hc, hs⟩ (fun H locs hR hS => ?_)
    refine lv_icmp_lt (tgt := 19) hx hb dX8_former_12 (by decide) (fun hq7 => ?_) (fun hq7 => ?_)
    · have hf := ite_p hq7 hf
      refine lv_aload_n hx hb dX8_former_19 rfl (lv_at hl 0 rfl) ?_
      obtain ⟨hk8, hf⟩ := zc_s hf
      obtain ⟨b9, hb9, hf⟩ := zr_s hf
      refine x_getR E hR hk8 hb9 ok8 (Nat.le_of_ble_eq_true rfl) rfl fl_X8_33 dX8_former_20 ?_
      refine lv_iload_n hx hb dX8_former_23 rfl (lv_at hl 1 rfl) ?_
      obtain ⟨hk10, hf⟩ := zc_s hf
      obtain ⟨r11, σ12, hcr11, hf⟩ := zq_s hf
      refine xV (As := [.int v1]) (rest := []) (st1 := [.int r11]) E hR hS hl (C_X5_formerAt hcr11) hk10 ok5 lb_X5_formerAt lv_X5_formerAt ml_X8_218 ⟨Nat.le_of_ble_eq_true rfl, Nat.le_of_ble_eq_true rfl⟩ rfl rfl rfl (Nat.le_of_ble_eq_true rfl) dX8_former_24 ⟨hc, hs⟩ (fun H locs hR hS => ?_)
      obtain ⟨hr1, hs1⟩ := Prod.mk.inj (Option.some.inj hf)
      exact xr_i E hR hS rfl (by rw [hr1]) hs1.symm hc hs dX8_former_27
    · have hf := ite_n hq7 hf
      refine lv_iconst (v := (-1 : Int32)) hx hb dX8_former_15 rfl ?_
      refine lv_goto (tgt := 27) hx hb dX8_former_16 (by decide) ?_
      obtain ⟨hr1, hs1⟩ := Prod.mk.inj (Option.some.inj hf)
      exact xr_i E hR hS rfl (by rw [hr1]) hs1.symm hc hs dX8_former_27
theorem C_X8_former {g : GG} {v0 : Nat} {v1 : Int32} {σ : Mm} {r : Int32} {σ' : Mm} (hf : f_X8_former v0 v1 σ = some (r, σ')) : Ct g yX8_former cX8_former 2 (some .int) rm_X8_former [.ref (gB g + v0), .int v1] σ (some (.int r)) σ' :=
  Ct.of false (by decide +kernel) (fun h => by cases h) (Nat.le_of_ble_eq_true rfl) (V_X8_former_0 _ _ _ _ _ hf)
abbrev rm_X8_withoutLast : Room := { frames := 0, cells := 0, slots := 0, locals := 0 }
set_option maxRecDepth 100000 in
def f_X8_withoutLast_5 : Nat → Int32 → Int64 → Int32 → Mm → Option (Int64 × Mm)
  | 0, _, _, _, _ => none
  | n + 1, v0, v3, v5, σ =>
    if v0 ≤ v5 then (some (v3, σ)) else (f_X8_withoutLast_5 n v0 (v3 / (100000 : Int64)) (v5 + (1 : Int32)) σ)
set_option maxRecDepth 100000 in
set_option maxHeartbeats 4000000 in
theorem V_X8_withoutLast_5 {g : GG} : ∀ (n : Nat) (v0 : Int32) (v3 : Int64) (v5 : Int32) (σ : Mm) (r : Int64) (σ' : Mm), f_X8_withoutLast_5 n v0 v3 v5 σ = some (r, σ') → VJ g RX8 cX8_withoutLast 6 (some .long) false rm_X8_withoutLast (some (.long r)) σ' (0) (0) 5 [(0, .int v0), (3, .long v3), (5, .int v5)] [] σ := by
  intro n
  induction n with
  | zero =>
    intro v0 v3 v5 σ r σ' hf
    unfold f_X8_withoutLast_5 at hf
    cases hf
  | succ n ih =>
    intro v0 v3 v5 σ r σ' hf p e s m args below meth c H locs cells slots ls E hR hS hl hc hs
    obtain ⟨hx, hb, hml, hr, hlocks, hown, hts, hin, hT⟩ := id E
    unfold f_X8_withoutLast_5 at hf
    refine lv_iload hx hb dX8_withoutLast_5 (lv_at hl 2 rfl) ?_
    refine lv_iload_n hx hb dX8_withoutLast_7 rfl (lv_at hl 0 rfl) ?_
    refine lv_icmp_ge (tgt := 23) hx hb dX8_withoutLast_8 (by decide) (fun hq1 => ?_) (fun hq1 => ?_)
    · have hf := ite_p hq1 hf
      refine lv_lload_n hx hb dX8_withoutLast_23 rfl (lv_at hl 1 rfl) ?_
      obtain ⟨hr1, hs1⟩ := Prod.mk.inj (Option.some.inj hf)
      exact xr_l E hR hS rfl (by rw [hr1]) hs1.symm hc hs dX8_withoutLast_24
    · have hf := ite_n hq1 hf
      refine lv_lload_n hx hb dX8_withoutLast_11 rfl (lv_at hl 1 rfl) ?_
      refine lv_ldc2 (v := (100000 : Int64)) hx hb hown (hts _ kl_X8_228) dX8_withoutLast_12 ?_
      refine lv_ldiv hx hb dX8_withoutLast_15 (by decide) ?_
      refine lv_lstore_n (lv' := [(3, .long (v3 / (100000 : Int64))), (0, .int v0), (5, .int v5)]) hx hb dX8_withoutLast_16 rfl hl (Nat.le_of_ble_eq_true rfl) rfl (fun ls hl => ?_)
      refine lv_iinc (v := (v5 + (1 : Int32))) (lv' := [(5, .int (v5 + (1 : Int32))), (3, .long (v3 / (100000 : Int64))), (0, .int v0)]) hx hb dX8_withoutLast_17 hl (k := 2) rfl rfl (Nat.le_of_ble_eq_true rfl) rfl (fun ls hl => ?_)
      refine lv_goto (tgt := 5) hx hb dX8_withoutLast_20 (by decide) ?_
      exact ih _ _ _ _ _ _ hf p e s m args below meth c _ _ _ _ _ E hR hS (lv_sub hl [2, 1, 0] rfl) hc hs
set_option maxRecDepth 100000 in
def f_X8_withoutLast (v0 : Int32) (v1 : Int64) (σ : Mm) : Option (Int64 × Mm) :=
  f_X8_withoutLast_5 1000 v0 v1 (0 : Int32) σ
set_option maxRecDepth 100000 in
set_option maxHeartbeats 4000000 in
theorem V_X8_withoutLast_0 {g : GG} (v0 : Int32) (v1 : Int64) (σ : Mm) (r : Int64) (σ' : Mm) (hf : f_X8_withoutLast v0 v1 σ = some (r, σ')) : VJ g RX8 cX8_withoutLast 6 (some .long) false rm_X8_withoutLast (some (.long r)) σ' (0) (0) 0 [(0, .int v0), (1, .long v1)] [] σ := by
  intro p e s m args below meth c H locs cells slots ls E hR hS hl hc hs
  obtain ⟨hx, hb, hml, hr, hlocks, hown, hts, hin, hT⟩ := id E
  unfold f_X8_withoutLast at hf
  refine lv_lload_n hx hb dX8_withoutLast_0 rfl (lv_at hl 1 rfl) ?_
  refine lv_lstore_n (lv' := [(3, .long v1), (0, .int v0), (1, .long v1)]) hx hb dX8_withoutLast_1 rfl hl (Nat.le_of_ble_eq_true rfl) rfl (fun ls hl => ?_)
  refine lv_iconst (v := (0 : Int32)) hx hb dX8_withoutLast_2 rfl ?_
  refine lv_istore (lv' := [(5, .int (0 : Int32)), (3, .long v1), (0, .int v0), (1, .long v1)]) hx hb dX8_withoutLast_3 hl (Nat.le_of_ble_eq_true rfl) rfl (fun ls hl => ?_)
  exact V_X8_withoutLast_5  1000 _ _ _ _ _ _ hf p e s m args below meth c _ _ _ _ _ E hR hS (lv_sub hl [2, 1, 0] rfl) hc hs
theorem C_X8_withoutLast {g : GG} {v0 : Int32} {v1 : Int64} {σ : Mm} {r : Int64} {σ' : Mm} (hf : f_X8_withoutLast v0 v1 σ = some (r, σ')) : Ct g yX8_withoutLast cX8_withoutLast 6 (some .long) rm_X8_withoutLast [.int v0, .long v1] σ (some (.long r)) σ' :=
  Ct.of false (by decide +kernel) (fun h => by cases h) (Nat.le_of_ble_eq_true rfl) (V_X8_withoutLast_0 _ _ _ _ _ hf)
abbrev rm_X8_tryPut : Room := { frames := 4, cells := 0, slots := 0, locals := 83 }
set_option maxRecDepth 100000 in
def f_X8_tryPut (v0 : Nat) (v1 : Int32) (v2 : Int32) (σ : Mm) : Option (Int32 × Mm) :=
  zck (kO σ v0 8) (zrb (mR σ v0 5) (fun b2 => zck (kO σ b2 2) (zcb (f_X2_hasRoomFor b2 v1 σ) (fun r4 σ5 => if r4 = 0 then (some ((0 : Int32), σ5)) else (zck (kO σ5 v0 8) (zrb (mR σ5 v0 5) (fun b8 => zck (kO σ5 b8 2) (zcb (f_X2_give b8 v1 v2 σ5) (fun r10 σ11 => some ((1 : Int32), σ11))))))))))
set_option maxRecDepth 100000 in
set_option maxHeartbeats 4000000 in
theorem V_X8_tryPut_0 {g : GG} (v0 : Nat) (v1 : Int32) (v2 : Int32) (σ : Mm) (r : Int32) (σ' : Mm) (hf : f_X8_tryPut v0 v1 v2 σ = some (r, σ')) : VJ g RX8 cX8_tryPut 3 (some .boolean) false rm_X8_tryPut (some (.int r)) σ' (0) (0) 0 [(0, .ref (gB g + v0)), (1, .int v1), (2, .int v2)] [] σ := by
  intro p e s m args below meth c H locs cells slots ls E hR hS hl hc hs
  obtain ⟨hx, hb, hml, hr, hlocks, hown, hts, hin, hT⟩ := id E
  unfold f_X8_tryPut at hf
  refine lv_aload_n hx hb dX8_tryPut_0 rfl (lv_at hl 0 rfl) ?_
  obtain ⟨hk1, hf⟩ := zc_s hf
  obtain ⟨b2, hb2, hf⟩ := zr_s hf
  refine x_getR E hR hk1 hb2 ok8 (Nat.le_of_ble_eq_true rfl) rfl fl_X8_43 dX8_tryPut_1 ?_
  refine lv_iload_n hx hb dX8_tryPut_4 rfl (lv_at hl 1 rfl) ?_
  obtain ⟨hk3, hf⟩ := zc_s hf
  obtain ⟨r4, σ5, hcr4, hf⟩ := zq_s hf
  refine xV (As := [.int v1]) (rest := []) (st1 := [.int r4]) E hR hS hl (C_X2_hasRoomFor hcr4) hk3 ok2 lb_X2_hasRoomFor lv_X2_hasRoomFor ml_X8_61 ⟨Nat.le_of_ble_eq_true rfl, Nat.le_of_ble_eq_true rfl⟩ rfl rfl rfl (Nat.le_of_ble_eq_true rfl) dX8_tryPut_5 ⟨hc, hs⟩ (fun H locs hR hS => ?_)
  refine lv_if_ne (tgt := 13) hx hb dX8_tryPut_8 (by decide) (fun hq6 => ?_) (fun hq6 => ?_)
  · have hf := ite_n hq6 hf
    refine lv_aload_n hx hb dX8_tryPut_13 rfl (lv_at hl 0 rfl) ?_
    obtain ⟨hk7, hf⟩ := zc_s hf
    obtain ⟨b8, hb8, hf⟩ := zr_s hf
    refine x_getR E hR hk7 hb8 ok8 (Nat.le_of_ble_eq_true rfl) rfl fl_X8_43 dX8_tryPut_14 ?_
    refine lv_iload_n hx hb dX8_tryPut_17 rfl (lv_at hl 1 rfl) ?_
    refine lv_iload_n hx hb dX8_tryPut_18 rfl (lv_at hl 2 rfl) ?_
    obtain ⟨hk9, hf⟩ := zc_s hf
    obtain ⟨r10, σ11, hcr10, hf⟩ := zq_s hf
    refine xV (As := [.int v1, .int v2]) (rest := []) (st1 := []) E hR hS hl (C_X2_give hcr10) hk9 ok2 lb_X2_give lv_X2_give ml_X8_72 ⟨Nat.le_of_ble_eq_true rfl, Nat.le_of_ble_eq_true rfl⟩ rfl rfl rfl (Nat.le_of_ble_eq_true rfl) dX8_tryPut_19 ⟨hc, hs⟩ (fun H locs hR hS => ?_)
    refine lv_iconst (v := (1 : Int32)) hx hb dX8_tryPut_22 rfl ?_
    obtain ⟨hr1, hs1⟩ := Prod.mk.inj (Option.some.inj hf)
    exact xr_z E hR hS rfl rfl (by rw [hr1]) hs1.symm hc hs dX8_tryPut_23
  · have hf := ite_p hq6 hf
    refine lv_iconst (v := (0 : Int32)) hx hb dX8_tryPut_11 rfl ?_
    obtain ⟨hr1, hs1⟩ := Prod.mk.inj (Option.some.inj hf)
    exact xr_z E hR hS rfl rfl (by rw [hr1]) hs1.symm hc hs dX8_tryPut_12
theorem C_X8_tryPut {g : GG} {v0 : Nat} {v1 : Int32} {v2 : Int32} {σ : Mm} {r : Int32} {σ' : Mm} (hf : f_X8_tryPut v0 v1 v2 σ = some (r, σ')) : Ct g yX8_tryPut cX8_tryPut 3 (some .boolean) rm_X8_tryPut [.ref (gB g + v0), .int v1, .int v2] σ (some (.int r)) σ' :=
  Ct.of false (by decide +kernel) (fun h => by cases h) (Nat.le_of_ble_eq_true rfl) (V_X8_tryPut_0 _ _ _ _ _ _ hf)
abbrev rm_X8_tryRemove : Room := { frames := 4, cells := 0, slots := 0, locals := 83 }
set_option maxRecDepth 100000 in
def f_X8_tryRemove (v0 : Nat) (v1 : Int32) (σ : Mm) : Option (Int32 × Mm) :=
  zck (kO σ v0 8) (zrb (mR σ v0 5) (fun b2 => zck (kO σ b2 2) (zcb (f_X2_has b2 v1 σ) (fun r4 σ5 => if r4 = 0 then (some ((0 : Int32), σ5)) else (zck (kO σ5 v0 8) (zrb (mR σ5 v0 5) (fun b8 => zck (kO σ5 b8 2) (zcb (f_X2_drop b8 v1 σ5) (fun r10 σ11 => some ((1 : Int32), σ11))))))))))
set_option maxRecDepth 100000 in
set_option maxHeartbeats 4000000 in
theorem V_X8_tryRemove_0 {g : GG} (v0 : Nat) (v1 : Int32) (σ : Mm) (r : Int32) (σ' : Mm) (hf : f_X8_tryRemove v0 v1 σ = some (r, σ')) : VJ g RX8 cX8_tryRemove 2 (some .boolean) false rm_X8_tryRemove (some (.int r)) σ' (0) (0) 0 [(0, .ref (gB g + v0)), (1, .int v1)] [] σ := by
  intro p e s m args below meth c H locs cells slots ls E hR hS hl hc hs
  obtain ⟨hx, hb, hml, hr, hlocks, hown, hts, hin, hT⟩ := id E
  unfold f_X8_tryRemove at hf
  refine lv_aload_n hx hb dX8_tryRemove_0 rfl (lv_at hl 0 rfl) ?_
  obtain ⟨hk1, hf⟩ := zc_s hf
  obtain ⟨b2, hb2, hf⟩ := zr_s hf
  refine x_getR E hR hk1 hb2 ok8 (Nat.le_of_ble_eq_true rfl) rfl fl_X8_43 dX8_tryRemove_1 ?_
  refine lv_iload_n hx hb dX8_tryRemove_4 rfl (lv_at hl 1 rfl) ?_
  obtain ⟨hk3, hf⟩ := zc_s hf
  obtain ⟨r4, σ5, hcr4, hf⟩ := zq_s hf
  refine xV (As := [.int v1]) (rest := []) (st1 := [.int r4]) E hR hS hl (C_X2_has hcr4) hk3 ok2 lb_X2_has lv_X2_has ml_X8_79 ⟨Nat.le_of_ble_eq_true rfl, Nat.le_of_ble_eq_true rfl⟩ rfl rfl rfl (Nat.le_of_ble_eq_true rfl) dX8_tryRemove_5 ⟨hc, hs⟩ (fun H locs hR hS => ?_)
  refine lv_if_ne (tgt := 13) hx hb dX8_tryRemove_8 (by decide) (fun hq6 => ?_) (fun hq6 => ?_)
  · have hf := ite_n hq6 hf
    refine lv_aload_n hx hb dX8_tryRemove_13 rfl (lv_at hl 0 rfl) ?_
    obtain ⟨hk7, hf⟩ := zc_s hf
    obtain ⟨b8, hb8, hf⟩ := zr_s hf
    refine x_getR E hR hk7 hb8 ok8 (Nat.le_of_ble_eq_true rfl) rfl fl_X8_43 dX8_tryRemove_14 ?_
    refine lv_iload_n hx hb dX8_tryRemove_17 rfl (lv_at hl 1 rfl) ?_
    obtain ⟨hk9, hf⟩ := zc_s hf
    obtain ⟨r10, σ11, hcr10, hf⟩ := zq_s hf
    refine xV (As := [.int v1]) (rest := []) (st1 := []) E hR hS hl (C_X2_drop hcr10) hk9 ok2 lb_X2_drop lv_X2_drop ml_X8_82 ⟨Nat.le_of_ble_eq_true rfl, Nat.le_of_ble_eq_true rfl⟩ rfl rfl rfl (Nat.le_of_ble_eq_true rfl) dX8_tryRemove_18 ⟨hc, hs⟩ (fun H locs hR hS => ?_)
    refine lv_iconst (v := (1 : Int32)) hx hb dX8_tryRemove_21 rfl ?_
    obtain ⟨hr1, hs1⟩ := Prod.mk.inj (Option.some.inj hf)
    exact xr_z E hR hS rfl rfl (by rw [hr1]) hs1.symm hc hs dX8_tryRemove_22
  · have hf := ite_p hq6 hf
    refine lv_iconst (v := (0 : Int32)) hx hb dX8_tryRemove_11 rfl ?_
    obtain ⟨hr1, hs1⟩ := Prod.mk.inj (Option.some.inj hf)
    exact xr_z E hR hS rfl rfl (by rw [hr1]) hs1.symm hc hs dX8_tryRemove_12
theorem C_X8_tryRemove {g : GG} {v0 : Nat} {v1 : Int32} {σ : Mm} {r : Int32} {σ' : Mm} (hf : f_X8_tryRemove v0 v1 σ = some (r, σ')) : Ct g yX8_tryRemove cX8_tryRemove 2 (some .boolean) rm_X8_tryRemove [.ref (gB g + v0), .int v1] σ (some (.int r)) σ' :=
  Ct.of false (by decide +kernel) (fun h => by cases h) (Nat.le_of_ble_eq_true rfl) (V_X8_tryRemove_0 _ _ _ _ _ hf)
abbrev rm_X8_trialTree : Room := { frames := 4, cells := 0, slots := 0, locals := 94 }
set_option maxRecDepth 100000 in
def f_X8_trialTree (v0 : Nat) (σ : Mm) : Option (Nat × Mm) :=
  zck (kO σ v0 8) (zrb (mR σ v0 6) (fun b2 => zrb (mR σ v0 5) (fun b3 => zck (kO σ b2 7) (zcb (f_X7_grow b2 b3 σ) (fun r5 σ6 => zck (kO σ6 v0 8) (zrb (mR σ6 v0 6) (fun b8 => some (b8, σ6))))))))
set_option maxRecDepth 100000 in
set_option maxHeartbeats 4000000 in
theorem V_X8_trialTree_0 {g : GG} (v0 : Nat) (σ : Mm) (r : Nat) (σ' : Mm) (hf : f_X8_trialTree v0 σ = some (r, σ')) : VJ g RX8 cX8_trialTree 1 (some (.object "BorderProofs$Tree")) false rm_X8_trialTree (some (.ref (gB g + r))) σ' (0) (0) 0 [(0, .ref (gB g + v0))] [] σ := by
  intro p e s m args below meth c H locs cells slots ls E hR hS hl hc hs
  obtain ⟨hx, hb, hml, hr, hlocks, hown, hts, hin, hT⟩ := id E
  unfold f_X8_trialTree at hf
  refine lv_aload_n hx hb dX8_trialTree_0 rfl (lv_at hl 0 rfl) ?_
  obtain ⟨hk1, hf⟩ := zc_s hf
  obtain ⟨b2, hb2, hf⟩ := zr_s hf
  refine x_getR E hR hk1 hb2 ok8 (Nat.le_of_ble_eq_true rfl) rfl fl_X8_46 dX8_trialTree_1 ?_
  refine lv_aload_n hx hb dX8_trialTree_4 rfl (lv_at hl 0 rfl) ?_
  obtain ⟨b3, hb3, hf⟩ := zr_s hf
  refine x_getR E hR hk1 hb3 ok8 (Nat.le_of_ble_eq_true rfl) rfl fl_X8_43 dX8_trialTree_5 ?_
  obtain ⟨hk4, hf⟩ := zc_s hf
  obtain ⟨r5, σ6, hcr5, hf⟩ := zq_s hf
  refine xV (As := [.ref (gB g + b3)]) (rest := []) (st1 := []) E hR hS hl (C_X7_grow hcr5) hk4 ok7 lb_X7_grow lv_X7_grow ml_X8_76 ⟨Nat.le_of_ble_eq_true rfl, Nat.le_of_ble_eq_true rfl⟩ rfl rfl rfl (Nat.le_of_ble_eq_true rfl) dX8_trialTree_8 ⟨hc, hs⟩ (fun H locs hR hS => ?_)
  refine lv_aload_n hx hb dX8_trialTree_11 rfl (lv_at hl 0 rfl) ?_
  obtain ⟨hk7, hf⟩ := zc_s hf
  obtain ⟨b8, hb8, hf⟩ := zr_s hf
  refine x_getR E hR hk7 hb8 ok8 (Nat.le_of_ble_eq_true rfl) rfl fl_X8_46 dX8_trialTree_12 ?_
  obtain ⟨hr1, hs1⟩ := Prod.mk.inj (Option.some.inj hf)
  exact xr_a E hR hS rfl (by rw [hr1]) hs1.symm hc hs dX8_trialTree_15
theorem C_X8_trialTree {g : GG} {v0 : Nat} {σ : Mm} {r : Nat} {σ' : Mm} (hf : f_X8_trialTree v0 σ = some (r, σ')) : Ct g yX8_trialTree cX8_trialTree 1 (some (.object "BorderProofs$Tree")) rm_X8_trialTree [.ref (gB g + v0)] σ (some (.ref (gB g + r))) σ' :=
  Ct.of false (by decide +kernel) (fun h => by cases h) (Nat.le_of_ble_eq_true rfl) (V_X8_trialTree_0 _ _ _ _ hf)
abbrev rm_X8_canBe : Room := { frames := 5, cells := 1, slots := 4, locals := 114 }
set_option maxRecDepth 100000 in
def f_X8_canBe (v0 : Nat) (v1 : Int32) (σ : Mm) : Option (Int32 × Mm) :=
  if (v1 / (10000 : Int32)) = (1 : Int32) then (zck (kO σ v0 8) (zcb (f_X8_tryPut v0 ((v1 / (100 : Int32)) - (v1 / (100 : Int32)) / (100 : Int32) * (100 : Int32)) (v1 - v1 / (100 : Int32) * (100 : Int32)) σ) (fun r4 σ5 => zck (zb r4) (some (r4, σ5))))) else (if (v1 / (10000 : Int32)) = (2 : Int32) then (if (v1 - v1 / (100 : Int32) * (100 : Int32)) = 0 then (zck (kO σ v0 8) (zcb (f_X8_tryRemove v0 ((v1 / (100 : Int32)) - (v1 / (100 : Int32)) / (100 : Int32) * (100 : Int32)) σ) (fun r10 σ11 => if r10 = 0 then (some ((0 : Int32), σ11)) else (some ((1 : Int32), σ11))))) else (some ((0 : Int32), σ))) else (if (v1 / (10000 : Int32)) = (3 : Int32) then (zck (kO σ v0 8) (zrb (mR σ v0 5) (fun b15 => zck (kO σ b15 2) (zcb (f_X2_has b15 ((v1 / (100 : Int32)) - (v1 / (100 : Int32)) / (100 : Int32) * (100 : Int32)) σ) (fun r17 σ18 => if r17 = 0 then (some ((0 : Int32), σ18)) else (zck (kO σ18 v0 8) (zrb (mR σ18 v0 5) (fun b21 => zck (kO σ18 b21 2) (zcb (f_X2_valueOf b21 ((v1 / (100 : Int32)) - (v1 / (100 : Int32)) / (100 : Int32) * (100 : Int32)) σ18) (fun r23 σ24 => if r23 = (v1 - v1 / (100 : Int32) * (100 : Int32)) then (some ((1 : Int32), σ24)) else (some ((0 : Int32), σ24)))))))))))) else (if (v1 / (10000 : Int32)) = (4 : Int32) then (zck (kO σ v0 8) (zrb (mR σ v0 5) (fun b28 => zck (kO σ b28 2) (zcb (f_X2_has b28 ((v1 / (100 : Int32)) - (v1 / (100 : Int32)) / (100 : Int32) * (100 : Int32)) σ) (fun r30 σ31 => if r30 = 0 then (some ((0 : Int32), σ31)) else (zck (kO σ31 v0 8) (zcb (f_X8_trialTree v0 σ31) (fun r34 σ35 => zck (kO σ35 r34 7) (zcb (f_X7_placeOf r34 ((v1 / (100 : Int32)) - (v1 / (100 : Int32)) / (100 : Int32) * (100 : Int32)) σ35) (fun r37 σ38 => zck (kO σ38 r37 4) (if (mD σ38 r37 0) = (v1 - v1 / (100 : Int32) * (100 : Int32)) then (some ((1 : Int32), σ38)) else (some ((0 : Int32), σ38))))))))))))) else (if (v1 / (10000 : Int32)) = (5 : Int32) then (zck (kO σ v0 8) (zcb (f_X8_trialTree v0 σ) (fun r43 σ44 => zck (kO σ44 r43 7) (zcb (f_X7_proofLengthOf r43 ((v1 / (100 : Int32)) - (v1 / (100 : Int32)) / (100 : Int32) * (100 : Int32)) σ44) (fun r46 σ47 => if r46 = (v1 - v1 / (100 : Int32) * (100 : Int32)) then (some ((1 : Int32), σ47)) else (some ((0 : Int32), σ47))))))) else (some ((0 : Int32), σ))))))
set_option maxRecDepth 100000 in
set_option maxHeartbeats 4000000 in
theorem V_X8_canBe_0 {g : GG} (v0 : Nat) (v1 : Int32) (σ : Mm) (r : Int32) (σ' : Mm) (hf : f_X8_canBe v0 v1 σ = some (r, σ')) (kc ks : Nat) (hqe : 1 ≤ kc ∧ 4 ≤ ks) : VJ g RX8 cX8_canBe 4 (some .boolean) false rm_X8_canBe (some (.int r)) σ' (kc) (ks) 0 [(0, .ref (gB g + v0)), (1, .int v1)] [] σ := by
  intro p e s m args below meth c H locs cells slots ls E hR hS hl hc hs
  have hc : cells + kc ≤ 1 := hc
  have hs : slots + ks ≤ 4 := hs
  obtain ⟨hx, hb, hml, hr, hlocks, hown, hts, hin, hT⟩ := id E
  unfold f_X8_canBe at hf
  refine lv_iload_n hx hb dX8_canBe_0 rfl (lv_at hl 1 rfl) ?_
  refine lv_bipush (v := (100 : Int32)) hx hb dX8_canBe_1 rfl ?_
  refine lv_idiv hx hb dX8_canBe_3 (by decide) ?_
  refine lv_bipush (v := (100 : Int32)) hx hb dX8_canBe_4 rfl ?_
  refine lv_irem hx hb dX8_canBe_6 (by decide) ?_
  refine lv_istore_n (lv' := [(2, .int ((v1 / (100 : Int32)) - (v1 / (100 : Int32)) / (100 : Int32) * (100 : Int32))), (0, .ref (gB g + v0)), (1, .int v1)]) hx hb dX8_canBe_7 rfl hl (Nat.le_of_ble_eq_true rfl) rfl (fun ls hl => ?_)
  refine lv_iload_n hx hb dX8_canBe_8 rfl (lv_at hl 2 rfl) ?_
  refine lv_bipush (v := (100 : Int32)) hx hb dX8_canBe_9 rfl ?_
  refine lv_irem hx hb dX8_canBe_11 (by decide) ?_
  refine lv_istore_n (lv' := [(3, .int (v1 - v1 / (100 : Int32) * (100 : Int32))), (2, .int ((v1 / (100 : Int32)) - (v1 / (100 : Int32)) / (100 : Int32) * (100 : Int32))), (0, .ref (gB g + v0)), (1, .int v1)]) hx hb dX8_canBe_12 rfl hl (Nat.le_of_ble_eq_true rfl) rfl (fun ls hl => ?_)
  refine lv_iload_n hx hb dX8_canBe_13 rfl (lv_at hl 3 rfl) ?_
  refine lv_sipush (v := (10000 : Int32)) hx hb dX8_canBe_14 rfl ?_
  refine lv_idiv hx hb dX8_canBe_17 (by decide) ?_
  refine lv_topi (fun x1 ex => ?_)
  rw [← ex] at hf
  by_cases hq2 : x1 = (1 : Int32)
  · have hf := ite_p hq2 hf
    refine lv_tableIn (tgt := 52) (off := 34) hx hb dX8_canBe_18 (by rw [hq2]; decide) (by rw [hq2]; decide) (by rw [hq2]; decide) (by decide) ?_
    refine lv_aload_n hx hb dX8_canBe_52 rfl (lv_at hl 2 rfl) ?_
    refine lv_iload_n hx hb dX8_canBe_53 rfl (lv_at hl 1 rfl) ?_
    refine lv_iload_n hx hb dX8_canBe_54 rfl (lv_at hl 0 rfl) ?_
    obtain ⟨hk3, hf⟩ := zc_s hf
    obtain ⟨r4, σ5, hcr4, hf⟩ := zq_s hf
    refine xV (As := [.int ((v1 / (100 : Int32)) - (v1 / (100 : Int32)) / (100 : Int32) * (100 : Int32)), .int (v1 - v1 / (100 : Int32) * (100 : Int32))]) (rest := []) (st1 := [.int r4]) E hR hS hl (C_X8_tryPut hcr4) hk3 ok8 lb_X8_tryPut lv_X8_tryPut ml_X8_261 ⟨Nat.le_of_ble_eq_true rfl, Nat.le_of_ble_eq_true rfl⟩ rfl rfl rfl (Nat.le_of_ble_eq_true rfl) dX8_canBe_55 ⟨show cells + 0 ≤ 1 by omega, show slots + 0 ≤ 4 by omega⟩ (fun H locs hR hS => ?_)
    obtain ⟨hz6, hf⟩ := zc_s hf
    obtain ⟨hr1, hs1⟩ := Prod.mk.inj (Option.some.inj hf)
    exact xr_z E hR hS rfl (zb_s hz6) (by rw [hr1]) hs1.symm (show cells + 0 ≤ 1 by omega) (show slots + 0 ≤ 4 by omega) dX8_canBe_58
  have hf := ite_n hq2 hf
  by_cases hq7 : x1 = (2 : Int32)
  · have hf := ite_p hq7 hf
    refine lv_tableIn (tgt := 59) (off := 41) hx hb dX8_canBe_18 (by rw [hq7]; decide) (by rw [hq7]; decide) (by rw [hq7]; decide) (by decide) ?_
    refine lv_iload_n hx hb dX8_canBe_59 rfl (lv_at hl 0 rfl) ?_
    refine lv_if_ne (tgt := 75) hx hb dX8_canBe_60 (by decide) (fun hq8 => ?_) (fun hq8 => ?_)
    · have hf := ite_n hq8 hf
      refine lv_iconst (v := (0 : Int32)) hx hb dX8_canBe_75 rfl ?_
      obtain ⟨hr1, hs1⟩ := Prod.mk.inj (Option.some.inj hf)
      exact xr_z E hR hS rfl rfl (by rw [hr1]) hs1.symm (show cells ≤ 1 by omega) (show slots ≤ 4 by omega) dX8_canBe_76
    · have hf := ite_p hq8 hf
      refine lv_aload_n hx hb dX8_canBe_63 rfl (lv_at hl 2 rfl) ?_
      refine lv_iload_n hx hb dX8_canBe_64 rfl (lv_at hl 1 rfl) ?_
      obtain ⟨hk9, hf⟩ := zc_s hf
      obtain ⟨r10, σ11, hcr10, hf⟩ := zq_s hf
      refine xV (As := [.int ((v1 / (100 : Int32)) - (v1 / (100 : Int32)) / (100 : Int32) * (100 : Int32))]) (rest := []) (st1 := [.int r10]) E hR hS hl (C_X8_tryRemove hcr10) hk9 ok8 lb_X8_tryRemove lv_X8_tryRemove ml_X8_264 ⟨Nat.le_of_ble_eq_true rfl, Nat.le_of_ble_eq_true rfl⟩ rfl rfl rfl (Nat.le_of_ble_eq_true rfl) dX8_canBe_65 ⟨show cells + 0 ≤ 1 by omega, show slots + 0 ≤ 4 by omega⟩ (fun H locs hR hS => ?_)
      refine lv_if_eq (tgt := 75) hx hb dX8_canBe_68 (by decide) (fun hq12 => ?_) (fun hq12 => ?_)
      · have hf := ite_p hq12 hf
        refine lv_iconst (v := (0 : Int32)) hx hb dX8_canBe_75 rfl ?_
        obtain ⟨hr1, hs1⟩ := Prod.mk.inj (Option.some.inj hf)
        exact xr_z E hR hS rfl rfl (by rw [hr1]) hs1.symm (show cells + 0 ≤ 1 by omega) (show slots + 0 ≤ 4 by omega) dX8_canBe_76
      · have hf := ite_n hq12 hf
        refine lv_iconst (v := (1 : Int32)) hx hb dX8_canBe_71 rfl ?_
        refine lv_goto (tgt := 76) hx hb dX8_canBe_72 (by decide) ?_
        obtain ⟨hr1, hs1⟩ := Prod.mk.inj (Option.some.inj hf)
        exact xr_z E hR hS rfl rfl (by rw [hr1]) hs1.symm (show cells + 0 ≤ 1 by omega) (show slots + 0 ≤ 4 by omega) dX8_canBe_76
  have hf := ite_n hq7 hf
  by_cases hq13 : x1 = (3 : Int32)
  · have hf := ite_p hq13 hf
    refine lv_tableIn (tgt := 77) (off := 59) hx hb dX8_canBe_18 (by rw [hq13]; decide) (by rw [hq13]; decide) (by rw [hq13]; decide) (by decide) ?_
    refine lv_aload_n hx hb dX8_canBe_77 rfl (lv_at hl 2 rfl) ?_
    obtain ⟨hk14, hf⟩ := zc_s hf
    obtain ⟨b15, hb15, hf⟩ := zr_s hf
    refine x_getR E hR hk14 hb15 ok8 (Nat.le_of_ble_eq_true rfl) rfl fl_X8_43 dX8_canBe_78 ?_
    refine lv_iload_n hx hb dX8_canBe_81 rfl (lv_at hl 1 rfl) ?_
    obtain ⟨hk16, hf⟩ := zc_s hf
    obtain ⟨r17, σ18, hcr17, hf⟩ := zq_s hf
    refine xV (As := [.int ((v1 / (100 : Int32)) - (v1 / (100 : Int32)) / (100 : Int32) * (100 : Int32))]) (rest := []) (st1 := [.int r17]) E hR hS hl (C_X2_has hcr17) hk16 ok2 lb_X2_has lv_X2_has ml_X8_79 ⟨Nat.le_of_ble_eq_true rfl, Nat.le_of_ble_eq_true rfl⟩ rfl rfl rfl (Nat.le_of_ble_eq_true rfl) dX8_canBe_82 ⟨show cells + 0 ≤ 1 by omega, show slots + 0 ≤ 4 by omega⟩ (fun H locs hR hS => ?_)
    refine lv_if_eq (tgt := 104) hx hb dX8_canBe_85 (by decide) (fun hq19 => ?_) (fun hq19 => ?_)
    · have hf := ite_p hq19 hf
      refine lv_iconst (v := (0 : Int32)) hx hb dX8_canBe_104 rfl ?_
      obtain ⟨hr1, hs1⟩ := Prod.mk.inj (Option.some.inj hf)
      exact xr_z E hR hS rfl rfl (by rw [hr1]) hs1.symm (show cells + 0 ≤ 1 by omega) (show slots + 0 ≤ 4 by omega) dX8_canBe_105
    · have hf := ite_n hq19 hf
      refine lv_aload_n hx hb dX8_canBe_88 rfl (lv_at hl 2 rfl) ?_
      obtain ⟨hk20, hf⟩ := zc_s hf
      obtain ⟨b21, hb21, hf⟩ := zr_s hf
      refine x_getR E hR hk20 hb21 ok8 (Nat.le_of_ble_eq_true rfl) rfl fl_X8_43 dX8_canBe_89 ?_
      refine lv_iload_n hx hb dX8_canBe_92 rfl (lv_at hl 1 rfl) ?_
      obtain ⟨hk22, hf⟩ := zc_s hf
      obtain ⟨r23, σ24, hcr23, hf⟩ := zq_s hf
      refine xV (As := [.int ((v1 / (100 : Int32)) - (v1 / (100 : Int32)) / (100 : Int32) * (100 : Int32))]) (rest := []) (st1 := [.int r23]) E hR hS hl (C_X2_valueOf hcr23) hk22 ok2 lb_X2_valueOf lv_X2_valueOf ml_X8_64 ⟨Nat.le_of_ble_eq_true rfl, Nat.le_of_ble_eq_true rfl⟩ rfl rfl rfl (Nat.le_of_ble_eq_true rfl) dX8_canBe_93 ⟨show cells + 0 + 0 ≤ 1 by omega, show slots + 0 + 0 ≤ 4 by omega⟩ (fun H locs hR hS => ?_)
      refine lv_iload_n hx hb dX8_canBe_96 rfl (lv_at hl 0 rfl) ?_
      refine lv_icmp_ne (tgt := 104) hx hb dX8_canBe_97 (by decide) (fun hq25 => ?_) (fun hq25 => ?_)
      · have hf := ite_n hq25 hf
        refine lv_iconst (v := (0 : Int32)) hx hb dX8_canBe_104 rfl ?_
        obtain ⟨hr1, hs1⟩ := Prod.mk.inj (Option.some.inj hf)
        exact xr_z E hR hS rfl rfl (by rw [hr1]) hs1.symm (show cells + 0 + 0 ≤ 1 by omega) (show slots + 0 + 0 ≤ 4 by omega) dX8_canBe_105
      · have hf := ite_p hq25 hf
        refine lv_iconst (v := (1 : Int32)) hx hb dX8_canBe_100 rfl ?_
        refine lv_goto (tgt := 105) hx hb dX8_canBe_101 (by decide) ?_
        obtain ⟨hr1, hs1⟩ := Prod.mk.inj (Option.some.inj hf)
        exact xr_z E hR hS rfl rfl (by rw [hr1]) hs1.symm (show cells + 0 + 0 ≤ 1 by omega) (show slots + 0 + 0 ≤ 4 by omega) dX8_canBe_105
  have hf := ite_n hq13 hf
  by_cases hq26 : x1 = (4 : Int32)
  · have hf := ite_p hq26 hf
    refine lv_tableIn (tgt := 106) (off := 88) hx hb dX8_canBe_18 (by rw [hq26]; decide) (by rw [hq26]; decide) (by rw [hq26]; decide) (by decide) ?_
    refine lv_aload_n hx hb dX8_canBe_106 rfl (lv_at hl 2 rfl) ?_
    obtain ⟨hk27, hf⟩ := zc_s hf
    obtain ⟨b28, hb28, hf⟩ := zr_s hf
    refine x_getR E hR hk27 hb28 ok8 (Nat.le_of_ble_eq_true rfl) rfl fl_X8_43 dX8_canBe_107 ?_
    refine lv_iload_n hx hb dX8_canBe_110 rfl (lv_at hl 1 rfl) ?_
    obtain ⟨hk29, hf⟩ := zc_s hf
    obtain ⟨r30, σ31, hcr30, hf⟩ := zq_s hf
    refine xV (As := [.int ((v1 / (100 : Int32)) - (v1 / (100 : Int32)) / (100 : Int32) * (100 : Int32))]) (rest := []) (st1 := [.int r30]) E hR hS hl (C_X2_has hcr30) hk29 ok2 lb_X2_has lv_X2_has ml_X8_79 ⟨Nat.le_of_ble_eq_true rfl, Nat.le_of_ble_eq_true rfl⟩ rfl rfl rfl (Nat.le_of_ble_eq_true rfl) dX8_canBe_111 ⟨show cells + 0 ≤ 1 by omega, show slots + 0 ≤ 4 by omega⟩ (fun H locs hR hS => ?_)
    refine lv_if_eq (tgt := 136) hx hb dX8_canBe_114 (by decide) (fun hq32 => ?_) (fun hq32 => ?_)
    · have hf := ite_p hq32 hf
      refine lv_iconst (v := (0 : Int32)) hx hb dX8_canBe_136 rfl ?_
      obtain ⟨hr1, hs1⟩ := Prod.mk.inj (Option.some.inj hf)
      exact xr_z E hR hS rfl rfl (by rw [hr1]) hs1.symm (show cells + 0 ≤ 1 by omega) (show slots + 0 ≤ 4 by omega) dX8_canBe_137
    · have hf := ite_n hq32 hf
      refine lv_aload_n hx hb dX8_canBe_117 rfl (lv_at hl 2 rfl) ?_
      obtain ⟨hk33, hf⟩ := zc_s hf
      obtain ⟨r34, σ35, hcr34, hf⟩ := zq_s hf
      refine xV (As := []) (rest := []) (st1 := [.ref (gB g + r34)]) E hR hS hl (C_X8_trialTree hcr34) hk33 ok8 lb_X8_trialTree lv_X8_trialTree ml_X8_267 ⟨Nat.le_of_ble_eq_true rfl, Nat.le_of_ble_eq_true rfl⟩ rfl rfl rfl (Nat.le_of_ble_eq_true rfl) dX8_canBe_118 ⟨show cells + 0 + 0 ≤ 1 by omega, show slots + 0 + 0 ≤ 4 by omega⟩ (fun H locs hR hS => ?_)
      refine lv_iload_n hx hb dX8_canBe_121 rfl (lv_at hl 1 rfl) ?_
      obtain ⟨hk36, hf⟩ := zc_s hf
      obtain ⟨r37, σ38, hcr37, hf⟩ := zq_s hf
      refine xV (As := [.int ((v1 / (100 : Int32)) - (v1 / (100 : Int32)) / (100 : Int32) * (100 : Int32))]) (rest := []) (st1 := [.ref (gB g + r37)]) E hR hS hl (C_X7_placeOf hcr37) hk36 ok7 lb_X7_placeOf lv_X7_placeOf ml_X8_119 ⟨Nat.le_of_ble_eq_true rfl, Nat.le_of_ble_eq_true rfl⟩ rfl rfl rfl (Nat.le_of_ble_eq_true rfl) dX8_canBe_122 ⟨show cells + 0 + 0 + 1 ≤ 1 by omega, show slots + 0 + 0 + 4 ≤ 4 by omega⟩ (fun H locs hR hS => ?_)
      obtain ⟨hk39, hf⟩ := zc_s hf
      refine x_getI E hR hk39 ok4 0 (Nat.le_of_ble_eq_true rfl) rfl fl_X8_123 dX8_canBe_125 ?_
      refine lv_iload_n hx hb dX8_canBe_128 rfl (lv_at hl 0 rfl) ?_
      refine lv_icmp_ne (tgt := 136) hx hb dX8_canBe_129 (by decide) (fun hq40 => ?_) (fun hq40 => ?_)
      · have hf := ite_n hq40 hf
        refine lv_iconst (v := (0 : Int32)) hx hb dX8_canBe_136 rfl ?_
        obtain ⟨hr1, hs1⟩ := Prod.mk.inj (Option.some.inj hf)
        exact xr_z E hR hS rfl rfl (by rw [hr1]) hs1.symm (show cells + 0 + 0 + 1 ≤ 1 by omega) (show slots + 0 + 0 + 4 ≤ 4 by omega) dX8_canBe_137
      · have hf := ite_p hq40 hf
        refine lv_iconst (v := (1 : Int32)) hx hb dX8_canBe_132 rfl ?_
        refine lv_goto (tgt := 137) hx hb dX8_canBe_133 (by decide) ?_
        obtain ⟨hr1, hs1⟩ := Prod.mk.inj (Option.some.inj hf)
        exact xr_z E hR hS rfl rfl (by rw [hr1]) hs1.symm (show cells + 0 + 0 + 1 ≤ 1 by omega) (show slots + 0 + 0 + 4 ≤ 4 by omega) dX8_canBe_137
  have hf := ite_n hq26 hf
  by_cases hq41 : x1 = (5 : Int32)
  · have hf := ite_p hq41 hf
    refine lv_tableIn (tgt := 138) (off := 120) hx hb dX8_canBe_18 (by rw [hq41]; decide) (by rw [hq41]; decide) (by rw [hq41]; decide) (by decide) ?_
    refine lv_aload_n hx hb dX8_canBe_138 rfl (lv_at hl 2 rfl) ?_
    obtain ⟨hk42, hf⟩ := zc_s hf
    obtain ⟨r43, σ44, hcr43, hf⟩ := zq_s hf
    refine xV (As := []) (rest := []) (st1 := [.ref (gB g + r43)]) E hR hS hl (C_X8_trialTree hcr43) hk42 ok8 lb_X8_trialTree lv_X8_trialTree ml_X8_267 ⟨Nat.le_of_ble_eq_true rfl, Nat.le_of_ble_eq_true rfl⟩ rfl rfl rfl (Nat.le_of_ble_eq_true rfl) dX8_canBe_139 ⟨show cells + 0 ≤ 1 by omega, show slots + 0 ≤ 4 by omega⟩ (fun H locs hR hS => ?_)
    refine lv_iload_n hx hb dX8_canBe_142 rfl (lv_at hl 1 rfl) ?_
    obtain ⟨hk45, hf⟩ := zc_s hf
    obtain ⟨r46, σ47, hcr46, hf⟩ := zq_s hf
    refine xV (As := [.int ((v1 / (100 : Int32)) - (v1 / (100 : Int32)) / (100 : Int32) * (100 : Int32))]) (rest := []) (st1 := [.int r46]) E hR hS hl (C_X7_proofLengthOf hcr46) hk45 ok7 lb_X7_proofLengthOf lv_X7_proofLengthOf ml_X8_173 ⟨Nat.le_of_ble_eq_true rfl, Nat.le_of_ble_eq_true rfl⟩ rfl rfl rfl (Nat.le_of_ble_eq_true rfl) dX8_canBe_143 ⟨show cells + 0 + 0 ≤ 1 by omega, show slots + 0 + 0 ≤ 4 by omega⟩ (fun H locs hR hS => ?_)
    refine lv_iload_n hx hb dX8_canBe_146 rfl (lv_at hl 0 rfl) ?_
    refine lv_icmp_ne (tgt := 154) hx hb dX8_canBe_147 (by decide) (fun hq48 => ?_) (fun hq48 => ?_)
    · have hf := ite_n hq48 hf
      refine lv_iconst (v := (0 : Int32)) hx hb dX8_canBe_154 rfl ?_
      obtain ⟨hr1, hs1⟩ := Prod.mk.inj (Option.some.inj hf)
      exact xr_z E hR hS rfl rfl (by rw [hr1]) hs1.symm (show cells + 0 + 0 ≤ 1 by omega) (show slots + 0 + 0 ≤ 4 by omega) dX8_canBe_155
    · have hf := ite_p hq48 hf
      refine lv_iconst (v := (1 : Int32)) hx hb dX8_canBe_150 rfl ?_
      refine lv_goto (tgt := 155) hx hb dX8_canBe_151 (by decide) ?_
      obtain ⟨hr1, hs1⟩ := Prod.mk.inj (Option.some.inj hf)
      exact xr_z E hR hS rfl rfl (by rw [hr1]) hs1.symm (show cells + 0 + 0 ≤ 1 by omega) (show slots + 0 + 0 ≤ 4 by omega) dX8_canBe_155
  have hf := ite_n hq41 hf
  refine lv_tableOut (tgt := 156) hx hb dX8_canBe_18 (sw_out (fun j h1 h2 => by
      have hj : j = 1 ∨ j = 2 ∨ j = 3 ∨ j = 4 ∨ j = 5 := by omega
      rcases hj with rfl | rfl | rfl | rfl | rfl
      · exact hq2
      · exact hq7
      · exact hq13
      · exact hq26
      · exact hq41
      )) (by decide) ?_
  refine lv_iconst (v := (0 : Int32)) hx hb dX8_canBe_156 rfl ?_
  obtain ⟨hr1, hs1⟩ := Prod.mk.inj (Option.some.inj hf)
  exact xr_z E hR hS rfl rfl (by rw [hr1]) hs1.symm (show cells ≤ 1 by omega) (show slots ≤ 4 by omega) dX8_canBe_157
theorem C_X8_canBe {g : GG} {v0 : Nat} {v1 : Int32} {σ : Mm} {r : Int32} {σ' : Mm} (hf : f_X8_canBe v0 v1 σ = some (r, σ')) : Ct g yX8_canBe cX8_canBe 4 (some .boolean) rm_X8_canBe [.ref (gB g + v0), .int v1] σ (some (.int r)) σ' :=
  Ct.of false (by decide +kernel) (fun h => by cases h) (Nat.le_of_ble_eq_true rfl) (V_X8_canBe_0 _ _ _ _ _ hf 1 4 ⟨Nat.le_of_ble_eq_true rfl, Nat.le_of_ble_eq_true rfl⟩)
abbrev rm_X8_judge : Room := { frames := 6, cells := 5, slots := 20, locals := 137 }
set_option maxRecDepth 100000 in
def f_X8_judge_43 : Nat → Nat → Int32 → Int64 → Int32 → Mm → Option (Int32 × Mm)
  | 0, _, _, _, _, _ => none
  | n + 1, v0, v1, v2, v4, σ =>
    if v1 ≤ v4 then (some ((-9 : Int32), σ)) else (zcb (f_X8_withoutLast ((v1 - (1 : Int32)) - v4) v2 σ) (fun r2 σ3 => zck (kO σ3 v0 8) (zcb (f_X8_canBe v0 (((r2 - r2 / (100000 : Int64) * (100000 : Int64))).toInt32) σ3) (fun r5 σ6 => if r5 = 0 then (some (v4, σ6)) else (f_X8_judge_43 n v0 v1 v2 (v4 + (1 : Int32)) σ6)))))
set_option maxRecDepth 100000 in
set_option maxHeartbeats 4000000 in
theorem V_X8_judge_43 {g : GG} : ∀ (n : Nat) (v0 : Nat) (v1 : Int32) (v2 : Int64) (v4 : Int32) (σ : Mm) (r : Int32) (σ' : Mm), f_X8_judge_43 n v0 v1 v2 v4 σ = some (r, σ') → VJ g RX8 cX8_judge 5 (some .int) false rm_X8_judge (some (.int r)) σ' (n * 1 + 1) (n * 4 + 4) 43 [(0, .ref (gB g + v0)), (1, .int v1), (2, .long v2), (4, .int v4)] [] σ := by
  intro n
  induction n with
  | zero =>
    intro v0 v1 v2 v4 σ r σ' hf
    unfold f_X8_judge_43 at hf
    cases hf
  | succ n ih =>
    intro v0 v1 v2 v4 σ r σ' hf p e s m args below meth c H locs cells slots ls E hR hS hl hc hs
    have hc : cells + ((n + 1) * 1 + 1) ≤ 5 := hc
    have hs : slots + ((n + 1) * 4 + 4) ≤ 20 := hs
    obtain ⟨hx, hb, hml, hr, hlocks, hown, hts, hin, hT⟩ := id E
    unfold f_X8_judge_43 at hf
    refine lv_iload hx hb dX8_judge_43 (lv_at hl 3 rfl) ?_
    refine lv_iload_n hx hb dX8_judge_45 rfl (lv_at hl 1 rfl) ?_
    refine lv_icmp_ge (tgt := 80) hx hb dX8_judge_46 (by decide) (fun hq1 => ?_) (fun hq1 => ?_)
    · have hf := ite_p hq1 hf
      refine lv_bipush (v := (-9 : Int32)) hx hb dX8_judge_80 rfl ?_
      obtain ⟨hr1, hs1⟩ := Prod.mk.inj (Option.some.inj hf)
      exact xr_i E hR hS rfl (by rw [hr1]) hs1.symm (show cells ≤ 5 by omega) (show slots ≤ 20 by omega) dX8_judge_82
    · have hf := ite_n hq1 hf
      refine lv_aload_n hx hb dX8_judge_49 rfl (lv_at hl 0 rfl) ?_
      refine lv_iload_n hx hb dX8_judge_50 rfl (lv_at hl 1 rfl) ?_
      refine lv_iconst (v := (1 : Int32)) hx hb dX8_judge_51 rfl ?_
      refine lv_isub hx hb dX8_judge_52 ?_
      refine lv_iload hx hb dX8_judge_53 (lv_at hl 3 rfl) ?_
      refine lv_isub hx hb dX8_judge_55 ?_
      refine lv_lload_n hx hb dX8_judge_56 rfl (lv_at hl 2 rfl) ?_
      obtain ⟨r2, σ3, hcr2, hf⟩ := zq_s hf
      refine xS (As := [.int ((v1 - (1 : Int32)) - v4), .long v2]) (rest := [.ref (gB g + v0)]) (st1 := [.long r2, .ref (gB g + v0)]) E hR hS hl (C_X8_withoutLast hcr2) lb_X8_withoutLast ls_X8_withoutLast ml_X8_221 ⟨Nat.le_of_ble_eq_true rfl, Nat.le_of_ble_eq_true rfl⟩ rfl rfl rfl (Nat.le_of_ble_eq_true rfl) dX8_judge_57 ⟨show cells + 0 ≤ 5 by omega, show slots + 0 ≤ 20 by omega⟩ (fun H locs hR hS => ?_)
      refine lv_ldc2 (v := (100000 : Int64)) hx hb hown (hts _ kl_X8_228) dX8_judge_60 ?_
      refine lv_lrem hx hb dX8_judge_63 (by decide) ?_
      refine lv_l2i (v := ((r2 - r2 / (100000 : Int64) * (100000 : Int64))).toInt32) hx hb dX8_judge_64 rfl ?_
      obtain ⟨hk4, hf⟩ := zc_s hf
      obtain ⟨r5, σ6, hcr5, hf⟩ := zq_s hf
      refine xV (As := [.int (((r2 - r2 / (100000 : Int64) * (100000 : Int64))).toInt32)]) (rest := []) (st1 := [.int r5]) E hR hS hl (C_X8_canBe hcr5) hk4 ok8 lb_X8_canBe lv_X8_canBe ml_X8_230 ⟨Nat.le_of_ble_eq_true rfl, Nat.le_of_ble_eq_true rfl⟩ rfl rfl rfl (Nat.le_of_ble_eq_true rfl) dX8_judge_65 ⟨show cells + 0 + 1 ≤ 5 by omega, show slots + 0 + 4 ≤ 20 by omega⟩ (fun H locs hR hS => ?_)
      refine lv_if_ne (tgt := 74) hx hb dX8_judge_68 (by decide) (fun hq7 => ?_) (fun hq7 => ?_)
      · have hf := ite_n hq7 hf
        refine lv_iinc (v := (v4 + (1 : Int32))) (lv' := [(4, .int (v4 + (1 : Int32))), (0, .ref (gB g + v0)), (1, .int v1), (2, .long v2)]) hx hb dX8_judge_74 hl (k := 3) rfl rfl (Nat.le_of_ble_eq_true rfl) rfl (fun ls hl => ?_)
        refine lv_goto (tgt := 43) hx hb dX8_judge_77 (by decide) ?_
        exact ih _ _ _ _ _ _ _ hf p e s m args below meth c _ _ _ _ _ E hR hS (lv_sub hl [1, 2, 3, 0] rfl) (show cells + 0 + 1 + (n * 1 + 1) ≤ 5 by omega) (show slots + 0 + 4 + (n * 4 + 4) ≤ 20 by omega)
      · have hf := ite_p hq7 hf
        refine lv_iload hx hb dX8_judge_71 (lv_at hl 3 rfl) ?_
        obtain ⟨hr1, hs1⟩ := Prod.mk.inj (Option.some.inj hf)
        exact xr_i E hR hS rfl (by rw [hr1]) hs1.symm (show cells + 0 + 1 ≤ 5 by omega) (show slots + 0 + 4 ≤ 20 by omega) dX8_judge_73
set_option maxRecDepth 100000 in
def f_X8_judge (v0 : Nat) (v1 : Int32) (v2 : Int64) (σ : Mm) : Option (Int32 × Mm) :=
  if v1 < (1 : Int32) then (some ((-2 : Int32), σ)) else (if (3 : Int32) < v1 then (some ((-2 : Int32), σ)) else (if (lg_cmp v2 (0 : Int64)) < 0 then (some ((-2 : Int32), σ)) else (zcb (f_X8_withoutLast v1 v2 σ) (fun r11 σ12 => if (lg_cmp r11 (0 : Int64)) = 0 then (zck (kO σ12 v0 8) (zrb (mR σ12 v0 5) (fun b15 => zrb (mR σ12 v0 0) (fun b16 => zck (kO σ12 b15 2) (zcb (f_X2_become b15 b16 σ12) (fun r18 σ19 => f_X8_judge_43 4 v0 v1 v2 (0 : Int32) σ19)))))) else (some ((-2 : Int32), σ12))))))
set_option maxRecDepth 100000 in
set_option maxHeartbeats 4000000 in
theorem V_X8_judge_0 {g : GG} (v0 : Nat) (v1 : Int32) (v2 : Int64) (σ : Mm) (r : Int32) (σ' : Mm) (hf : f_X8_judge v0 v1 v2 σ = some (r, σ')) (kc ks : Nat) (hqe : 5 ≤ kc ∧ 20 ≤ ks) : VJ g RX8 cX8_judge 5 (some .int) false rm_X8_judge (some (.int r)) σ' (kc) (ks) 0 [(0, .ref (gB g + v0)), (1, .int v1), (2, .long v2)] [] σ := by
  intro p e s m args below meth c H locs cells slots ls E hR hS hl hc hs
  have hc : cells + kc ≤ 5 := hc
  have hs : slots + ks ≤ 20 := hs
  obtain ⟨hx, hb, hml, hr, hlocks, hown, hts, hin, hT⟩ := id E
  unfold f_X8_judge at hf
  refine lv_iload_n hx hb dX8_judge_0 rfl (lv_at hl 1 rfl) ?_
  refine lv_iconst (v := (1 : Int32)) hx hb dX8_judge_1 rfl ?_
  refine lv_icmp_lt (tgt := 26) hx hb dX8_judge_2 (by decide) (fun hq8 => ?_) (fun hq8 => ?_)
  · have hf := ite_p hq8 hf
    refine lv_bipush (v := (-2 : Int32)) hx hb dX8_judge_26 rfl ?_
    obtain ⟨hr1, hs1⟩ := Prod.mk.inj (Option.some.inj hf)
    exact xr_i E hR hS rfl (by rw [hr1]) hs1.symm (show cells ≤ 5 by omega) (show slots ≤ 20 by omega) dX8_judge_28
  · have hf := ite_n hq8 hf
    refine lv_iload_n hx hb dX8_judge_5 rfl (lv_at hl 1 rfl) ?_
    refine lv_iconst (v := (3 : Int32)) hx hb dX8_judge_6 rfl ?_
    refine lv_icmp_gt (tgt := 26) hx hb dX8_judge_7 (by decide) (fun hq9 => ?_) (fun hq9 => ?_)
    · have hf := ite_p hq9 hf
      refine lv_bipush (v := (-2 : Int32)) hx hb dX8_judge_26 rfl ?_
      obtain ⟨hr1, hs1⟩ := Prod.mk.inj (Option.some.inj hf)
      exact xr_i E hR hS rfl (by rw [hr1]) hs1.symm (show cells ≤ 5 by omega) (show slots ≤ 20 by omega) dX8_judge_28
    · have hf := ite_n hq9 hf
      refine lv_lload_n hx hb dX8_judge_10 rfl (lv_at hl 2 rfl) ?_
      refine lv_lconst (v := (0 : Int64)) hx hb dX8_judge_11 rfl ?_
      refine W.lcmp hx hb dX8_judge_12 ?_
      refine lv_if_lt (tgt := 26) hx hb dX8_judge_13 (by decide) (fun hq10 => ?_) (fun hq10 => ?_)
      · have hf := ite_p hq10 hf
        refine lv_bipush (v := (-2 : Int32)) hx hb dX8_judge_26 rfl ?_
        obtain ⟨hr1, hs1⟩ := Prod.mk.inj (Option.some.inj hf)
        exact xr_i E hR hS rfl (by rw [hr1]) hs1.symm (show cells ≤ 5 by omega) (show slots ≤ 20 by omega) dX8_judge_28
      · have hf := ite_n hq10 hf
        refine lv_iload_n hx hb dX8_judge_16 rfl (lv_at hl 1 rfl) ?_
        refine lv_lload_n hx hb dX8_judge_17 rfl (lv_at hl 2 rfl) ?_
        obtain ⟨r11, σ12, hcr11, hf⟩ := zq_s hf
        refine xS (As := [.int v1, .long v2]) (rest := []) (st1 := [.long r11]) E hR hS hl (C_X8_withoutLast hcr11) lb_X8_withoutLast ls_X8_withoutLast ml_X8_221 ⟨Nat.le_of_ble_eq_true rfl, Nat.le_of_ble_eq_true rfl⟩ rfl rfl rfl (Nat.le_of_ble_eq_true rfl) dX8_judge_18 ⟨show cells + 0 ≤ 5 by omega, show slots + 0 ≤ 20 by omega⟩ (fun H locs hR hS => ?_)
        refine lv_lconst (v := (0 : Int64)) hx hb dX8_judge_21 rfl ?_
        refine W.lcmp hx hb dX8_judge_22 ?_
        refine lv_if_eq (tgt := 29) hx hb dX8_judge_23 (by decide) (fun hq13 => ?_) (fun hq13 => ?_)
        · have hf := ite_p hq13 hf
          refine lv_aload_n hx hb dX8_judge_29 rfl (lv_at hl 0 rfl) ?_
          obtain ⟨hk14, hf⟩ := zc_s hf
          obtain ⟨b15, hb15, hf⟩ := zr_s hf
          refine x_getR E hR hk14 hb15 ok8 (Nat.le_of_ble_eq_true rfl) rfl fl_X8_43 dX8_judge_30 ?_
          refine lv_aload_n hx hb dX8_judge_33 rfl (lv_at hl 0 rfl) ?_
          obtain ⟨b16, hb16, hf⟩ := zr_s hf
          refine x_getR E hR hk14 hb16 ok8 (Nat.le_of_ble_eq_true rfl) rfl fl_X8_12 dX8_judge_34 ?_
          obtain ⟨hk17, hf⟩ := zc_s hf
          obtain ⟨r18, σ19, hcr18, hf⟩ := zq_s hf
          refine xV (As := [.ref (gB g + b16)]) (rest := []) (st1 := []) E hR hS hl (C_X2_become hcr18) hk17 ok2 lb_X2_become lv_X2_become ml_X8_225 ⟨Nat.le_of_ble_eq_true rfl, Nat.le_of_ble_eq_true rfl⟩ rfl rfl rfl (Nat.le_of_ble_eq_true rfl) dX8_judge_37 ⟨show cells + 0 + 0 ≤ 5 by omega, show slots + 0 + 0 ≤ 20 by omega⟩ (fun H locs hR hS => ?_)
          refine lv_iconst (v := (0 : Int32)) hx hb dX8_judge_40 rfl ?_
          refine lv_istore (lv' := [(4, .int (0 : Int32)), (0, .ref (gB g + v0)), (1, .int v1), (2, .long v2)]) hx hb dX8_judge_41 hl (Nat.le_of_ble_eq_true rfl) rfl (fun ls hl => ?_)
          exact V_X8_judge_43  4 _ _ _ _ _ _ _ hf p e s m args below meth c _ _ _ _ _ E hR hS (lv_sub hl [1, 2, 3, 0] rfl) (show cells + 0 + 0 + (4 * 1 + 1) ≤ 5 by omega) (show slots + 0 + 0 + (4 * 4 + 4) ≤ 20 by omega)
        · have hf := ite_n hq13 hf
          refine lv_bipush (v := (-2 : Int32)) hx hb dX8_judge_26 rfl ?_
          obtain ⟨hr1, hs1⟩ := Prod.mk.inj (Option.some.inj hf)
          exact xr_i E hR hS rfl (by rw [hr1]) hs1.symm (show cells + 0 ≤ 5 by omega) (show slots + 0 ≤ 20 by omega) dX8_judge_28
theorem C_X8_judge {g : GG} {v0 : Nat} {v1 : Int32} {v2 : Int64} {σ : Mm} {r : Int32} {σ' : Mm} (hf : f_X8_judge v0 v1 v2 σ = some (r, σ')) : Ct g yX8_judge cX8_judge 5 (some .int) rm_X8_judge [.ref (gB g + v0), .int v1, .long v2] σ (some (.int r)) σ' :=
  Ct.of false (by decide +kernel) (fun h => by cases h) (Nat.le_of_ble_eq_true rfl) (V_X8_judge_0 _ _ _ _ _ _ hf 5 20 ⟨Nat.le_of_ble_eq_true rfl, Nat.le_of_ble_eq_true rfl⟩)
