abbrev rm_X9_manyOf : Room := { frames := 0, cells := 0, slots := 0, locals := 0 }
set_option maxRecDepth 100000 in
def f_X9_manyOf_24 (k_4 : Nat → Int32 → Int32 → Mm → Option (Int32 × Mm)) (v0 : Nat) (v2 : Int32) (w0 : Int32) (w1 : Int32) (σ : Mm) : Option (Int32 × Mm) :=
  k_4 v0 (w0 + w1) (v2 + (1 : Int32)) σ
set_option maxRecDepth 100000 in
set_option maxHeartbeats 4000000 in
theorem V_X9_manyOf_24 {g : GG} (k_4 : Nat → Int32 → Int32 → Mm → Option (Int32 × Mm)) (hk_4 : ∀ (v0 : Nat) (v1 : Int32) (v2 : Int32) (σ : Mm) (r : Int32) (σ' : Mm), k_4 v0 v1 v2 σ = some (r, σ') → VJ g RX9 cX9_manyOf 3 (some .int) false rm_X9_manyOf (some (.int r)) σ' (0) (0) 4 [(0, .ref (gB g + v0)), (1, .int v1), (2, .int v2)] [] σ) (v0 : Nat) (v2 : Int32) (w0 : Int32) (w1 : Int32) (σ : Mm) (r : Int32) (σ' : Mm) (hf : f_X9_manyOf_24 k_4 v0 v2 w0 w1 σ = some (r, σ')) : VJ g RX9 cX9_manyOf 3 (some .int) false rm_X9_manyOf (some (.int r)) σ' (0) (0) 24 [(0, .ref (gB g + v0)), (2, .int v2)] [.int w1, .int w0] σ := by
  intro p e s m args below meth c H locs cells slots ls E hR hS hl hc hs
  obtain ⟨hx, hb, hml, hr, hlocks, hown, hts, hin, hT⟩ := id E
  unfold f_X9_manyOf_24 at hf
  refine lv_iadd hx hb dX9_manyOf_24 ?_
  refine lv_istore_n (lv' := [(1, .int (w0 + w1)), (0, .ref (gB g + v0)), (2, .int v2)]) hx hb dX9_manyOf_25 rfl hl (Nat.le_of_ble_eq_true rfl) rfl (fun ls hl => ?_)
  refine lv_iinc (v := (v2 + (1 : Int32))) (lv' := [(2, .int (v2 + (1 : Int32))), (1, .int (w0 + w1)), (0, .ref (gB g + v0))]) hx hb dX9_manyOf_26 hl (k := 2) rfl rfl (Nat.le_of_ble_eq_true rfl) rfl (fun ls hl => ?_)
  refine lv_goto (tgt := 4) hx hb dX9_manyOf_29 (by decide) ?_
  exact hk_4 _ _ _ _ _ _ hf p e s m args below meth c _ _ _ _ _ E hR hS (lv_sub hl [2, 1, 0] rfl) hc hs
set_option maxRecDepth 100000 in
def f_X9_manyOf_4 : Nat → Nat → Int32 → Int32 → Mm → Option (Int32 × Mm)
  | 0, _, _, _, _ => none
  | n + 1, v0, v1, v2, σ =>
    if (100 : Int32) ≤ v2 then (some (v1, σ)) else (zck (kA σ 1 v0 v2) (if (mD σ v0 (ix v2)) = (-9 : Int32) then (f_X9_manyOf_24 (f_X9_manyOf_4 n) v0 v2 v1 (0 : Int32) σ) else (f_X9_manyOf_24 (f_X9_manyOf_4 n) v0 v2 v1 (1 : Int32) σ)))
set_option maxRecDepth 100000 in
set_option maxHeartbeats 4000000 in
theorem V_X9_manyOf_4 {g : GG} : ∀ (n : Nat) (v0 : Nat) (v1 : Int32) (v2 : Int32) (σ : Mm) (r : Int32) (σ' : Mm), f_X9_manyOf_4 n v0 v1 v2 σ = some (r, σ') → VJ g RX9 cX9_manyOf 3 (some .int) false rm_X9_manyOf (some (.int r)) σ' (0) (0) 4 [(0, .ref (gB g + v0)), (1, .int v1), (2, .int v2)] [] σ := by
  intro n
  induction n with
  | zero =>
    intro v0 v1 v2 σ r σ' hf
    unfold f_X9_manyOf_4 at hf
    cases hf
  | succ n ih =>
    intro v0 v1 v2 σ r σ' hf p e s m args below meth c H locs cells slots ls E hR hS hl hc hs
    obtain ⟨hx, hb, hml, hr, hlocks, hown, hts, hin, hT⟩ := id E
    unfold f_X9_manyOf_4 at hf
    refine lv_iload_n hx hb dX9_manyOf_4 rfl (lv_at hl 2 rfl) ?_
    refine lv_bipush (v := (100 : Int32)) hx hb dX9_manyOf_5 rfl ?_
    refine lv_icmp_ge (tgt := 32) hx hb dX9_manyOf_7 (by decide) (fun hq1 => ?_) (fun hq1 => ?_)
    · have hf := ite_p hq1 hf
      refine lv_iload_n hx hb dX9_manyOf_32 rfl (lv_at hl 1 rfl) ?_
      obtain ⟨hr1, hs1⟩ := Prod.mk.inj (Option.some.inj hf)
      exact xr_i E hR hS rfl (by rw [hr1]) hs1.symm hc hs dX9_manyOf_33
    · have hf := ite_n hq1 hf
      refine lv_iload_n hx hb dX9_manyOf_10 rfl (lv_at hl 1 rfl) ?_
      refine lv_aload_n hx hb dX9_manyOf_11 rfl (lv_at hl 0 rfl) ?_
      refine lv_iload_n hx hb dX9_manyOf_12 rfl (lv_at hl 2 rfl) ?_
      obtain ⟨hk2, hf⟩ := zc_s hf
      refine x_ild E hR hk2 dX9_manyOf_13 ?_
      refine lv_bipush (v := (-9 : Int32)) hx hb dX9_manyOf_14 rfl ?_
      refine lv_icmp_ne (tgt := 23) hx hb dX9_manyOf_16 (by decide) (fun hq3 => ?_) (fun hq3 => ?_)
      · have hf := ite_n hq3 hf
        refine lv_iconst (v := (1 : Int32)) hx hb dX9_manyOf_23 rfl ?_
        exact V_X9_manyOf_24 _ ih _ _ _ _ _ _ _ hf p e s m args below meth c _ _ _ _ _ E hR hS (lv_sub hl [0, 2] rfl) hc hs
      · have hf := ite_p hq3 hf
        refine lv_iconst (v := (0 : Int32)) hx hb dX9_manyOf_19 rfl ?_
        refine lv_goto (tgt := 24) hx hb dX9_manyOf_20 (by decide) ?_
        exact V_X9_manyOf_24 _ ih _ _ _ _ _ _ _ hf p e s m args below meth c _ _ _ _ _ E hR hS (lv_sub hl [0, 2] rfl) hc hs
set_option maxRecDepth 100000 in
def f_X9_manyOf (v0 : Nat) (σ : Mm) : Option (Int32 × Mm) :=
  f_X9_manyOf_4 1000 v0 (0 : Int32) (0 : Int32) σ
set_option maxRecDepth 100000 in
set_option maxHeartbeats 4000000 in
theorem V_X9_manyOf_0 {g : GG} (v0 : Nat) (σ : Mm) (r : Int32) (σ' : Mm) (hf : f_X9_manyOf v0 σ = some (r, σ')) : VJ g RX9 cX9_manyOf 3 (some .int) false rm_X9_manyOf (some (.int r)) σ' (0) (0) 0 [(0, .ref (gB g + v0))] [] σ := by
  intro p e s m args below meth c H locs cells slots ls E hR hS hl hc hs
  obtain ⟨hx, hb, hml, hr, hlocks, hown, hts, hin, hT⟩ := id E
  unfold f_X9_manyOf at hf
  refine lv_iconst (v := (0 : Int32)) hx hb dX9_manyOf_0 rfl ?_
  refine lv_istore_n (lv' := [(1, .int (0 : Int32)), (0, .ref (gB g + v0))]) hx hb dX9_manyOf_1 rfl hl (Nat.le_of_ble_eq_true rfl) rfl (fun ls hl => ?_)
  refine lv_iconst (v := (0 : Int32)) hx hb dX9_manyOf_2 rfl ?_
  refine lv_istore_n (lv' := [(2, .int (0 : Int32)), (1, .int (0 : Int32)), (0, .ref (gB g + v0))]) hx hb dX9_manyOf_3 rfl hl (Nat.le_of_ble_eq_true rfl) rfl (fun ls hl => ?_)
  exact V_X9_manyOf_4  1000 _ _ _ _ _ _ hf p e s m args below meth c _ _ _ _ _ E hR hS (lv_sub hl [2, 1, 0] rfl) hc hs
theorem C_X9_manyOf {g : GG} {v0 : Nat} {σ : Mm} {r : Int32} {σ' : Mm} (hf : f_X9_manyOf v0 σ = some (r, σ')) : Ct g yX9_manyOf cX9_manyOf 3 (some .int) rm_X9_manyOf [.ref (gB g + v0)] σ (some (.int r)) σ' :=
  Ct.of false (by decide +kernel) (fun h => by cases h) (Nat.le_of_ble_eq_true rfl) (V_X9_manyOf_0 _ _ _ _ hf)
abbrev rm_X9_want : Room := { frames := 0, cells := 0, slots := 0, locals := 0 }
set_option maxRecDepth 100000 in
def f_X9_want (v0 : Nat) (v1 : Int32) (v2 : Int32) (v3 : Int32) (v4 : Int32) (σ : Mm) : Option (Unit × Mm) :=
  zck (kO σ v0 9) (zrb (mR σ v0 17) (fun b2 => zck (kA σ 1 b2 (mD σ v0 21)) (zlt (sD σ b2 (ix (mD σ v0 21)) v1) (fun σ4 => zrb (mR σ4 v0 18) (fun b5 => zck (kA σ4 1 b5 (mD σ4 v0 21)) (zlt (sD σ4 b5 (ix (mD σ4 v0 21)) v2) (fun σ7 => zrb (mR σ7 v0 19) (fun b8 => zck (kA σ7 1 b8 (mD σ7 v0 21)) (zlt (sD σ7 b8 (ix (mD σ7 v0 21)) v3) (fun σ10 => zrb (mR σ10 v0 20) (fun b11 => zck (kA σ10 1 b11 (mD σ10 v0 21)) (zlt (sD σ10 b11 (ix (mD σ10 v0 21)) v4) (fun σ13 => zlt (sD σ13 v0 21 ((mD σ13 v0 21) + (1 : Int32))) (fun σ14 => some ((), σ14)))))))))))))))
set_option maxRecDepth 100000 in
set_option maxHeartbeats 4000000 in
theorem V_X9_want_0 {g : GG} (v0 : Nat) (v1 : Int32) (v2 : Int32) (v3 : Int32) (v4 : Int32) (σ : Mm) (r : Unit) (σ' : Mm) (hf : f_X9_want v0 v1 v2 v3 v4 σ = some (r, σ')) : VJ g RX9 cX9_want 5 none false rm_X9_want none σ' (0) (0) 0 [(0, .ref (gB g + v0)), (1, .int v1), (2, .int v2), (3, .int v3), (4, .int v4)] [] σ := by
  intro p e s m args below meth c H locs cells slots ls E hR hS hl hc hs
  obtain ⟨hx, hb, hml, hr, hlocks, hown, hts, hin, hT⟩ := id E
  unfold f_X9_want at hf
  refine lv_aload_n hx hb dX9_want_0 rfl (lv_at hl 0 rfl) ?_
  obtain ⟨hk1, hf⟩ := zc_s hf
  obtain ⟨b2, hb2, hf⟩ := zr_s hf
  refine x_getR E hR hk1 hb2 ok9 (Nat.le_of_ble_eq_true rfl) rfl fl_X9_56 dX9_want_1 ?_
  refine lv_aload_n hx hb dX9_want_4 rfl (lv_at hl 0 rfl) ?_
  refine x_getI E hR hk1 ok9 21 (Nat.le_of_ble_eq_true rfl) rfl fl_X9_145 dX9_want_5 ?_
  refine lv_iload_n hx hb dX9_want_8 rfl (lv_at hl 1 rfl) ?_
  obtain ⟨hk3, hf⟩ := zc_s hf
  obtain ⟨σ4, eσ4, hf⟩ := zl_s hf
  refine x_ist E hR hS hk3 dX9_want_9 (fun H locs hR hS => ?_)
  rw [← eσ4] at hR
  refine lv_aload_n hx hb dX9_want_10 rfl (lv_at hl 0 rfl) ?_
  obtain ⟨b5, hb5, hf⟩ := zr_s hf
  refine x_getR E hR (by rw [eσ4]; exact hk1) hb5 ok9 (Nat.le_of_ble_eq_true rfl) rfl fl_X9_59 dX9_want_11 ?_
  refine lv_aload_n hx hb dX9_want_14 rfl (lv_at hl 0 rfl) ?_
  refine x_getI E hR (by rw [eσ4]; exact hk1) ok9 21 (Nat.le_of_ble_eq_true rfl) rfl fl_X9_145 dX9_want_15 ?_
  refine lv_iload_n hx hb dX9_want_18 rfl (lv_at hl 2 rfl) ?_
  obtain ⟨hk6, hf⟩ := zc_s hf
  obtain ⟨σ7, eσ7, hf⟩ := zl_s hf
  refine x_ist E hR hS hk6 dX9_want_19 (fun H locs hR hS => ?_)
  rw [← eσ7] at hR
  refine lv_aload_n hx hb dX9_want_20 rfl (lv_at hl 0 rfl) ?_
  obtain ⟨b8, hb8, hf⟩ := zr_s hf
  refine x_getR E hR (by rw [eσ7, eσ4]; exact hk1) hb8 ok9 (Nat.le_of_ble_eq_true rfl) rfl fl_X9_62 dX9_want_21 ?_
  refine lv_aload_n hx hb dX9_want_24 rfl (lv_at hl 0 rfl) ?_
  refine x_getI E hR (by rw [eσ7, eσ4]; exact hk1) ok9 21 (Nat.le_of_ble_eq_true rfl) rfl fl_X9_145 dX9_want_25 ?_
  refine lv_iload_n hx hb dX9_want_28 rfl (lv_at hl 3 rfl) ?_
  obtain ⟨hk9, hf⟩ := zc_s hf
  obtain ⟨σ10, eσ10, hf⟩ := zl_s hf
  refine x_ist E hR hS hk9 dX9_want_29 (fun H locs hR hS => ?_)
  rw [← eσ10] at hR
  refine lv_aload_n hx hb dX9_want_30 rfl (lv_at hl 0 rfl) ?_
  obtain ⟨b11, hb11, hf⟩ := zr_s hf
  refine x_getR E hR (by rw [eσ10, eσ7, eσ4]; exact hk1) hb11 ok9 (Nat.le_of_ble_eq_true rfl) rfl fl_X9_65 dX9_want_31 ?_
  refine lv_aload_n hx hb dX9_want_34 rfl (lv_at hl 0 rfl) ?_
  refine x_getI E hR (by rw [eσ10, eσ7, eσ4]; exact hk1) ok9 21 (Nat.le_of_ble_eq_true rfl) rfl fl_X9_145 dX9_want_35 ?_
  refine lv_iload hx hb dX9_want_38 (lv_at hl 4 rfl) ?_
  obtain ⟨hk12, hf⟩ := zc_s hf
  obtain ⟨σ13, eσ13, hf⟩ := zl_s hf
  refine x_ist E hR hS hk12 dX9_want_40 (fun H locs hR hS => ?_)
  rw [← eσ13] at hR
  refine lv_aload_n hx hb dX9_want_41 rfl (lv_at hl 0 rfl) ?_
  refine lv_dup hx hb dX9_want_42 rfl ?_
  refine x_getI E hR (by rw [eσ13, eσ10, eσ7, eσ4]; exact hk1) ok9 21 (Nat.le_of_ble_eq_true rfl) rfl fl_X9_145 dX9_want_43 ?_
  refine lv_iconst (v := (1 : Int32)) hx hb dX9_want_46 rfl ?_
  refine lv_iadd hx hb dX9_want_47 ?_
  obtain ⟨σ14, eσ14, hf⟩ := zl_s hf
  refine x_putI E hR hS (by rw [eσ13, eσ10, eσ7, eσ4]; exact hk1) ok9 21 (Nat.le_of_ble_eq_true rfl) rfl fl_X9_145 (Or.inl rfl) rfl rfl dX9_want_48 (fun H locs hR hS => ?_)
  rw [← eσ14] at hR
  obtain ⟨hr1, hs1⟩ := Prod.mk.inj (Option.some.inj hf)
  exact xr_v E hR hS rfl rfl hs1.symm hc hs dX9_want_51
theorem C_X9_want {g : GG} {v0 : Nat} {v1 : Int32} {v2 : Int32} {v3 : Int32} {v4 : Int32} {σ : Mm} {r : Unit} {σ' : Mm} (hf : f_X9_want v0 v1 v2 v3 v4 σ = some (r, σ')) : Ct g yX9_want cX9_want 5 none rm_X9_want [.ref (gB g + v0), .int v1, .int v2, .int v3, .int v4] σ none σ' :=
  Ct.of false (by decide +kernel) (fun h => by cases h) (Nat.le_of_ble_eq_true rfl) (V_X9_want_0 _ _ _ _ _ _ _ _ hf)
abbrev rm_X9_uppermost : Room := { frames := 2, cells := 0, slots := 0, locals := 43 }
set_option maxRecDepth 100000 in
def f_X9_uppermost_42 (k_6 : Nat → Int32 → Int32 → Int32 → Mm → Option (Int32 × Mm)) (v0 : Nat) (v2 : Int32) (v4 : Int32) (w0 : Int32) (σ : Mm) : Option (Int32 × Mm) :=
  k_6 v0 v2 w0 (v4 + (1 : Int32)) σ
set_option maxRecDepth 100000 in
set_option maxHeartbeats 4000000 in
theorem V_X9_uppermost_42 {g : GG} (k_6 : Nat → Int32 → Int32 → Int32 → Mm → Option (Int32 × Mm)) (hk_6 : ∀ (v0 : Nat) (v2 : Int32) (v3 : Int32) (v4 : Int32) (σ : Mm) (r : Int32) (σ' : Mm), k_6 v0 v2 v3 v4 σ = some (r, σ') → VJ g RX9 cX9_uppermost 5 (some .int) false rm_X9_uppermost (some (.int r)) σ' (0) (0) 6 [(0, .ref (gB g + v0)), (2, .int v2), (3, .int v3), (4, .int v4)] [] σ) (v0 : Nat) (v2 : Int32) (v4 : Int32) (w0 : Int32) (σ : Mm) (r : Int32) (σ' : Mm) (hf : f_X9_uppermost_42 k_6 v0 v2 v4 w0 σ = some (r, σ')) : VJ g RX9 cX9_uppermost 5 (some .int) false rm_X9_uppermost (some (.int r)) σ' (0) (0) 42 [(0, .ref (gB g + v0)), (2, .int v2), (4, .int v4)] [.int w0] σ := by
  intro p e s m args below meth c H locs cells slots ls E hR hS hl hc hs
  obtain ⟨hx, hb, hml, hr, hlocks, hown, hts, hin, hT⟩ := id E
  unfold f_X9_uppermost_42 at hf
  refine lv_istore_n (lv' := [(3, .int w0), (0, .ref (gB g + v0)), (2, .int v2), (4, .int v4)]) hx hb dX9_uppermost_42 rfl hl (Nat.le_of_ble_eq_true rfl) rfl (fun ls hl => ?_)
  refine lv_iinc (v := (v4 + (1 : Int32))) (lv' := [(4, .int (v4 + (1 : Int32))), (3, .int w0), (0, .ref (gB g + v0)), (2, .int v2)]) hx hb dX9_uppermost_43 hl (k := 3) rfl rfl (Nat.le_of_ble_eq_true rfl) rfl (fun ls hl => ?_)
  refine lv_goto (tgt := 6) hx hb dX9_uppermost_46 (by decide) ?_
  exact hk_6 _ _ _ _ _ _ _ hf p e s m args below meth c _ _ _ _ _ E hR hS (lv_sub hl [2, 3, 1, 0] rfl) hc hs
set_option maxRecDepth 100000 in
def f_X9_uppermost_36 (k_6 : Nat → Int32 → Int32 → Int32 → Mm → Option (Int32 × Mm)) (v0 : Nat) (v2 : Int32) (v4 : Int32) (σ : Mm) : Option (Int32 × Mm) :=
  f_X9_uppermost_42 k_6 v0 v2 v4 v4 σ
set_option maxRecDepth 100000 in
set_option maxHeartbeats 4000000 in
theorem V_X9_uppermost_36 {g : GG} (k_6 : Nat → Int32 → Int32 → Int32 → Mm → Option (Int32 × Mm)) (hk_6 : ∀ (v0 : Nat) (v2 : Int32) (v3 : Int32) (v4 : Int32) (σ : Mm) (r : Int32) (σ' : Mm), k_6 v0 v2 v3 v4 σ = some (r, σ') → VJ g RX9 cX9_uppermost 5 (some .int) false rm_X9_uppermost (some (.int r)) σ' (0) (0) 6 [(0, .ref (gB g + v0)), (2, .int v2), (3, .int v3), (4, .int v4)] [] σ) (v0 : Nat) (v2 : Int32) (v4 : Int32) (σ : Mm) (r : Int32) (σ' : Mm) (hf : f_X9_uppermost_36 k_6 v0 v2 v4 σ = some (r, σ')) : VJ g RX9 cX9_uppermost 5 (some .int) false rm_X9_uppermost (some (.int r)) σ' (0) (0) 36 [(0, .ref (gB g + v0)), (2, .int v2), (4, .int v4)] [] σ := by
  intro p e s m args below meth c H locs cells slots ls E hR hS hl hc hs
  obtain ⟨hx, hb, hml, hr, hlocks, hown, hts, hin, hT⟩ := id E
  unfold f_X9_uppermost_36 at hf
  refine lv_iload hx hb dX9_uppermost_36 (lv_at hl 2 rfl) ?_
  refine lv_goto (tgt := 42) hx hb dX9_uppermost_38 (by decide) ?_
  exact V_X9_uppermost_42 _ hk_6 _ _ _ _ _ _ _ hf p e s m args below meth c _ _ _ _ _ E hR hS (lv_sub hl [0, 1, 2] rfl) hc hs
set_option maxRecDepth 100000 in
def f_X9_uppermost_41 (k_6 : Nat → Int32 → Int32 → Int32 → Mm → Option (Int32 × Mm)) (v0 : Nat) (v2 : Int32) (v3 : Int32) (v4 : Int32) (σ : Mm) : Option (Int32 × Mm) :=
  f_X9_uppermost_42 k_6 v0 v2 v4 v3 σ
set_option maxRecDepth 100000 in
set_option maxHeartbeats 4000000 in
theorem V_X9_uppermost_41 {g : GG} (k_6 : Nat → Int32 → Int32 → Int32 → Mm → Option (Int32 × Mm)) (hk_6 : ∀ (v0 : Nat) (v2 : Int32) (v3 : Int32) (v4 : Int32) (σ : Mm) (r : Int32) (σ' : Mm), k_6 v0 v2 v3 v4 σ = some (r, σ') → VJ g RX9 cX9_uppermost 5 (some .int) false rm_X9_uppermost (some (.int r)) σ' (0) (0) 6 [(0, .ref (gB g + v0)), (2, .int v2), (3, .int v3), (4, .int v4)] [] σ) (v0 : Nat) (v2 : Int32) (v3 : Int32) (v4 : Int32) (σ : Mm) (r : Int32) (σ' : Mm) (hf : f_X9_uppermost_41 k_6 v0 v2 v3 v4 σ = some (r, σ')) : VJ g RX9 cX9_uppermost 5 (some .int) false rm_X9_uppermost (some (.int r)) σ' (0) (0) 41 [(0, .ref (gB g + v0)), (2, .int v2), (3, .int v3), (4, .int v4)] [] σ := by
  intro p e s m args below meth c H locs cells slots ls E hR hS hl hc hs
  obtain ⟨hx, hb, hml, hr, hlocks, hown, hts, hin, hT⟩ := id E
  unfold f_X9_uppermost_41 at hf
  refine lv_iload_n hx hb dX9_uppermost_41 rfl (lv_at hl 2 rfl) ?_
  exact V_X9_uppermost_42 _ hk_6 _ _ _ _ _ _ _ hf p e s m args below meth c _ _ _ _ _ E hR hS (lv_sub hl [0, 1, 3] rfl) hc hs
set_option maxRecDepth 100000 in
def f_X9_uppermost_6 : Nat → Nat → Int32 → Int32 → Int32 → Mm → Option (Int32 × Mm)
  | 0, _, _, _, _, _ => none
  | n + 1, v0, v2, v3, v4, σ =>
    if v2 < v4 then (some (v3, σ)) else (zck (kA σ 1 v0 v4) (if (mD σ v0 (ix v4)) = (-9 : Int32) then (f_X9_uppermost_41 (f_X9_uppermost_6 n) v0 v2 v3 v4 σ) else (if v3 = (-9 : Int32) then (f_X9_uppermost_36 (f_X9_uppermost_6 n) v0 v2 v4 σ) else (zcb (f_X9_isAbove v4 v3 σ) (fun r5 σ6 => if r5 = 0 then (f_X9_uppermost_41 (f_X9_uppermost_6 n) v0 v2 v3 v4 σ6) else (f_X9_uppermost_36 (f_X9_uppermost_6 n) v0 v2 v4 σ6))))))
set_option maxRecDepth 100000 in
set_option maxHeartbeats 4000000 in
theorem V_X9_uppermost_6 {g : GG} : ∀ (n : Nat) (v0 : Nat) (v2 : Int32) (v3 : Int32) (v4 : Int32) (σ : Mm) (r : Int32) (σ' : Mm), f_X9_uppermost_6 n v0 v2 v3 v4 σ = some (r, σ') → VJ g RX9 cX9_uppermost 5 (some .int) false rm_X9_uppermost (some (.int r)) σ' (0) (0) 6 [(0, .ref (gB g + v0)), (2, .int v2), (3, .int v3), (4, .int v4)] [] σ := by
  intro n
  induction n with
  | zero =>
    intro v0 v2 v3 v4 σ r σ' hf
    unfold f_X9_uppermost_6 at hf
    cases hf
  | succ n ih =>
    intro v0 v2 v3 v4 σ r σ' hf p e s m args below meth c H locs cells slots ls E hR hS hl hc hs
    obtain ⟨hx, hb, hml, hr, hlocks, hown, hts, hin, hT⟩ := id E
    unfold f_X9_uppermost_6 at hf
    refine lv_iload hx hb dX9_uppermost_6 (lv_at hl 3 rfl) ?_
    refine lv_iload_n hx hb dX9_uppermost_8 rfl (lv_at hl 1 rfl) ?_
    refine lv_icmp_gt (tgt := 49) hx hb dX9_uppermost_9 (by decide) (fun hq1 => ?_) (fun hq1 => ?_)
    · have hf := ite_p hq1 hf
      refine lv_iload_n hx hb dX9_uppermost_49 rfl (lv_at hl 2 rfl) ?_
      obtain ⟨hr1, hs1⟩ := Prod.mk.inj (Option.some.inj hf)
      exact xr_i E hR hS rfl (by rw [hr1]) hs1.symm hc hs dX9_uppermost_50
    · have hf := ite_n hq1 hf
      refine lv_aload_n hx hb dX9_uppermost_12 rfl (lv_at hl 0 rfl) ?_
      refine lv_iload hx hb dX9_uppermost_13 (lv_at hl 3 rfl) ?_
      obtain ⟨hk2, hf⟩ := zc_s hf
      refine x_ild E hR hk2 dX9_uppermost_15 ?_
      refine lv_bipush (v := (-9 : Int32)) hx hb dX9_uppermost_16 rfl ?_
      refine lv_icmp_eq (tgt := 41) hx hb dX9_uppermost_18 (by decide) (fun hq3 => ?_) (fun hq3 => ?_)
      · have hf := ite_p hq3 hf
        exact V_X9_uppermost_41 _ ih _ _ _ _ _ _ _ hf p e s m args below meth c _ _ _ _ _ E hR hS (lv_sub hl [0, 1, 2, 3] rfl) hc hs
      · have hf := ite_n hq3 hf
        refine lv_iload_n hx hb dX9_uppermost_21 rfl (lv_at hl 2 rfl) ?_
        refine lv_bipush (v := (-9 : Int32)) hx hb dX9_uppermost_22 rfl ?_
        refine lv_icmp_eq (tgt := 36) hx hb dX9_uppermost_24 (by decide) (fun hq4 => ?_) (fun hq4 => ?_)
        · have hf := ite_p hq4 hf
          exact V_X9_uppermost_36 _ ih _ _ _ _ _ _ hf p e s m args below meth c _ _ _ _ _ E hR hS (lv_sub hl [0, 1, 3] rfl) hc hs
        · have hf := ite_n hq4 hf
          refine lv_iload hx hb dX9_uppermost_27 (lv_at hl 3 rfl) ?_
          refine lv_iload_n hx hb dX9_uppermost_29 rfl (lv_at hl 2 rfl) ?_
          obtain ⟨r5, σ6, hcr5, hf⟩ := zq_s hf
          refine xS (As := [.int v4, .int v3]) (rest := []) (st1 := [.int r5]) E hR hS hl (C_X9_isAbove hcr5) lb_X9_isAbove ls_X9_isAbove ml_X9_149 ⟨Nat.le_of_ble_eq_true rfl, Nat.le_of_ble_eq_true rfl⟩ rfl rfl rfl (Nat.le_of_ble_eq_true rfl) dX9_uppermost_30 ⟨hc, hs⟩ (fun H locs hR hS => ?_)
          refine lv_if_eq (tgt := 41) hx hb dX9_uppermost_33 (by decide) (fun hq7 => ?_) (fun hq7 => ?_)
          · have hf := ite_p hq7 hf
            exact V_X9_uppermost_41 _ ih _ _ _ _ _ _ _ hf p e s m args below meth c _ _ _ _ _ E hR hS (lv_sub hl [0, 1, 2, 3] rfl) hc hs
          · have hf := ite_n hq7 hf
            exact V_X9_uppermost_36 _ ih _ _ _ _ _ _ hf p e s m args below meth c _ _ _ _ _ E hR hS (lv_sub hl [0, 1, 3] rfl) hc hs
set_option maxRecDepth 100000 in
def f_X9_uppermost (v0 : Nat) (v1 : Int32) (v2 : Int32) (σ : Mm) : Option (Int32 × Mm) :=
  f_X9_uppermost_6 1000 v0 v2 (-9 : Int32) v1 σ
set_option maxRecDepth 100000 in
set_option maxHeartbeats 4000000 in
theorem V_X9_uppermost_0 {g : GG} (v0 : Nat) (v1 : Int32) (v2 : Int32) (σ : Mm) (r : Int32) (σ' : Mm) (hf : f_X9_uppermost v0 v1 v2 σ = some (r, σ')) : VJ g RX9 cX9_uppermost 5 (some .int) false rm_X9_uppermost (some (.int r)) σ' (0) (0) 0 [(0, .ref (gB g + v0)), (1, .int v1), (2, .int v2)] [] σ := by
  intro p e s m args below meth c H locs cells slots ls E hR hS hl hc hs
  obtain ⟨hx, hb, hml, hr, hlocks, hown, hts, hin, hT⟩ := id E
  unfold f_X9_uppermost at hf
  refine lv_bipush (v := (-9 : Int32)) hx hb dX9_uppermost_0 rfl ?_
  refine lv_istore_n (lv' := [(3, .int (-9 : Int32)), (0, .ref (gB g + v0)), (1, .int v1), (2, .int v2)]) hx hb dX9_uppermost_2 rfl hl (Nat.le_of_ble_eq_true rfl) rfl (fun ls hl => ?_)
  refine lv_iload_n hx hb dX9_uppermost_3 rfl (lv_at hl 2 rfl) ?_
  refine lv_istore (lv' := [(4, .int v1), (3, .int (-9 : Int32)), (0, .ref (gB g + v0)), (1, .int v1), (2, .int v2)]) hx hb dX9_uppermost_4 hl (Nat.le_of_ble_eq_true rfl) rfl (fun ls hl => ?_)
  exact V_X9_uppermost_6  1000 _ _ _ _ _ _ _ hf p e s m args below meth c _ _ _ _ _ E hR hS (lv_sub hl [2, 4, 1, 0] rfl) hc hs
theorem C_X9_uppermost {g : GG} {v0 : Nat} {v1 : Int32} {v2 : Int32} {σ : Mm} {r : Int32} {σ' : Mm} (hf : f_X9_uppermost v0 v1 v2 σ = some (r, σ')) : Ct g yX9_uppermost cX9_uppermost 5 (some .int) rm_X9_uppermost [.ref (gB g + v0), .int v1, .int v2] σ (some (.int r)) σ' :=
  Ct.of false (by decide +kernel) (fun h => by cases h) (Nat.le_of_ble_eq_true rfl) (V_X9_uppermost_0 _ _ _ _ _ _ hf)
abbrev rm_X9_make : Room := { frames := 3, cells := 0, slots := 0, locals := 67 }
set_option maxRecDepth 100000 in
def f_X9_make_259 (k_31 : Nat → Nat → Int32 → Int32 → Int32 → Mm → Option (Unit × Mm)) (v0 : Nat) (v1 : Nat) (v2 : Int32) (v3 : Int32) (v4 : Int32) (σ : Mm) : Option (Unit × Mm) :=
  k_31 v0 v1 v2 v3 v4 σ
set_option maxRecDepth 100000 in
set_option maxHeartbeats 4000000 in
theorem V_X9_make_259 {g : GG} (k_31 : Nat → Nat → Int32 → Int32 → Int32 → Mm → Option (Unit × Mm)) (hk_31 : ∀ (v0 : Nat) (v1 : Nat) (v2 : Int32) (v3 : Int32) (v4 : Int32) (σ : Mm) (r : Unit) (σ' : Mm), k_31 v0 v1 v2 v3 v4 σ = some (r, σ') → VJ g RX9 cX9_make 10 none false rm_X9_make none σ' (0) (0) 31 [(0, .ref (gB g + v0)), (1, .ref (gB g + v1)), (2, .int v2), (3, .int v3), (4, .int v4)] [] σ) (v0 : Nat) (v1 : Nat) (v2 : Int32) (v3 : Int32) (v4 : Int32) (σ : Mm) (r : Unit) (σ' : Mm) (hf : f_X9_make_259 k_31 v0 v1 v2 v3 v4 σ = some (r, σ')) : VJ g RX9 cX9_make 10 none false rm_X9_make none σ' (0) (0) 259 [(0, .ref (gB g + v0)), (1, .ref (gB g + v1)), (2, .int v2), (3, .int v3), (4, .int v4)] [] σ := by
  intro p e s m args below meth c H locs cells slots ls E hR hS hl hc hs
  obtain ⟨hx, hb, hml, hr, hlocks, hown, hts, hin, hT⟩ := id E
  unfold f_X9_make_259 at hf
  refine lv_goto (tgt := 31) hx hb dX9_make_259 (by decide) ?_
  exact hk_31 _ _ _ _ _ _ _ _ hf p e s m args below meth c _ _ _ _ _ E hR hS (lv_sub hl [0, 1, 2, 3, 4] rfl) hc hs
set_option maxRecDepth 100000 in
def f_X9_make_210 (k_31 : Nat → Nat → Int32 → Int32 → Int32 → Mm → Option (Unit × Mm)) (v0 : Nat) (v1 : Nat) (v2 : Int32) (v3 : Int32) (v4 : Int32) (v5 : Int32) (v6 : Int32) (v9 : Int32) (w0 : Nat) (w1 : Int32) (w2 : Int32) (σ : Mm) : Option (Unit × Mm) :=
  zck (kA σ 1 w0 w1) (zlt (sD σ w0 (ix w1) w2) (fun σ2 => zck (kO σ2 v0 9) (zrb (mR σ2 v0 11) (fun b4 => zck (kA σ2 1 b4 (v3 + v9)) (zlt (sD σ2 b4 (ix (v3 + v9)) v5) (fun σ6 => zrb (mR σ6 v0 12) (fun b7 => zck (kA σ6 1 b7 (v3 + v9)) (zlt (sD σ6 b7 (ix (v3 + v9)) v6) (fun σ9 => zcb (f_X9_want v0 (v9 + (1 : Int32)) v6 v9 (1 : Int32) σ9) (fun r10 σ11 => zck (kO σ11 v0 9) (zcb (f_X9_want v0 v5 (v9 - (1 : Int32)) v9 (0 : Int32) σ11) (fun r13 σ14 => f_X9_make_259 k_31 v0 v1 v2 v3 v4 σ14))))))))))))
set_option maxRecDepth 100000 in
set_option maxHeartbeats 4000000 in
theorem V_X9_make_210 {g : GG} (k_31 : Nat → Nat → Int32 → Int32 → Int32 → Mm → Option (Unit × Mm)) (hk_31 : ∀ (v0 : Nat) (v1 : Nat) (v2 : Int32) (v3 : Int32) (v4 : Int32) (σ : Mm) (r : Unit) (σ' : Mm), k_31 v0 v1 v2 v3 v4 σ = some (r, σ') → VJ g RX9 cX9_make 10 none false rm_X9_make none σ' (0) (0) 31 [(0, .ref (gB g + v0)), (1, .ref (gB g + v1)), (2, .int v2), (3, .int v3), (4, .int v4)] [] σ) (v0 : Nat) (v1 : Nat) (v2 : Int32) (v3 : Int32) (v4 : Int32) (v5 : Int32) (v6 : Int32) (v9 : Int32) (w0 : Nat) (w1 : Int32) (w2 : Int32) (σ : Mm) (r : Unit) (σ' : Mm) (hf : f_X9_make_210 k_31 v0 v1 v2 v3 v4 v5 v6 v9 w0 w1 w2 σ = some (r, σ')) : VJ g RX9 cX9_make 10 none false rm_X9_make none σ' (0) (0) 210 [(0, .ref (gB g + v0)), (1, .ref (gB g + v1)), (2, .int v2), (3, .int v3), (4, .int v4), (5, .int v5), (6, .int v6), (9, .int v9)] [.int w2, .int w1, .ref (gB g + w0)] σ := by
  intro p e s m args below meth c H locs cells slots ls E hR hS hl hc hs
  obtain ⟨hx, hb, hml, hr, hlocks, hown, hts, hin, hT⟩ := id E
  unfold f_X9_make_210 at hf
  obtain ⟨hk1, hf⟩ := zc_s hf
  obtain ⟨σ2, eσ2, hf⟩ := zl_s hf
  refine x_ist E hR hS hk1 dX9_make_210 (fun H locs hR hS => ?_)
  rw [← eσ2] at hR
  refine lv_aload_n hx hb dX9_make_211 rfl (lv_at hl 0 rfl) ?_
  obtain ⟨hk3, hf⟩ := zc_s hf
  obtain ⟨b4, hb4, hf⟩ := zr_s hf
  refine x_getR E hR hk3 hb4 ok9 (Nat.le_of_ble_eq_true rfl) rfl fl_X9_38 dX9_make_212 ?_
  refine lv_iload_n hx hb dX9_make_215 rfl (lv_at hl 3 rfl) ?_
  refine lv_iload hx hb dX9_make_216 (lv_at hl 7 rfl) ?_
  refine lv_iadd hx hb dX9_make_218 ?_
  refine lv_iload hx hb dX9_make_219 (lv_at hl 5 rfl) ?_
  obtain ⟨hk5, hf⟩ := zc_s hf
  obtain ⟨σ6, eσ6, hf⟩ := zl_s hf
  refine x_ist E hR hS hk5 dX9_make_221 (fun H locs hR hS => ?_)
  rw [← eσ6] at hR
  refine lv_aload_n hx hb dX9_make_222 rfl (lv_at hl 0 rfl) ?_
  obtain ⟨b7, hb7, hf⟩ := zr_s hf
  refine x_getR E hR (by rw [eσ6]; exact hk3) hb7 ok9 (Nat.le_of_ble_eq_true rfl) rfl fl_X9_41 dX9_make_223 ?_
  refine lv_iload_n hx hb dX9_make_226 rfl (lv_at hl 3 rfl) ?_
  refine lv_iload hx hb dX9_make_227 (lv_at hl 7 rfl) ?_
  refine lv_iadd hx hb dX9_make_229 ?_
  refine lv_iload hx hb dX9_make_230 (lv_at hl 6 rfl) ?_
  obtain ⟨hk8, hf⟩ := zc_s hf
  obtain ⟨σ9, eσ9, hf⟩ := zl_s hf
  refine x_ist E hR hS hk8 dX9_make_232 (fun H locs hR hS => ?_)
  rw [← eσ9] at hR
  refine lv_aload_n hx hb dX9_make_233 rfl (lv_at hl 0 rfl) ?_
  refine lv_iload hx hb dX9_make_234 (lv_at hl 7 rfl) ?_
  refine lv_iconst (v := (1 : Int32)) hx hb dX9_make_236 rfl ?_
  refine lv_iadd hx hb dX9_make_237 ?_
  refine lv_iload hx hb dX9_make_238 (lv_at hl 6 rfl) ?_
  refine lv_iload hx hb dX9_make_240 (lv_at hl 7 rfl) ?_
  refine lv_iconst (v := (1 : Int32)) hx hb dX9_make_242 rfl ?_
  obtain ⟨r10, σ11, hcr10, hf⟩ := zq_s hf
  refine xV (As := [.int (v9 + (1 : Int32)), .int v6, .int v9, .int (1 : Int32)]) (rest := []) (st1 := []) E hR hS hl (C_X9_want hcr10) (by rw [eσ9, eσ6]; exact hk3) ok9 lb_X9_want lv_X9_want ml_X9_153 ⟨Nat.le_of_ble_eq_true rfl, Nat.le_of_ble_eq_true rfl⟩ rfl rfl rfl (Nat.le_of_ble_eq_true rfl) dX9_make_243 ⟨hc, hs⟩ (fun H locs hR hS => ?_)
  refine lv_aload_n hx hb dX9_make_246 rfl (lv_at hl 0 rfl) ?_
  refine lv_iload hx hb dX9_make_247 (lv_at hl 5 rfl) ?_
  refine lv_iload hx hb dX9_make_249 (lv_at hl 7 rfl) ?_
  refine lv_iconst (v := (1 : Int32)) hx hb dX9_make_251 rfl ?_
  refine lv_isub hx hb dX9_make_252 ?_
  refine lv_iload hx hb dX9_make_253 (lv_at hl 7 rfl) ?_
  refine lv_iconst (v := (0 : Int32)) hx hb dX9_make_255 rfl ?_
  obtain ⟨hk12, hf⟩ := zc_s hf
  obtain ⟨r13, σ14, hcr13, hf⟩ := zq_s hf
  refine xV (As := [.int v5, .int (v9 - (1 : Int32)), .int v9, .int (0 : Int32)]) (rest := []) (st1 := []) E hR hS hl (C_X9_want hcr13) hk12 ok9 lb_X9_want lv_X9_want ml_X9_153 ⟨Nat.le_of_ble_eq_true rfl, Nat.le_of_ble_eq_true rfl⟩ rfl rfl rfl (Nat.le_of_ble_eq_true rfl) dX9_make_256 ⟨hc, hs⟩ (fun H locs hR hS => ?_)
  exact V_X9_make_259 _ hk_31 _ _ _ _ _ _ _ _ hf p e s m args below meth c _ _ _ _ _ E hR hS (lv_sub hl [0, 1, 2, 3, 4] rfl) hc hs
set_option maxRecDepth 100000 in
def f_X9_make_150 (k_31 : Nat → Nat → Int32 → Int32 → Int32 → Mm → Option (Unit × Mm)) (v0 : Nat) (v1 : Nat) (v2 : Int32) (v3 : Int32) (v4 : Int32) (v5 : Int32) (v6 : Int32) (v7 : Int32) (v9 : Int32) (σ : Mm) : Option (Unit × Mm) :=
  if v9 = (-9 : Int32) then (f_X9_make_259 k_31 v0 v1 v2 v3 v4 σ) else (zck (kO σ v0 9) (zrb (mR σ v0 16) (fun b17 => zck (kA σ 1 b17 v4) (zlt (sD σ b17 (ix v4) v9) (fun σ19 => zrb (mR σ19 v0 7) (fun b20 => zck (kA σ19 1 b20 (v3 + v9)) (zlt (sD σ19 b20 (ix (v3 + v9)) v7) (fun σ22 => zrb (mR σ22 v0 10) (fun b23 => if v7 = (-9 : Int32) then (f_X9_make_210 k_31 v0 v1 v2 v3 (v4 + (1 : Int32)) v5 v6 v9 b23 (v3 + v9) (0 : Int32) σ22) else (zck (kA σ22 1 b23 (v3 + v7)) (f_X9_make_210 k_31 v0 v1 v2 v3 (v4 + (1 : Int32)) v5 v6 v9 b23 (v3 + v9) ((mD σ22 b23 (ix (v3 + v7))) + (1 : Int32)) σ22)))))))))))
set_option maxRecDepth 100000 in
set_option maxHeartbeats 4000000 in
theorem V_X9_make_150 {g : GG} (k_31 : Nat → Nat → Int32 → Int32 → Int32 → Mm → Option (Unit × Mm)) (hk_31 : ∀ (v0 : Nat) (v1 : Nat) (v2 : Int32) (v3 : Int32) (v4 : Int32) (σ : Mm) (r : Unit) (σ' : Mm), k_31 v0 v1 v2 v3 v4 σ = some (r, σ') → VJ g RX9 cX9_make 10 none false rm_X9_make none σ' (0) (0) 31 [(0, .ref (gB g + v0)), (1, .ref (gB g + v1)), (2, .int v2), (3, .int v3), (4, .int v4)] [] σ) (v0 : Nat) (v1 : Nat) (v2 : Int32) (v3 : Int32) (v4 : Int32) (v5 : Int32) (v6 : Int32) (v7 : Int32) (v9 : Int32) (σ : Mm) (r : Unit) (σ' : Mm) (hf : f_X9_make_150 k_31 v0 v1 v2 v3 v4 v5 v6 v7 v9 σ = some (r, σ')) : VJ g RX9 cX9_make 10 none false rm_X9_make none σ' (0) (0) 150 [(0, .ref (gB g + v0)), (1, .ref (gB g + v1)), (2, .int v2), (3, .int v3), (4, .int v4), (5, .int v5), (6, .int v6), (7, .int v7), (9, .int v9)] [] σ := by
  intro p e s m args below meth c H locs cells slots ls E hR hS hl hc hs
  obtain ⟨hx, hb, hml, hr, hlocks, hown, hts, hin, hT⟩ := id E
  unfold f_X9_make_150 at hf
  refine lv_iload hx hb dX9_make_150 (lv_at hl 8 rfl) ?_
  refine lv_bipush (v := (-9 : Int32)) hx hb dX9_make_152 rfl ?_
  refine lv_icmp_eq (tgt := 259) hx hb dX9_make_154 (by decide) (fun hq15 => ?_) (fun hq15 => ?_)
  · have hf := ite_p hq15 hf
    exact V_X9_make_259 _ hk_31 _ _ _ _ _ _ _ _ hf p e s m args below meth c _ _ _ _ _ E hR hS (lv_sub hl [0, 1, 2, 3, 4] rfl) hc hs
  · have hf := ite_n hq15 hf
    refine lv_aload_n hx hb dX9_make_157 rfl (lv_at hl 0 rfl) ?_
    obtain ⟨hk16, hf⟩ := zc_s hf
    obtain ⟨b17, hb17, hf⟩ := zr_s hf
    refine x_getR E hR hk16 hb17 ok9 (Nat.le_of_ble_eq_true rfl) rfl fl_X9_53 dX9_make_158 ?_
    refine lv_iload hx hb dX9_make_161 (lv_at hl 4 rfl) ?_
    refine lv_iload hx hb dX9_make_163 (lv_at hl 8 rfl) ?_
    obtain ⟨hk18, hf⟩ := zc_s hf
    obtain ⟨σ19, eσ19, hf⟩ := zl_s hf
    refine x_ist E hR hS hk18 dX9_make_165 (fun H locs hR hS => ?_)
    rw [← eσ19] at hR
    refine lv_iinc (v := (v4 + (1 : Int32))) (lv' := [(4, .int (v4 + (1 : Int32))), (0, .ref (gB g + v0)), (1, .ref (gB g + v1)), (2, .int v2), (3, .int v3), (5, .int v5), (6, .int v6), (7, .int v7), (9, .int v9)]) hx hb dX9_make_166 hl (k := 4) rfl rfl (Nat.le_of_ble_eq_true rfl) rfl (fun ls hl => ?_)
    refine lv_aload_n hx hb dX9_make_169 rfl (lv_at hl 1 rfl) ?_
    obtain ⟨b20, hb20, hf⟩ := zr_s hf
    refine x_getR E hR (by rw [eσ19]; exact hk16) hb20 ok9 (Nat.le_of_ble_eq_true rfl) rfl fl_X9_26 dX9_make_170 ?_
    refine lv_iload_n hx hb dX9_make_173 rfl (lv_at hl 4 rfl) ?_
    refine lv_iload hx hb dX9_make_174 (lv_at hl 8 rfl) ?_
    refine lv_iadd hx hb dX9_make_176 ?_
    refine lv_iload hx hb dX9_make_177 (lv_at hl 7 rfl) ?_
    obtain ⟨hk21, hf⟩ := zc_s hf
    obtain ⟨σ22, eσ22, hf⟩ := zl_s hf
    refine x_ist E hR hS hk21 dX9_make_179 (fun H locs hR hS => ?_)
    rw [← eσ22] at hR
    refine lv_aload_n hx hb dX9_make_180 rfl (lv_at hl 1 rfl) ?_
    obtain ⟨b23, hb23, hf⟩ := zr_s hf
    refine x_getR E hR (by rw [eσ22, eσ19]; exact hk16) hb23 ok9 (Nat.le_of_ble_eq_true rfl) rfl fl_X9_35 dX9_make_181 ?_
    refine lv_iload_n hx hb dX9_make_184 rfl (lv_at hl 4 rfl) ?_
    refine lv_iload hx hb dX9_make_185 (lv_at hl 8 rfl) ?_
    refine lv_iadd hx hb dX9_make_187 ?_
    refine lv_iload hx hb dX9_make_188 (lv_at hl 7 rfl) ?_
    refine lv_bipush (v := (-9 : Int32)) hx hb dX9_make_190 rfl ?_
    refine lv_icmp_ne (tgt := 199) hx hb dX9_make_192 (by decide) (fun hq24 => ?_) (fun hq24 => ?_)
    · have hf := ite_n hq24 hf
      refine lv_aload_n hx hb dX9_make_199 rfl (lv_at hl 1 rfl) ?_
      refine x_getR E hR (by rw [eσ22, eσ19]; exact hk16) hb23 ok9 (Nat.le_of_ble_eq_true rfl) rfl fl_X9_35 dX9_make_200 ?_
      refine lv_iload_n hx hb dX9_make_203 rfl (lv_at hl 4 rfl) ?_
      refine lv_iload hx hb dX9_make_204 (lv_at hl 7 rfl) ?_
      refine lv_iadd hx hb dX9_make_206 ?_
      obtain ⟨hk25, hf⟩ := zc_s hf
      refine x_ild E hR hk25 dX9_make_207 ?_
      refine lv_iconst (v := (1 : Int32)) hx hb dX9_make_208 rfl ?_
      refine lv_iadd hx hb dX9_make_209 ?_
      exact V_X9_make_210 _ hk_31 _ _ _ _ _ _ _ _ _ _ _ _ _ _ hf p e s m args below meth c _ _ _ _ _ E hR hS (lv_sub hl [1, 2, 3, 4, 0, 5, 6, 8] rfl) hc hs
    · have hf := ite_p hq24 hf
      refine lv_iconst (v := (0 : Int32)) hx hb dX9_make_195 rfl ?_
      refine lv_goto (tgt := 210) hx hb dX9_make_196 (by decide) ?_
      exact V_X9_make_210 _ hk_31 _ _ _ _ _ _ _ _ _ _ _ _ _ _ hf p e s m args below meth c _ _ _ _ _ E hR hS (lv_sub hl [1, 2, 3, 4, 0, 5, 6, 8] rfl) hc hs
set_option maxRecDepth 100000 in
def f_X9_make_410 (k_268 : Nat → Nat → Int32 → Int32 → Mm → Option (Unit × Mm)) (v0 : Nat) (v1 : Nat) (v3 : Int32) (v5 : Int32) (w0 : Nat) (w1 : Int32) (w2 : Int32) (w3 : Int32) (w4 : Int32) (w5 : Int32) (σ : Mm) : Option (Unit × Mm) :=
  zcb (f_X9_digestOf w2 w3 w4 w5 σ) (fun r26 σ27 => zck (kA σ27 1 w0 w1) (zlt (sD σ27 w0 (ix w1) r26) (fun σ29 => k_268 v0 v1 v3 (v5 + (-1 : Int32)) σ29)))
set_option maxRecDepth 100000 in
set_option maxHeartbeats 4000000 in
theorem V_X9_make_410 {g : GG} (k_268 : Nat → Nat → Int32 → Int32 → Mm → Option (Unit × Mm)) (hk_268 : ∀ (v0 : Nat) (v1 : Nat) (v3 : Int32) (v5 : Int32) (σ : Mm) (r : Unit) (σ' : Mm), k_268 v0 v1 v3 v5 σ = some (r, σ') → VJ g RX9 cX9_make 10 none false rm_X9_make none σ' (0) (0) 268 [(0, .ref (gB g + v0)), (1, .ref (gB g + v1)), (3, .int v3), (5, .int v5)] [] σ) (v0 : Nat) (v1 : Nat) (v3 : Int32) (v5 : Int32) (w0 : Nat) (w1 : Int32) (w2 : Int32) (w3 : Int32) (w4 : Int32) (w5 : Int32) (σ : Mm) (r : Unit) (σ' : Mm) (hf : f_X9_make_410 k_268 v0 v1 v3 v5 w0 w1 w2 w3 w4 w5 σ = some (r, σ')) : VJ g RX9 cX9_make 10 none false rm_X9_make none σ' (0) (0) 410 [(0, .ref (gB g + v0)), (1, .ref (gB g + v1)), (3, .int v3), (5, .int v5)] [.int w5, .int w4, .int w3, .int w2, .int w1, .ref (gB g + w0)] σ := by
  intro p e s m args below meth c H locs cells slots ls E hR hS hl hc hs
  obtain ⟨hx, hb, hml, hr, hlocks, hown, hts, hin, hT⟩ := id E
  unfold f_X9_make_410 at hf
  obtain ⟨r26, σ27, hcr26, hf⟩ := zq_s hf
  refine xS (As := [.int w2, .int w3, .int w4, .int w5]) (rest := [.int w1, .ref (gB g + w0)]) (st1 := [.int r26, .int w1, .ref (gB g + w0)]) E hR hS hl (C_X9_digestOf hcr26) lb_X9_digestOf ls_X9_digestOf ml_X9_161 ⟨Nat.le_of_ble_eq_true rfl, Nat.le_of_ble_eq_true rfl⟩ rfl rfl rfl (Nat.le_of_ble_eq_true rfl) dX9_make_410 ⟨hc, hs⟩ (fun H locs hR hS => ?_)
  obtain ⟨hk28, hf⟩ := zc_s hf
  obtain ⟨σ29, eσ29, hf⟩ := zl_s hf
  refine x_ist E hR hS hk28 dX9_make_413 (fun H locs hR hS => ?_)
  rw [← eσ29] at hR
  refine lv_iinc (v := (v5 + (-1 : Int32))) (lv' := [(5, .int (v5 + (-1 : Int32))), (0, .ref (gB g + v0)), (1, .ref (gB g + v1)), (3, .int v3)]) hx hb dX9_make_414 hl (k := 3) rfl rfl (Nat.le_of_ble_eq_true rfl) rfl (fun ls hl => ?_)
  refine lv_goto (tgt := 268) hx hb dX9_make_417 (by decide) ?_
  exact hk_268 _ _ _ _ _ _ _ hf p e s m args below meth c _ _ _ _ _ E hR hS (lv_sub hl [1, 2, 3, 0] rfl) hc hs
set_option maxRecDepth 100000 in
def f_X9_make_390 (k_268 : Nat → Nat → Int32 → Int32 → Mm → Option (Unit × Mm)) (v0 : Nat) (v1 : Nat) (v3 : Int32) (v5 : Int32) (v8 : Int32) (w0 : Nat) (w1 : Int32) (w2 : Int32) (w3 : Int32) (w4 : Int32) (σ : Mm) : Option (Unit × Mm) :=
  if v8 = (-9 : Int32) then (f_X9_make_410 k_268 v0 v1 v3 v5 w0 w1 w2 w3 w4 (0 : Int32) σ) else (zck (kO σ v0 9) (zrb (mR σ v0 14) (fun b32 => zck (kA σ 1 b32 (v3 + v8)) (f_X9_make_410 k_268 v0 v1 v3 v5 w0 w1 w2 w3 w4 (mD σ b32 (ix (v3 + v8))) σ))))
set_option maxRecDepth 100000 in
set_option maxHeartbeats 4000000 in
theorem V_X9_make_390 {g : GG} (k_268 : Nat → Nat → Int32 → Int32 → Mm → Option (Unit × Mm)) (hk_268 : ∀ (v0 : Nat) (v1 : Nat) (v3 : Int32) (v5 : Int32) (σ : Mm) (r : Unit) (σ' : Mm), k_268 v0 v1 v3 v5 σ = some (r, σ') → VJ g RX9 cX9_make 10 none false rm_X9_make none σ' (0) (0) 268 [(0, .ref (gB g + v0)), (1, .ref (gB g + v1)), (3, .int v3), (5, .int v5)] [] σ) (v0 : Nat) (v1 : Nat) (v3 : Int32) (v5 : Int32) (v8 : Int32) (w0 : Nat) (w1 : Int32) (w2 : Int32) (w3 : Int32) (w4 : Int32) (σ : Mm) (r : Unit) (σ' : Mm) (hf : f_X9_make_390 k_268 v0 v1 v3 v5 v8 w0 w1 w2 w3 w4 σ = some (r, σ')) : VJ g RX9 cX9_make 10 none false rm_X9_make none σ' (0) (0) 390 [(0, .ref (gB g + v0)), (1, .ref (gB g + v1)), (3, .int v3), (5, .int v5), (8, .int v8)] [.int w4, .int w3, .int w2, .int w1, .ref (gB g + w0)] σ := by
  intro p e s m args below meth c H locs cells slots ls E hR hS hl hc hs
  obtain ⟨hx, hb, hml, hr, hlocks, hown, hts, hin, hT⟩ := id E
  unfold f_X9_make_390 at hf
  refine lv_iload hx hb dX9_make_390 (lv_at hl 4 rfl) ?_
  refine lv_bipush (v := (-9 : Int32)) hx hb dX9_make_392 rfl ?_
  refine lv_icmp_ne (tgt := 401) hx hb dX9_make_394 (by decide) (fun hq30 => ?_) (fun hq30 => ?_)
  · have hf := ite_n hq30 hf
    refine lv_aload_n hx hb dX9_make_401 rfl (lv_at hl 0 rfl) ?_
    obtain ⟨hk31, hf⟩ := zc_s hf
    obtain ⟨b32, hb32, hf⟩ := zr_s hf
    refine x_getR E hR hk31 hb32 ok9 (Nat.le_of_ble_eq_true rfl) rfl fl_X9_47 dX9_make_402 ?_
    refine lv_iload_n hx hb dX9_make_405 rfl (lv_at hl 2 rfl) ?_
    refine lv_iload hx hb dX9_make_406 (lv_at hl 4 rfl) ?_
    refine lv_iadd hx hb dX9_make_408 ?_
    obtain ⟨hk33, hf⟩ := zc_s hf
    refine x_ild E hR hk33 dX9_make_409 ?_
    exact V_X9_make_410 _ hk_268 _ _ _ _ _ _ _ _ _ _ _ _ _ hf p e s m args below meth c _ _ _ _ _ E hR hS (lv_sub hl [0, 1, 2, 3] rfl) hc hs
  · have hf := ite_p hq30 hf
    refine lv_iconst (v := (0 : Int32)) hx hb dX9_make_397 rfl ?_
    refine lv_goto (tgt := 410) hx hb dX9_make_398 (by decide) ?_
    exact V_X9_make_410 _ hk_268 _ _ _ _ _ _ _ _ _ _ _ _ _ hf p e s m args below meth c _ _ _ _ _ E hR hS (lv_sub hl [0, 1, 2, 3] rfl) hc hs
set_option maxRecDepth 100000 in
def f_X9_make_354 (k_268 : Nat → Nat → Int32 → Int32 → Mm → Option (Unit × Mm)) (v0 : Nat) (v1 : Nat) (v3 : Int32) (v5 : Int32) (v6 : Int32) (v7 : Int32) (v8 : Int32) (w0 : Nat) (w1 : Int32) (w2 : Int32) (w3 : Int32) (σ : Mm) : Option (Unit × Mm) :=
  zck (kA σ 1 w0 w1) (zlt (sD σ w0 (ix w1) (w2 + w3)) (fun σ35 => zck (kO σ35 v0 9) (zrb (mR σ35 v0 14) (fun b37 => zck (kA σ35 1 v1 v6) (if v7 = (-9 : Int32) then (f_X9_make_390 k_268 v0 v1 v3 v5 v8 b37 (v3 + v6) v6 (mD σ35 v1 (ix v6)) (0 : Int32) σ35) else (zck (kA σ35 1 b37 (v3 + v7)) (f_X9_make_390 k_268 v0 v1 v3 v5 v8 b37 (v3 + v6) v6 (mD σ35 v1 (ix v6)) (mD σ35 b37 (ix (v3 + v7))) σ35)))))))
set_option maxRecDepth 100000 in
set_option maxHeartbeats 4000000 in
theorem V_X9_make_354 {g : GG} (k_268 : Nat → Nat → Int32 → Int32 → Mm → Option (Unit × Mm)) (hk_268 : ∀ (v0 : Nat) (v1 : Nat) (v3 : Int32) (v5 : Int32) (σ : Mm) (r : Unit) (σ' : Mm), k_268 v0 v1 v3 v5 σ = some (r, σ') → VJ g RX9 cX9_make 10 none false rm_X9_make none σ' (0) (0) 268 [(0, .ref (gB g + v0)), (1, .ref (gB g + v1)), (3, .int v3), (5, .int v5)] [] σ) (v0 : Nat) (v1 : Nat) (v3 : Int32) (v5 : Int32) (v6 : Int32) (v7 : Int32) (v8 : Int32) (w0 : Nat) (w1 : Int32) (w2 : Int32) (w3 : Int32) (σ : Mm) (r : Unit) (σ' : Mm) (hf : f_X9_make_354 k_268 v0 v1 v3 v5 v6 v7 v8 w0 w1 w2 w3 σ = some (r, σ')) : VJ g RX9 cX9_make 10 none false rm_X9_make none σ' (0) (0) 354 [(0, .ref (gB g + v0)), (1, .ref (gB g + v1)), (3, .int v3), (5, .int v5), (6, .int v6), (7, .int v7), (8, .int v8)] [.int w3, .int w2, .int w1, .ref (gB g + w0)] σ := by
  intro p e s m args below meth c H locs cells slots ls E hR hS hl hc hs
  obtain ⟨hx, hb, hml, hr, hlocks, hown, hts, hin, hT⟩ := id E
  unfold f_X9_make_354 at hf
  refine lv_iadd hx hb dX9_make_354 ?_
  obtain ⟨hk34, hf⟩ := zc_s hf
  obtain ⟨σ35, eσ35, hf⟩ := zl_s hf
  refine x_ist E hR hS hk34 dX9_make_355 (fun H locs hR hS => ?_)
  rw [← eσ35] at hR
  refine lv_aload_n hx hb dX9_make_356 rfl (lv_at hl 0 rfl) ?_
  obtain ⟨hk36, hf⟩ := zc_s hf
  obtain ⟨b37, hb37, hf⟩ := zr_s hf
  refine x_getR E hR hk36 hb37 ok9 (Nat.le_of_ble_eq_true rfl) rfl fl_X9_47 dX9_make_357 ?_
  refine lv_iload_n hx hb dX9_make_360 rfl (lv_at hl 2 rfl) ?_
  refine lv_iload hx hb dX9_make_361 (lv_at hl 4 rfl) ?_
  refine lv_iadd hx hb dX9_make_363 ?_
  refine lv_iload hx hb dX9_make_364 (lv_at hl 4 rfl) ?_
  refine lv_aload_n hx hb dX9_make_366 rfl (lv_at hl 1 rfl) ?_
  refine lv_iload hx hb dX9_make_367 (lv_at hl 4 rfl) ?_
  obtain ⟨hk38, hf⟩ := zc_s hf
  refine x_ild E hR hk38 dX9_make_369 ?_
  refine lv_iload hx hb dX9_make_370 (lv_at hl 5 rfl) ?_
  refine lv_bipush (v := (-9 : Int32)) hx hb dX9_make_372 rfl ?_
  refine lv_icmp_ne (tgt := 381) hx hb dX9_make_374 (by decide) (fun hq39 => ?_) (fun hq39 => ?_)
  · have hf := ite_n hq39 hf
    refine lv_aload_n hx hb dX9_make_381 rfl (lv_at hl 0 rfl) ?_
    refine x_getR E hR hk36 hb37 ok9 (Nat.le_of_ble_eq_true rfl) rfl fl_X9_47 dX9_make_382 ?_
    refine lv_iload_n hx hb dX9_make_385 rfl (lv_at hl 2 rfl) ?_
    refine lv_iload hx hb dX9_make_386 (lv_at hl 5 rfl) ?_
    refine lv_iadd hx hb dX9_make_388 ?_
    obtain ⟨hk40, hf⟩ := zc_s hf
    refine x_ild E hR hk40 dX9_make_389 ?_
    exact V_X9_make_390 _ hk_268 _ _ _ _ _ _ _ _ _ _ _ _ _ hf p e s m args below meth c _ _ _ _ _ E hR hS (lv_sub hl [0, 1, 2, 3, 6] rfl) hc hs
  · have hf := ite_p hq39 hf
    refine lv_iconst (v := (0 : Int32)) hx hb dX9_make_377 rfl ?_
    refine lv_goto (tgt := 390) hx hb dX9_make_378 (by decide) ?_
    exact V_X9_make_390 _ hk_268 _ _ _ _ _ _ _ _ _ _ _ _ _ hf p e s m args below meth c _ _ _ _ _ E hR hS (lv_sub hl [0, 1, 2, 3, 6] rfl) hc hs
set_option maxRecDepth 100000 in
def f_X9_make_333 (k_268 : Nat → Nat → Int32 → Int32 → Mm → Option (Unit × Mm)) (v0 : Nat) (v1 : Nat) (v3 : Int32) (v5 : Int32) (v6 : Int32) (v7 : Int32) (v8 : Int32) (w0 : Nat) (w1 : Int32) (w2 : Int32) (w3 : Int32) (σ : Mm) : Option (Unit × Mm) :=
  if v8 = (-9 : Int32) then (f_X9_make_354 k_268 v0 v1 v3 v5 v6 v7 v8 w0 w1 (w2 + w3) (0 : Int32) σ) else (zck (kO σ v0 9) (zrb (mR σ v0 13) (fun b43 => zck (kA σ 1 b43 (v3 + v8)) (f_X9_make_354 k_268 v0 v1 v3 v5 v6 v7 v8 w0 w1 (w2 + w3) (mD σ b43 (ix (v3 + v8))) σ))))
set_option maxRecDepth 100000 in
set_option maxHeartbeats 4000000 in
theorem V_X9_make_333 {g : GG} (k_268 : Nat → Nat → Int32 → Int32 → Mm → Option (Unit × Mm)) (hk_268 : ∀ (v0 : Nat) (v1 : Nat) (v3 : Int32) (v5 : Int32) (σ : Mm) (r : Unit) (σ' : Mm), k_268 v0 v1 v3 v5 σ = some (r, σ') → VJ g RX9 cX9_make 10 none false rm_X9_make none σ' (0) (0) 268 [(0, .ref (gB g + v0)), (1, .ref (gB g + v1)), (3, .int v3), (5, .int v5)] [] σ) (v0 : Nat) (v1 : Nat) (v3 : Int32) (v5 : Int32) (v6 : Int32) (v7 : Int32) (v8 : Int32) (w0 : Nat) (w1 : Int32) (w2 : Int32) (w3 : Int32) (σ : Mm) (r : Unit) (σ' : Mm) (hf : f_X9_make_333 k_268 v0 v1 v3 v5 v6 v7 v8 w0 w1 w2 w3 σ = some (r, σ')) : VJ g RX9 cX9_make 10 none false rm_X9_make none σ' (0) (0) 333 [(0, .ref (gB g + v0)), (1, .ref (gB g + v1)), (3, .int v3), (5, .int v5), (6, .int v6), (7, .int v7), (8, .int v8)] [.int w3, .int w2, .int w1, .ref (gB g + w0)] σ := by
  intro p e s m args below meth c H locs cells slots ls E hR hS hl hc hs
  obtain ⟨hx, hb, hml, hr, hlocks, hown, hts, hin, hT⟩ := id E
  unfold f_X9_make_333 at hf
  refine lv_iadd hx hb dX9_make_333 ?_
  refine lv_iload hx hb dX9_make_334 (lv_at hl 6 rfl) ?_
  refine lv_bipush (v := (-9 : Int32)) hx hb dX9_make_336 rfl ?_
  refine lv_icmp_ne (tgt := 345) hx hb dX9_make_338 (by decide) (fun hq41 => ?_) (fun hq41 => ?_)
  · have hf := ite_n hq41 hf
    refine lv_aload_n hx hb dX9_make_345 rfl (lv_at hl 0 rfl) ?_
    obtain ⟨hk42, hf⟩ := zc_s hf
    obtain ⟨b43, hb43, hf⟩ := zr_s hf
    refine x_getR E hR hk42 hb43 ok9 (Nat.le_of_ble_eq_true rfl) rfl fl_X9_44 dX9_make_346 ?_
    refine lv_iload_n hx hb dX9_make_349 rfl (lv_at hl 2 rfl) ?_
    refine lv_iload hx hb dX9_make_350 (lv_at hl 6 rfl) ?_
    refine lv_iadd hx hb dX9_make_352 ?_
    obtain ⟨hk44, hf⟩ := zc_s hf
    refine x_ild E hR hk44 dX9_make_353 ?_
    exact V_X9_make_354 _ hk_268 _ _ _ _ _ _ _ _ _ _ _ _ _ _ hf p e s m args below meth c _ _ _ _ _ E hR hS (lv_sub hl [0, 1, 2, 3, 4, 5, 6] rfl) hc hs
  · have hf := ite_p hq41 hf
    refine lv_iconst (v := (0 : Int32)) hx hb dX9_make_341 rfl ?_
    refine lv_goto (tgt := 354) hx hb dX9_make_342 (by decide) ?_
    exact V_X9_make_354 _ hk_268 _ _ _ _ _ _ _ _ _ _ _ _ _ _ hf p e s m args below meth c _ _ _ _ _ E hR hS (lv_sub hl [0, 1, 2, 3, 4, 5, 6] rfl) hc hs
set_option maxRecDepth 100000 in
def f_X9_make_268 : Nat → Nat → Nat → Int32 → Int32 → Mm → Option (Unit × Mm)
  | 0, _, _, _, _, _ => none
  | n + 1, v0, v1, v3, v5, σ =>
    if v5 < 0 then (some ((), σ)) else (zck (kO σ v0 9) (zrb (mR σ v0 16) (fun b47 => zck (kA σ 1 b47 v5) (zrb (mR σ v0 8) (fun b49 => zck (kA σ 1 b49 (v3 + (mD σ b47 (ix v5)))) (zrb (mR σ v0 9) (fun b51 => zck (kA σ 1 b51 (v3 + (mD σ b47 (ix v5)))) (zrb (mR σ v0 13) (fun b53 => if (mD σ b49 (ix (v3 + (mD σ b47 (ix v5))))) = (-9 : Int32) then (f_X9_make_333 (f_X9_make_268 n) v0 v1 v3 v5 (mD σ b47 (ix v5)) (mD σ b49 (ix (v3 + (mD σ b47 (ix v5))))) (mD σ b51 (ix (v3 + (mD σ b47 (ix v5))))) b53 (v3 + (mD σ b47 (ix v5))) (1 : Int32) (0 : Int32) σ) else (zck (kA σ 1 b53 (v3 + (mD σ b49 (ix (v3 + (mD σ b47 (ix v5))))))) (f_X9_make_333 (f_X9_make_268 n) v0 v1 v3 v5 (mD σ b47 (ix v5)) (mD σ b49 (ix (v3 + (mD σ b47 (ix v5))))) (mD σ b51 (ix (v3 + (mD σ b47 (ix v5))))) b53 (v3 + (mD σ b47 (ix v5))) (1 : Int32) (mD σ b53 (ix (v3 + (mD σ b49 (ix (v3 + (mD σ b47 (ix v5)))))))) σ)))))))))))
set_option maxRecDepth 100000 in
set_option maxHeartbeats 4000000 in
theorem V_X9_make_268 {g : GG} : ∀ (n : Nat) (v0 : Nat) (v1 : Nat) (v3 : Int32) (v5 : Int32) (σ : Mm) (r : Unit) (σ' : Mm), f_X9_make_268 n v0 v1 v3 v5 σ = some (r, σ') → VJ g RX9 cX9_make 10 none false rm_X9_make none σ' (0) (0) 268 [(0, .ref (gB g + v0)), (1, .ref (gB g + v1)), (3, .int v3), (5, .int v5)] [] σ := by
  intro n
  induction n with
  | zero =>
    intro v0 v1 v3 v5 σ r σ' hf
    unfold f_X9_make_268 at hf
    cases hf
  | succ n ih =>
    intro v0 v1 v3 v5 σ r σ' hf p e s m args below meth c H locs cells slots ls E hR hS hl hc hs
    obtain ⟨hx, hb, hml, hr, hlocks, hown, hts, hin, hT⟩ := id E
    unfold f_X9_make_268 at hf
    refine lv_iload hx hb dX9_make_268 (lv_at hl 3 rfl) ?_
    refine lv_if_lt (tgt := 420) hx hb dX9_make_270 (by decide) (fun hq45 => ?_) (fun hq45 => ?_)
    · have hf := ite_p hq45 hf
      obtain ⟨hr1, hs1⟩ := Prod.mk.inj (Option.some.inj hf)
      exact xr_v E hR hS rfl rfl hs1.symm hc hs dX9_make_420
    · have hf := ite_n hq45 hf
      refine lv_aload_n hx hb dX9_make_273 rfl (lv_at hl 0 rfl) ?_
      obtain ⟨hk46, hf⟩ := zc_s hf
      obtain ⟨b47, hb47, hf⟩ := zr_s hf
      refine x_getR E hR hk46 hb47 ok9 (Nat.le_of_ble_eq_true rfl) rfl fl_X9_53 dX9_make_274 ?_
      refine lv_iload hx hb dX9_make_277 (lv_at hl 3 rfl) ?_
      obtain ⟨hk48, hf⟩ := zc_s hf
      refine x_ild E hR hk48 dX9_make_279 ?_
      refine lv_istore (lv' := [(6, .int (mD σ b47 (ix v5))), (0, .ref (gB g + v0)), (1, .ref (gB g + v1)), (3, .int v3), (5, .int v5)]) hx hb dX9_make_280 hl (Nat.le_of_ble_eq_true rfl) rfl (fun ls hl => ?_)
      refine lv_aload_n hx hb dX9_make_282 rfl (lv_at hl 1 rfl) ?_
      obtain ⟨b49, hb49, hf⟩ := zr_s hf
      refine x_getR E hR hk46 hb49 ok9 (Nat.le_of_ble_eq_true rfl) rfl fl_X9_29 dX9_make_283 ?_
      refine lv_iload_n hx hb dX9_make_286 rfl (lv_at hl 3 rfl) ?_
      refine lv_iload hx hb dX9_make_287 (lv_at hl 0 rfl) ?_
      refine lv_iadd hx hb dX9_make_289 ?_
      obtain ⟨hk50, hf⟩ := zc_s hf
      refine x_ild E hR hk50 dX9_make_290 ?_
      refine lv_istore (lv' := [(7, .int (mD σ b49 (ix (v3 + (mD σ b47 (ix v5)))))), (6, .int (mD σ b47 (ix v5))), (0, .ref (gB g + v0)), (1, .ref (gB g + v1)), (3, .int v3), (5, .int v5)]) hx hb dX9_make_291 hl (Nat.le_of_ble_eq_true rfl) rfl (fun ls hl => ?_)
      refine lv_aload_n hx hb dX9_make_293 rfl (lv_at hl 2 rfl) ?_
      obtain ⟨b51, hb51, hf⟩ := zr_s hf
      refine x_getR E hR hk46 hb51 ok9 (Nat.le_of_ble_eq_true rfl) rfl fl_X9_32 dX9_make_294 ?_
      refine lv_iload_n hx hb dX9_make_297 rfl (lv_at hl 4 rfl) ?_
      refine lv_iload hx hb dX9_make_298 (lv_at hl 1 rfl) ?_
      refine lv_iadd hx hb dX9_make_300 ?_
      obtain ⟨hk52, hf⟩ := zc_s hf
      refine x_ild E hR hk52 dX9_make_301 ?_
      refine lv_istore (lv' := [(8, .int (mD σ b51 (ix (v3 + (mD σ b47 (ix v5)))))), (7, .int (mD σ b49 (ix (v3 + (mD σ b47 (ix v5)))))), (6, .int (mD σ b47 (ix v5))), (0, .ref (gB g + v0)), (1, .ref (gB g + v1)), (3, .int v3), (5, .int v5)]) hx hb dX9_make_302 hl (Nat.le_of_ble_eq_true rfl) rfl (fun ls hl => ?_)
      refine lv_aload_n hx hb dX9_make_304 rfl (lv_at hl 3 rfl) ?_
      obtain ⟨b53, hb53, hf⟩ := zr_s hf
      refine x_getR E hR hk46 hb53 ok9 (Nat.le_of_ble_eq_true rfl) rfl fl_X9_44 dX9_make_305 ?_
      refine lv_iload_n hx hb dX9_make_308 rfl (lv_at hl 5 rfl) ?_
      refine lv_iload hx hb dX9_make_309 (lv_at hl 2 rfl) ?_
      refine lv_iadd hx hb dX9_make_311 ?_
      refine lv_iconst (v := (1 : Int32)) hx hb dX9_make_312 rfl ?_
      refine lv_iload hx hb dX9_make_313 (lv_at hl 1 rfl) ?_
      refine lv_bipush (v := (-9 : Int32)) hx hb dX9_make_315 rfl ?_
      refine lv_icmp_ne (tgt := 324) hx hb dX9_make_317 (by decide) (fun hq54 => ?_) (fun hq54 => ?_)
      · have hf := ite_n hq54 hf
        refine lv_aload_n hx hb dX9_make_324 rfl (lv_at hl 3 rfl) ?_
        refine x_getR E hR hk46 hb53 ok9 (Nat.le_of_ble_eq_true rfl) rfl fl_X9_44 dX9_make_325 ?_
        refine lv_iload_n hx hb dX9_make_328 rfl (lv_at hl 5 rfl) ?_
        refine lv_iload hx hb dX9_make_329 (lv_at hl 1 rfl) ?_
        refine lv_iadd hx hb dX9_make_331 ?_
        obtain ⟨hk55, hf⟩ := zc_s hf
        refine x_ild E hR hk55 dX9_make_332 ?_
        exact V_X9_make_333 _ ih _ _ _ _ _ _ _ _ _ _ _ _ _ _ hf p e s m args below meth c _ _ _ _ _ E hR hS (lv_sub hl [3, 4, 5, 6, 2, 1, 0] rfl) hc hs
      · have hf := ite_p hq54 hf
        refine lv_iconst (v := (0 : Int32)) hx hb dX9_make_320 rfl ?_
        refine lv_goto (tgt := 333) hx hb dX9_make_321 (by decide) ?_
        exact V_X9_make_333 _ ih _ _ _ _ _ _ _ _ _ _ _ _ _ _ hf p e s m args below meth c _ _ _ _ _ E hR hS (lv_sub hl [3, 4, 5, 6, 2, 1, 0] rfl) hc hs
set_option maxRecDepth 100000 in
def f_X9_make_31 : Nat → Nat → Nat → Int32 → Int32 → Int32 → Mm → Option (Unit × Mm)
  | 0, _, _, _, _, _, _ => none
  | n + 1, v0, v1, v2, v3, v4, σ =>
    zck (kO σ v0 9) (if (mD σ v0 21) ≤ 0 then (f_X9_make_268 1000 v0 v1 v3 (v4 - (1 : Int32)) σ) else (zlt (sD σ v0 21 ((mD σ v0 21) - (1 : Int32))) (fun σ58 => zrb (mR σ58 v0 17) (fun b59 => zck (kA σ58 1 b59 (mD σ58 v0 21)) (zrb (mR σ58 v0 18) (fun b61 => zck (kA σ58 1 b61 (mD σ58 v0 21)) (zrb (mR σ58 v0 19) (fun b63 => zck (kA σ58 1 b63 (mD σ58 v0 21)) (zrb (mR σ58 v0 20) (fun b65 => zck (kA σ58 1 b65 (mD σ58 v0 21)) (zcb (f_X9_uppermost v1 (mD σ58 b59 (ix (mD σ58 v0 21))) (mD σ58 b61 (ix (mD σ58 v0 21))) σ58) (fun r67 σ68 => if (mD σ58 b63 (ix (mD σ58 v0 21))) = (-9 : Int32) then (zck (kO σ68 v0 9) (zrb (mR σ68 v0 15) (fun b80 => zck (kA σ68 1 b80 v2) (zlt (sD σ68 b80 (ix v2) r67) (fun σ82 => f_X9_make_150 (f_X9_make_31 n) v0 v1 v2 v3 v4 (mD σ58 b59 (ix (mD σ58 v0 21))) (mD σ58 b61 (ix (mD σ58 v0 21))) (mD σ58 b63 (ix (mD σ58 v0 21))) r67 σ82))))) else (if (mD σ58 b65 (ix (mD σ58 v0 21))) = 0 then (zck (kO σ68 v0 9) (zrb (mR σ68 v0 8) (fun b76 => zck (kA σ68 1 b76 (v3 + (mD σ58 b63 (ix (mD σ58 v0 21))))) (zlt (sD σ68 b76 (ix (v3 + (mD σ58 b63 (ix (mD σ58 v0 21))))) r67) (fun σ78 => f_X9_make_150 (f_X9_make_31 n) v0 v1 v2 v3 v4 (mD σ58 b59 (ix (mD σ58 v0 21))) (mD σ58 b61 (ix (mD σ58 v0 21))) (mD σ58 b63 (ix (mD σ58 v0 21))) r67 σ78))))) else (zck (kO σ68 v0 9) (zrb (mR σ68 v0 9) (fun b72 => zck (kA σ68 1 b72 (v3 + (mD σ58 b63 (ix (mD σ58 v0 21))))) (zlt (sD σ68 b72 (ix (v3 + (mD σ58 b63 (ix (mD σ58 v0 21))))) r67) (fun σ74 => f_X9_make_150 (f_X9_make_31 n) v0 v1 v2 v3 v4 (mD σ58 b59 (ix (mD σ58 v0 21))) (mD σ58 b61 (ix (mD σ58 v0 21))) (mD σ58 b63 (ix (mD σ58 v0 21))) r67 σ74))))))))))))))))))
set_option maxRecDepth 100000 in
set_option maxHeartbeats 4000000 in
theorem V_X9_make_31 {g : GG} : ∀ (n : Nat) (v0 : Nat) (v1 : Nat) (v2 : Int32) (v3 : Int32) (v4 : Int32) (σ : Mm) (r : Unit) (σ' : Mm), f_X9_make_31 n v0 v1 v2 v3 v4 σ = some (r, σ') → VJ g RX9 cX9_make 10 none false rm_X9_make none σ' (0) (0) 31 [(0, .ref (gB g + v0)), (1, .ref (gB g + v1)), (2, .int v2), (3, .int v3), (4, .int v4)] [] σ := by
  intro n
  induction n with
  | zero =>
    intro v0 v1 v2 v3 v4 σ r σ' hf
    unfold f_X9_make_31 at hf
    cases hf
  | succ n ih =>
    intro v0 v1 v2 v3 v4 σ r σ' hf p e s m args below meth c H locs cells slots ls E hR hS hl hc hs
    obtain ⟨hx, hb, hml, hr, hlocks, hown, hts, hin, hT⟩ := id E
    unfold f_X9_make_31 at hf
    refine lv_aload_n hx hb dX9_make_31 rfl (lv_at hl 0 rfl) ?_
    obtain ⟨hk56, hf⟩ := zc_s hf
    refine x_getI E hR hk56 ok9 21 (Nat.le_of_ble_eq_true rfl) rfl fl_X9_145 dX9_make_32 ?_
    refine lv_if_le (tgt := 262) hx hb dX9_make_35 (by decide) (fun hq57 => ?_) (fun hq57 => ?_)
    · have hf := ite_p hq57 hf
      refine lv_iload hx hb dX9_make_262 (lv_at hl 4 rfl) ?_
      refine lv_iconst (v := (1 : Int32)) hx hb dX9_make_264 rfl ?_
      refine lv_isub hx hb dX9_make_265 ?_
      refine lv_istore (lv' := [(5, .int (v4 - (1 : Int32))), (0, .ref (gB g + v0)), (1, .ref (gB g + v1)), (2, .int v2), (3, .int v3), (4, .int v4)]) hx hb dX9_make_266 hl (Nat.le_of_ble_eq_true rfl) rfl (fun ls hl => ?_)
      exact V_X9_make_268  1000 _ _ _ _ _ _ _ hf p e s m args below meth c _ _ _ _ _ E hR hS (lv_sub hl [1, 2, 4, 0] rfl) hc hs
    · have hf := ite_n hq57 hf
      refine lv_aload_n hx hb dX9_make_38 rfl (lv_at hl 0 rfl) ?_
      refine lv_dup hx hb dX9_make_39 rfl ?_
      refine x_getI E hR hk56 ok9 21 (Nat.le_of_ble_eq_true rfl) rfl fl_X9_145 dX9_make_40 ?_
      refine lv_iconst (v := (1 : Int32)) hx hb dX9_make_43 rfl ?_
      refine lv_isub hx hb dX9_make_44 ?_
      obtain ⟨σ58, eσ58, hf⟩ := zl_s hf
      refine x_putI E hR hS hk56 ok9 21 (Nat.le_of_ble_eq_true rfl) rfl fl_X9_145 (Or.inl rfl) rfl rfl dX9_make_45 (fun H locs hR hS => ?_)
      rw [← eσ58] at hR
      refine lv_aload_n hx hb dX9_make_48 rfl (lv_at hl 0 rfl) ?_
      obtain ⟨b59, hb59, hf⟩ := zr_s hf
      refine x_getR E hR (by rw [eσ58]; exact hk56) hb59 ok9 (Nat.le_of_ble_eq_true rfl) rfl fl_X9_56 dX9_make_49 ?_
      refine lv_aload_n hx hb dX9_make_52 rfl (lv_at hl 0 rfl) ?_
      refine x_getI E hR (by rw [eσ58]; exact hk56) ok9 21 (Nat.le_of_ble_eq_true rfl) rfl fl_X9_145 dX9_make_53 ?_
      obtain ⟨hk60, hf⟩ := zc_s hf
      refine x_ild E hR hk60 dX9_make_56 ?_
      refine lv_istore (lv' := [(5, .int (mD σ58 b59 (ix (mD σ58 v0 21)))), (0, .ref (gB g + v0)), (1, .ref (gB g + v1)), (2, .int v2), (3, .int v3), (4, .int v4)]) hx hb dX9_make_57 hl (Nat.le_of_ble_eq_true rfl) rfl (fun ls hl => ?_)
      refine lv_aload_n hx hb dX9_make_59 rfl (lv_at hl 1 rfl) ?_
      obtain ⟨b61, hb61, hf⟩ := zr_s hf
      refine x_getR E hR (by rw [eσ58]; exact hk56) hb61 ok9 (Nat.le_of_ble_eq_true rfl) rfl fl_X9_59 dX9_make_60 ?_
      refine lv_aload_n hx hb dX9_make_63 rfl (lv_at hl 1 rfl) ?_
      refine x_getI E hR (by rw [eσ58]; exact hk56) ok9 21 (Nat.le_of_ble_eq_true rfl) rfl fl_X9_145 dX9_make_64 ?_
      obtain ⟨hk62, hf⟩ := zc_s hf
      refine x_ild E hR hk62 dX9_make_67 ?_
      refine lv_istore (lv' := [(6, .int (mD σ58 b61 (ix (mD σ58 v0 21)))), (5, .int (mD σ58 b59 (ix (mD σ58 v0 21)))), (0, .ref (gB g + v0)), (1, .ref (gB g + v1)), (2, .int v2), (3, .int v3), (4, .int v4)]) hx hb dX9_make_68 hl (Nat.le_of_ble_eq_true rfl) rfl (fun ls hl => ?_)
      refine lv_aload_n hx hb dX9_make_70 rfl (lv_at hl 2 rfl) ?_
      obtain ⟨b63, hb63, hf⟩ := zr_s hf
      refine x_getR E hR (by rw [eσ58]; exact hk56) hb63 ok9 (Nat.le_of_ble_eq_true rfl) rfl fl_X9_62 dX9_make_71 ?_
      refine lv_aload_n hx hb dX9_make_74 rfl (lv_at hl 2 rfl) ?_
      refine x_getI E hR (by rw [eσ58]; exact hk56) ok9 21 (Nat.le_of_ble_eq_true rfl) rfl fl_X9_145 dX9_make_75 ?_
      obtain ⟨hk64, hf⟩ := zc_s hf
      refine x_ild E hR hk64 dX9_make_78 ?_
      refine lv_istore (lv' := [(7, .int (mD σ58 b63 (ix (mD σ58 v0 21)))), (6, .int (mD σ58 b61 (ix (mD σ58 v0 21)))), (5, .int (mD σ58 b59 (ix (mD σ58 v0 21)))), (0, .ref (gB g + v0)), (1, .ref (gB g + v1)), (2, .int v2), (3, .int v3), (4, .int v4)]) hx hb dX9_make_79 hl (Nat.le_of_ble_eq_true rfl) rfl (fun ls hl => ?_)
      refine lv_aload_n hx hb dX9_make_81 rfl (lv_at hl 3 rfl) ?_
      obtain ⟨b65, hb65, hf⟩ := zr_s hf
      refine x_getR E hR (by rw [eσ58]; exact hk56) hb65 ok9 (Nat.le_of_ble_eq_true rfl) rfl fl_X9_65 dX9_make_82 ?_
      refine lv_aload_n hx hb dX9_make_85 rfl (lv_at hl 3 rfl) ?_
      refine x_getI E hR (by rw [eσ58]; exact hk56) ok9 21 (Nat.le_of_ble_eq_true rfl) rfl fl_X9_145 dX9_make_86 ?_
      obtain ⟨hk66, hf⟩ := zc_s hf
      refine x_ild E hR hk66 dX9_make_89 ?_
      refine lv_istore (lv' := [(8, .int (mD σ58 b65 (ix (mD σ58 v0 21)))), (7, .int (mD σ58 b63 (ix (mD σ58 v0 21)))), (6, .int (mD σ58 b61 (ix (mD σ58 v0 21)))), (5, .int (mD σ58 b59 (ix (mD σ58 v0 21)))), (0, .ref (gB g + v0)), (1, .ref (gB g + v1)), (2, .int v2), (3, .int v3), (4, .int v4)]) hx hb dX9_make_90 hl (Nat.le_of_ble_eq_true rfl) rfl (fun ls hl => ?_)
      refine lv_aload_n hx hb dX9_make_92 rfl (lv_at hl 5 rfl) ?_
      refine lv_iload hx hb dX9_make_93 (lv_at hl 3 rfl) ?_
      refine lv_iload hx hb dX9_make_95 (lv_at hl 2 rfl) ?_
      obtain ⟨r67, σ68, hcr67, hf⟩ := zq_s hf
      refine xS (As := [.ref (gB g + v1), .int (mD σ58 b59 (ix (mD σ58 v0 21))), .int (mD σ58 b61 (ix (mD σ58 v0 21)))]) (rest := []) (st1 := [.int r67]) E hR hS hl (C_X9_uppermost hcr67) lb_X9_uppermost ls_X9_uppermost ml_X9_157 ⟨Nat.le_of_ble_eq_true rfl, Nat.le_of_ble_eq_true rfl⟩ rfl rfl rfl (Nat.le_of_ble_eq_true rfl) dX9_make_97 ⟨hc, hs⟩ (fun H locs hR hS => ?_)
      refine lv_istore (lv' := [(9, .int r67), (8, .int (mD σ58 b65 (ix (mD σ58 v0 21)))), (7, .int (mD σ58 b63 (ix (mD σ58 v0 21)))), (6, .int (mD σ58 b61 (ix (mD σ58 v0 21)))), (5, .int (mD σ58 b59 (ix (mD σ58 v0 21)))), (0, .ref (gB g + v0)), (1, .ref (gB g + v1)), (2, .int v2), (3, .int v3), (4, .int v4)]) hx hb dX9_make_100 hl (Nat.le_of_ble_eq_true rfl) rfl (fun ls hl => ?_)
      refine lv_iload hx hb dX9_make_102 (lv_at hl 2 rfl) ?_
      refine lv_bipush (v := (-9 : Int32)) hx hb dX9_make_104 rfl ?_
      refine lv_icmp_ne (tgt := 120) hx hb dX9_make_106 (by decide) (fun hq69 => ?_) (fun hq69 => ?_)
      · have hf := ite_n hq69 hf
        refine lv_iload hx hb dX9_make_120 (lv_at hl 1 rfl) ?_
        refine lv_if_ne (tgt := 139) hx hb dX9_make_122 (by decide) (fun hq70 => ?_) (fun hq70 => ?_)
        · have hf := ite_n hq70 hf
          refine lv_aload_n hx hb dX9_make_139 rfl (lv_at hl 5 rfl) ?_
          obtain ⟨hk71, hf⟩ := zc_s hf
          obtain ⟨b72, hb72, hf⟩ := zr_s hf
          refine x_getR E hR hk71 hb72 ok9 (Nat.le_of_ble_eq_true rfl) rfl fl_X9_32 dX9_make_140 ?_
          refine lv_iload_n hx hb dX9_make_143 rfl (lv_at hl 8 rfl) ?_
          refine lv_iload hx hb dX9_make_144 (lv_at hl 2 rfl) ?_
          refine lv_iadd hx hb dX9_make_146 ?_
          refine lv_iload hx hb dX9_make_147 (lv_at hl 0 rfl) ?_
          obtain ⟨hk73, hf⟩ := zc_s hf
          obtain ⟨σ74, eσ74, hf⟩ := zl_s hf
          refine x_ist E hR hS hk73 dX9_make_149 (fun H locs hR hS => ?_)
          rw [← eσ74] at hR
          exact V_X9_make_150 _ ih _ _ _ _ _ _ _ _ _ _ _ _ hf p e s m args below meth c _ _ _ _ _ E hR hS (lv_sub hl [5, 6, 7, 8, 9, 4, 3, 2, 0] rfl) hc hs
        · have hf := ite_p hq70 hf
          refine lv_aload_n hx hb dX9_make_125 rfl (lv_at hl 5 rfl) ?_
          obtain ⟨hk75, hf⟩ := zc_s hf
          obtain ⟨b76, hb76, hf⟩ := zr_s hf
          refine x_getR E hR hk75 hb76 ok9 (Nat.le_of_ble_eq_true rfl) rfl fl_X9_29 dX9_make_126 ?_
          refine lv_iload_n hx hb dX9_make_129 rfl (lv_at hl 8 rfl) ?_
          refine lv_iload hx hb dX9_make_130 (lv_at hl 2 rfl) ?_
          refine lv_iadd hx hb dX9_make_132 ?_
          refine lv_iload hx hb dX9_make_133 (lv_at hl 0 rfl) ?_
          obtain ⟨hk77, hf⟩ := zc_s hf
          obtain ⟨σ78, eσ78, hf⟩ := zl_s hf
          refine x_ist E hR hS hk77 dX9_make_135 (fun H locs hR hS => ?_)
          rw [← eσ78] at hR
          refine lv_goto (tgt := 150) hx hb dX9_make_136 (by decide) ?_
          exact V_X9_make_150 _ ih _ _ _ _ _ _ _ _ _ _ _ _ hf p e s m args below meth c _ _ _ _ _ E hR hS (lv_sub hl [5, 6, 7, 8, 9, 4, 3, 2, 0] rfl) hc hs
      · have hf := ite_p hq69 hf
        refine lv_aload_n hx hb dX9_make_109 rfl (lv_at hl 5 rfl) ?_
        obtain ⟨hk79, hf⟩ := zc_s hf
        obtain ⟨b80, hb80, hf⟩ := zr_s hf
        refine x_getR E hR hk79 hb80 ok9 (Nat.le_of_ble_eq_true rfl) rfl fl_X9_50 dX9_make_110 ?_
        refine lv_iload_n hx hb dX9_make_113 rfl (lv_at hl 7 rfl) ?_
        refine lv_iload hx hb dX9_make_114 (lv_at hl 0 rfl) ?_
        obtain ⟨hk81, hf⟩ := zc_s hf
        obtain ⟨σ82, eσ82, hf⟩ := zl_s hf
        refine x_ist E hR hS hk81 dX9_make_116 (fun H locs hR hS => ?_)
        rw [← eσ82] at hR
        refine lv_goto (tgt := 150) hx hb dX9_make_117 (by decide) ?_
        exact V_X9_make_150 _ ih _ _ _ _ _ _ _ _ _ _ _ _ hf p e s m args below meth c _ _ _ _ _ E hR hS (lv_sub hl [5, 6, 7, 8, 9, 4, 3, 2, 0] rfl) hc hs
set_option maxRecDepth 100000 in
def f_X9_make (v0 : Nat) (v1 : Nat) (v2 : Int32) (σ : Mm) : Option (Unit × Mm) :=
  zck (kO σ v0 9) (zlt (sD σ v0 21 (0 : Int32)) (fun σ84 => zrb (mR σ84 v0 15) (fun b85 => zck (kA σ84 1 b85 v2) (zlt (sD σ84 b85 (ix v2) (-9 : Int32)) (fun σ87 => zcb (f_X9_want v0 (0 : Int32) (99 : Int32) (-9 : Int32) (0 : Int32) σ87) (fun r88 σ89 => f_X9_make_31 1000 v0 v1 v2 ((100 : Int32) * v2) (0 : Int32) σ89))))))
set_option maxRecDepth 100000 in
set_option maxHeartbeats 4000000 in
theorem V_X9_make_0 {g : GG} (v0 : Nat) (v1 : Nat) (v2 : Int32) (σ : Mm) (r : Unit) (σ' : Mm) (hf : f_X9_make v0 v1 v2 σ = some (r, σ')) : VJ g RX9 cX9_make 10 none false rm_X9_make none σ' (0) (0) 0 [(0, .ref (gB g + v0)), (1, .ref (gB g + v1)), (2, .int v2)] [] σ := by
  intro p e s m args below meth c H locs cells slots ls E hR hS hl hc hs
  obtain ⟨hx, hb, hml, hr, hlocks, hown, hts, hin, hT⟩ := id E
  unfold f_X9_make at hf
  refine lv_bipush (v := (100 : Int32)) hx hb dX9_make_0 rfl ?_
  refine lv_iload_n hx hb dX9_make_2 rfl (lv_at hl 2 rfl) ?_
  refine lv_imul hx hb dX9_make_3 ?_
  refine lv_istore_n (lv' := [(3, .int ((100 : Int32) * v2)), (0, .ref (gB g + v0)), (1, .ref (gB g + v1)), (2, .int v2)]) hx hb dX9_make_4 rfl hl (Nat.le_of_ble_eq_true rfl) rfl (fun ls hl => ?_)
  refine lv_iconst (v := (0 : Int32)) hx hb dX9_make_5 rfl ?_
  refine lv_istore (lv' := [(4, .int (0 : Int32)), (3, .int ((100 : Int32) * v2)), (0, .ref (gB g + v0)), (1, .ref (gB g + v1)), (2, .int v2)]) hx hb dX9_make_6 hl (Nat.le_of_ble_eq_true rfl) rfl (fun ls hl => ?_)
  refine lv_aload_n hx hb dX9_make_8 rfl (lv_at hl 2 rfl) ?_
  refine lv_iconst (v := (0 : Int32)) hx hb dX9_make_9 rfl ?_
  obtain ⟨hk83, hf⟩ := zc_s hf
  obtain ⟨σ84, eσ84, hf⟩ := zl_s hf
  refine x_putI E hR hS hk83 ok9 21 (Nat.le_of_ble_eq_true rfl) rfl fl_X9_145 (Or.inl rfl) rfl rfl dX9_make_10 (fun H locs hR hS => ?_)
  rw [← eσ84] at hR
  refine lv_aload_n hx hb dX9_make_13 rfl (lv_at hl 2 rfl) ?_
  obtain ⟨b85, hb85, hf⟩ := zr_s hf
  refine x_getR E hR (by rw [eσ84]; exact hk83) hb85 ok9 (Nat.le_of_ble_eq_true rfl) rfl fl_X9_50 dX9_make_14 ?_
  refine lv_iload_n hx hb dX9_make_17 rfl (lv_at hl 4 rfl) ?_
  refine lv_bipush (v := (-9 : Int32)) hx hb dX9_make_18 rfl ?_
  obtain ⟨hk86, hf⟩ := zc_s hf
  obtain ⟨σ87, eσ87, hf⟩ := zl_s hf
  refine x_ist E hR hS hk86 dX9_make_20 (fun H locs hR hS => ?_)
  rw [← eσ87] at hR
  refine lv_aload_n hx hb dX9_make_21 rfl (lv_at hl 2 rfl) ?_
  refine lv_iconst (v := (0 : Int32)) hx hb dX9_make_22 rfl ?_
  refine lv_bipush (v := (99 : Int32)) hx hb dX9_make_23 rfl ?_
  refine lv_bipush (v := (-9 : Int32)) hx hb dX9_make_25 rfl ?_
  refine lv_iconst (v := (0 : Int32)) hx hb dX9_make_27 rfl ?_
  obtain ⟨r88, σ89, hcr88, hf⟩ := zq_s hf
  refine xV (As := [.int (0 : Int32), .int (99 : Int32), .int (-9 : Int32), .int (0 : Int32)]) (rest := []) (st1 := []) E hR hS hl (C_X9_want hcr88) (by rw [eσ87, eσ84]; exact hk83) ok9 lb_X9_want lv_X9_want ml_X9_153 ⟨Nat.le_of_ble_eq_true rfl, Nat.le_of_ble_eq_true rfl⟩ rfl rfl rfl (Nat.le_of_ble_eq_true rfl) dX9_make_28 ⟨hc, hs⟩ (fun H locs hR hS => ?_)
  exact V_X9_make_31  1000 _ _ _ _ _ _ _ _ hf p e s m args below meth c _ _ _ _ _ E hR hS (lv_sub hl [2, 3, 4, 1, 0] rfl) hc hs
theorem C_X9_make {g : GG} {v0 : Nat} {v1 : Nat} {v2 : Int32} {σ : Mm} {r : Unit} {σ' : Mm} (hf : f_X9_make v0 v1 v2 σ = some (r, σ')) : Ct g yX9_make cX9_make 10 none rm_X9_make [.ref (gB g + v0), .ref (gB g + v1), .int v2] σ none σ' :=
  Ct.of false (by decide +kernel) (fun h => by cases h) (Nat.le_of_ble_eq_true rfl) (V_X9_make_0 _ _ _ _ _ _ hf)
abbrev rm_X9_rootOf : Room := { frames := 4, cells := 0, slots := 0, locals := 96 }
set_option maxRecDepth 100000 in
def f_X9_rootOf (v0 : Nat) (v1 : Nat) (σ : Mm) : Option (Int32 × Mm) :=
  zck (kO σ v0 9) (zcb (f_X9_make v0 v1 (0 : Int32) σ) (fun r2 σ3 => zck (kO σ3 v0 9) (zrb (mR σ3 v0 15) (fun b5 => zck (kA σ3 1 b5 (0 : Int32)) (if (mD σ3 b5 (ix (0 : Int32))) = (-9 : Int32) then (some ((0 : Int32), σ3)) else (zrb (mR σ3 v0 14) (fun b8 => zck (kA σ3 1 b5 (0 : Int32)) (zck (kA σ3 1 b8 (mD σ3 b5 (ix (0 : Int32)))) (some ((mD σ3 b8 (ix (mD σ3 b5 (ix (0 : Int32))))), σ3))))))))))
set_option maxRecDepth 100000 in
set_option maxHeartbeats 4000000 in
theorem V_X9_rootOf_0 {g : GG} (v0 : Nat) (v1 : Nat) (σ : Mm) (r : Int32) (σ' : Mm) (hf : f_X9_rootOf v0 v1 σ = some (r, σ')) : VJ g RX9 cX9_rootOf 2 (some .int) false rm_X9_rootOf (some (.int r)) σ' (0) (0) 0 [(0, .ref (gB g + v0)), (1, .ref (gB g + v1))] [] σ := by
  intro p e s m args below meth c H locs cells slots ls E hR hS hl hc hs
  obtain ⟨hx, hb, hml, hr, hlocks, hown, hts, hin, hT⟩ := id E
  unfold f_X9_rootOf at hf
  refine lv_aload_n hx hb dX9_rootOf_0 rfl (lv_at hl 0 rfl) ?_
  refine lv_aload_n hx hb dX9_rootOf_1 rfl (lv_at hl 1 rfl) ?_
  refine lv_iconst (v := (0 : Int32)) hx hb dX9_rootOf_2 rfl ?_
  obtain ⟨hk1, hf⟩ := zc_s hf
  obtain ⟨r2, σ3, hcr2, hf⟩ := zq_s hf
  refine xV (As := [.ref (gB g + v1), .int (0 : Int32)]) (rest := []) (st1 := []) E hR hS hl (C_X9_make hcr2) hk1 ok9 lb_X9_make lv_X9_make ml_X9_165 ⟨Nat.le_of_ble_eq_true rfl, Nat.le_of_ble_eq_true rfl⟩ rfl rfl rfl (Nat.le_of_ble_eq_true rfl) dX9_rootOf_3 ⟨hc, hs⟩ (fun H locs hR hS => ?_)
  refine lv_aload_n hx hb dX9_rootOf_6 rfl (lv_at hl 0 rfl) ?_
  obtain ⟨hk4, hf⟩ := zc_s hf
  obtain ⟨b5, hb5, hf⟩ := zr_s hf
  refine x_getR E hR hk4 hb5 ok9 (Nat.le_of_ble_eq_true rfl) rfl fl_X9_50 dX9_rootOf_7 ?_
  refine lv_iconst (v := (0 : Int32)) hx hb dX9_rootOf_10 rfl ?_
  obtain ⟨hk6, hf⟩ := zc_s hf
  refine x_ild E hR hk6 dX9_rootOf_11 ?_
  refine lv_bipush (v := (-9 : Int32)) hx hb dX9_rootOf_12 rfl ?_
  refine lv_icmp_ne (tgt := 21) hx hb dX9_rootOf_14 (by decide) (fun hq7 => ?_) (fun hq7 => ?_)
  · have hf := ite_n hq7 hf
    refine lv_aload_n hx hb dX9_rootOf_21 rfl (lv_at hl 0 rfl) ?_
    obtain ⟨b8, hb8, hf⟩ := zr_s hf
    refine x_getR E hR hk4 hb8 ok9 (Nat.le_of_ble_eq_true rfl) rfl fl_X9_47 dX9_rootOf_22 ?_
    refine lv_aload_n hx hb dX9_rootOf_25 rfl (lv_at hl 0 rfl) ?_
    refine x_getR E hR hk4 hb5 ok9 (Nat.le_of_ble_eq_true rfl) rfl fl_X9_50 dX9_rootOf_26 ?_
    refine lv_iconst (v := (0 : Int32)) hx hb dX9_rootOf_29 rfl ?_
    obtain ⟨hk9, hf⟩ := zc_s hf
    refine x_ild E hR hk9 dX9_rootOf_30 ?_
    obtain ⟨hk10, hf⟩ := zc_s hf
    refine x_ild E hR hk10 dX9_rootOf_31 ?_
    obtain ⟨hr1, hs1⟩ := Prod.mk.inj (Option.some.inj hf)
    exact xr_i E hR hS rfl (by rw [hr1]) hs1.symm hc hs dX9_rootOf_32
  · have hf := ite_p hq7 hf
    refine lv_iconst (v := (0 : Int32)) hx hb dX9_rootOf_17 rfl ?_
    refine lv_goto (tgt := 32) hx hb dX9_rootOf_18 (by decide) ?_
    obtain ⟨hr1, hs1⟩ := Prod.mk.inj (Option.some.inj hf)
    exact xr_i E hR hS rfl (by rw [hr1]) hs1.symm hc hs dX9_rootOf_32
theorem C_X9_rootOf {g : GG} {v0 : Nat} {v1 : Nat} {σ : Mm} {r : Int32} {σ' : Mm} (hf : f_X9_rootOf v0 v1 σ = some (r, σ')) : Ct g yX9_rootOf cX9_rootOf 2 (some .int) rm_X9_rootOf [.ref (gB g + v0), .ref (gB g + v1)] σ (some (.int r)) σ' :=
  Ct.of false (by decide +kernel) (fun h => by cases h) (Nat.le_of_ble_eq_true rfl) (V_X9_rootOf_0 _ _ _ _ _ hf)
abbrev rm_X9_note : Room := { frames := 0, cells := 0, slots := 0, locals := 0 }
set_option maxRecDepth 100000 in
def f_X9_note_68 (w0 : Nat) (w1 : Int32) (σ : Mm) : Option (Unit × Mm) :=
  zck (kO σ w0 9) (zlt (sD σ w0 3 w1) (fun σ2 => some ((), σ2)))
set_option maxRecDepth 100000 in
set_option maxHeartbeats 4000000 in
theorem V_X9_note_68 {g : GG} (w0 : Nat) (w1 : Int32) (σ : Mm) (r : Unit) (σ' : Mm) (hf : f_X9_note_68 w0 w1 σ = some (r, σ')) : VJ g RX9 cX9_note 2 none false rm_X9_note none σ' (0) (0) 68 [] [.int w1, .ref (gB g + w0)] σ := by
  intro p e s m args below meth c H locs cells slots ls E hR hS hl hc hs
  obtain ⟨hx, hb, hml, hr, hlocks, hown, hts, hin, hT⟩ := id E
  unfold f_X9_note_68 at hf
  obtain ⟨hk1, hf⟩ := zc_s hf
  obtain ⟨σ2, eσ2, hf⟩ := zl_s hf
  refine x_putI E hR hS hk1 ok9 3 (Nat.le_of_ble_eq_true rfl) rfl fl_X9_172 (Or.inl rfl) rfl rfl dX9_note_68 (fun H locs hR hS => ?_)
  rw [← eσ2] at hR
  obtain ⟨hr1, hs1⟩ := Prod.mk.inj (Option.some.inj hf)
  exact xr_v E hR hS rfl rfl hs1.symm hc hs dX9_note_71
set_option maxRecDepth 100000 in
def f_X9_note_2 : Nat → Nat → Int32 → Mm → Option (Unit × Mm)
  | 0, _, _, _ => none
  | n + 1, v0, v1, σ =>
    if (100 : Int32) ≤ v1 then (zck (kO σ v0 9) (zlt (sD σ v0 4 (((mD σ v0 4) + (1 : Int32)) - ((mD σ v0 4) + (1 : Int32)) / (14 : Int32) * (14 : Int32))) (fun σ5 => if (14 : Int32) ≤ (mD σ5 v0 3) then (f_X9_note_68 v0 (14 : Int32) σ5) else (f_X9_note_68 v0 ((mD σ5 v0 3) + (1 : Int32)) σ5)))) else (zck (kO σ v0 9) (zrb (mR σ v0 2) (fun b8 => zrb (mR σ v0 0) (fun b9 => zck (kA σ 1 b9 v1) (zck (kA σ 1 b8 (((100 : Int32) * (mD σ v0 4)) + v1)) (zlt (sD σ b8 (ix (((100 : Int32) * (mD σ v0 4)) + v1)) (mD σ b9 (ix v1))) (fun σ12 => f_X9_note_2 n v0 (v1 + (1 : Int32)) σ12)))))))
set_option maxRecDepth 100000 in
set_option maxHeartbeats 4000000 in
theorem V_X9_note_2 {g : GG} : ∀ (n : Nat) (v0 : Nat) (v1 : Int32) (σ : Mm) (r : Unit) (σ' : Mm), f_X9_note_2 n v0 v1 σ = some (r, σ') → VJ g RX9 cX9_note 2 none false rm_X9_note none σ' (0) (0) 2 [(0, .ref (gB g + v0)), (1, .int v1)] [] σ := by
  intro n
  induction n with
  | zero =>
    intro v0 v1 σ r σ' hf
    unfold f_X9_note_2 at hf
    cases hf
  | succ n ih =>
    intro v0 v1 σ r σ' hf p e s m args below meth c H locs cells slots ls E hR hS hl hc hs
    obtain ⟨hx, hb, hml, hr, hlocks, hown, hts, hin, hT⟩ := id E
    unfold f_X9_note_2 at hf
    refine lv_iload_n hx hb dX9_note_2 rfl (lv_at hl 1 rfl) ?_
    refine lv_bipush (v := (100 : Int32)) hx hb dX9_note_3 rfl ?_
    refine lv_icmp_ge (tgt := 34) hx hb dX9_note_5 (by decide) (fun hq3 => ?_) (fun hq3 => ?_)
    · have hf := ite_p hq3 hf
      refine lv_aload_n hx hb dX9_note_34 rfl (lv_at hl 0 rfl) ?_
      refine lv_aload_n hx hb dX9_note_35 rfl (lv_at hl 0 rfl) ?_
      obtain ⟨hk4, hf⟩ := zc_s hf
      refine x_getI E hR hk4 ok9 4 (Nat.le_of_ble_eq_true rfl) rfl fl_X9_169 dX9_note_36 ?_
      refine lv_iconst (v := (1 : Int32)) hx hb dX9_note_39 rfl ?_
      refine lv_iadd hx hb dX9_note_40 ?_
      refine lv_bipush (v := (14 : Int32)) hx hb dX9_note_41 rfl ?_
      refine lv_irem hx hb dX9_note_43 (by decide) ?_
      obtain ⟨σ5, eσ5, hf⟩ := zl_s hf
      refine x_putI E hR hS hk4 ok9 4 (Nat.le_of_ble_eq_true rfl) rfl fl_X9_169 (Or.inl rfl) rfl rfl dX9_note_44 (fun H locs hR hS => ?_)
      rw [← eσ5] at hR
      refine lv_aload_n hx hb dX9_note_47 rfl (lv_at hl 0 rfl) ?_
      refine lv_aload_n hx hb dX9_note_48 rfl (lv_at hl 0 rfl) ?_
      refine x_getI E hR (by rw [eσ5]; exact hk4) ok9 3 (Nat.le_of_ble_eq_true rfl) rfl fl_X9_172 dX9_note_49 ?_
      refine lv_bipush (v := (14 : Int32)) hx hb dX9_note_52 rfl ?_
      refine lv_icmp_ge (tgt := 66) hx hb dX9_note_54 (by decide) (fun hq6 => ?_) (fun hq6 => ?_)
      · have hf := ite_p hq6 hf
        refine lv_bipush (v := (14 : Int32)) hx hb dX9_note_66 rfl ?_
        exact V_X9_note_68  _ _ _ _ _ hf p e s m args below meth c _ _ _ _ _ E hR hS (lv_sub hl [] rfl) hc hs
      · have hf := ite_n hq6 hf
        refine lv_aload_n hx hb dX9_note_57 rfl (lv_at hl 0 rfl) ?_
        refine x_getI E hR (by rw [eσ5]; exact hk4) ok9 3 (Nat.le_of_ble_eq_true rfl) rfl fl_X9_172 dX9_note_58 ?_
        refine lv_iconst (v := (1 : Int32)) hx hb dX9_note_61 rfl ?_
        refine lv_iadd hx hb dX9_note_62 ?_
        refine lv_goto (tgt := 68) hx hb dX9_note_63 (by decide) ?_
        exact V_X9_note_68  _ _ _ _ _ hf p e s m args below meth c _ _ _ _ _ E hR hS (lv_sub hl [] rfl) hc hs
    · have hf := ite_n hq3 hf
      refine lv_aload_n hx hb dX9_note_8 rfl (lv_at hl 0 rfl) ?_
      obtain ⟨hk7, hf⟩ := zc_s hf
      obtain ⟨b8, hb8, hf⟩ := zr_s hf
      refine x_getR E hR hk7 hb8 ok9 (Nat.le_of_ble_eq_true rfl) rfl fl_X9_16 dX9_note_9 ?_
      refine lv_bipush (v := (100 : Int32)) hx hb dX9_note_12 rfl ?_
      refine lv_aload_n hx hb dX9_note_14 rfl (lv_at hl 0 rfl) ?_
      refine x_getI E hR hk7 ok9 4 (Nat.le_of_ble_eq_true rfl) rfl fl_X9_169 dX9_note_15 ?_
      refine lv_imul hx hb dX9_note_18 ?_
      refine lv_iload_n hx hb dX9_note_19 rfl (lv_at hl 1 rfl) ?_
      refine lv_iadd hx hb dX9_note_20 ?_
      refine lv_aload_n hx hb dX9_note_21 rfl (lv_at hl 0 rfl) ?_
      obtain ⟨b9, hb9, hf⟩ := zr_s hf
      refine x_getR E hR hk7 hb9 ok9 (Nat.le_of_ble_eq_true rfl) rfl fl_X9_7 dX9_note_22 ?_
      refine lv_iload_n hx hb dX9_note_25 rfl (lv_at hl 1 rfl) ?_
      obtain ⟨hk10, hf⟩ := zc_s hf
      refine x_ild E hR hk10 dX9_note_26 ?_
      obtain ⟨hk11, hf⟩ := zc_s hf
      obtain ⟨σ12, eσ12, hf⟩ := zl_s hf
      refine x_ist E hR hS hk11 dX9_note_27 (fun H locs hR hS => ?_)
      rw [← eσ12] at hR
      refine lv_iinc (v := (v1 + (1 : Int32))) (lv' := [(1, .int (v1 + (1 : Int32))), (0, .ref (gB g + v0))]) hx hb dX9_note_28 hl (k := 1) rfl rfl (Nat.le_of_ble_eq_true rfl) rfl (fun ls hl => ?_)
      refine lv_goto (tgt := 2) hx hb dX9_note_31 (by decide) ?_
      exact ih _ _ _ _ _ hf p e s m args below meth c _ _ _ _ _ E hR hS (lv_sub hl [1, 0] rfl) hc hs
set_option maxRecDepth 100000 in
def f_X9_note (v0 : Nat) (σ : Mm) : Option (Unit × Mm) :=
  f_X9_note_2 1000 v0 (0 : Int32) σ
set_option maxRecDepth 100000 in
set_option maxHeartbeats 4000000 in
theorem V_X9_note_0 {g : GG} (v0 : Nat) (σ : Mm) (r : Unit) (σ' : Mm) (hf : f_X9_note v0 σ = some (r, σ')) : VJ g RX9 cX9_note 2 none false rm_X9_note none σ' (0) (0) 0 [(0, .ref (gB g + v0))] [] σ := by
  intro p e s m args below meth c H locs cells slots ls E hR hS hl hc hs
  obtain ⟨hx, hb, hml, hr, hlocks, hown, hts, hin, hT⟩ := id E
  unfold f_X9_note at hf
  refine lv_iconst (v := (0 : Int32)) hx hb dX9_note_0 rfl ?_
  refine lv_istore_n (lv' := [(1, .int (0 : Int32)), (0, .ref (gB g + v0))]) hx hb dX9_note_1 rfl hl (Nat.le_of_ble_eq_true rfl) rfl (fun ls hl => ?_)
  exact V_X9_note_2  1000 _ _ _ _ _ hf p e s m args below meth c _ _ _ _ _ E hR hS (lv_sub hl [1, 0] rfl) hc hs
theorem C_X9_note {g : GG} {v0 : Nat} {σ : Mm} {r : Unit} {σ' : Mm} (hf : f_X9_note v0 σ = some (r, σ')) : Ct g yX9_note cX9_note 2 none rm_X9_note [.ref (gB g + v0)] σ none σ' :=
  Ct.of false (by decide +kernel) (fun h => by cases h) (Nat.le_of_ble_eq_true rfl) (V_X9_note_0 _ _ _ _ hf)
abbrev rm_X9_mayPut : Room := { frames := 1, cells := 0, slots := 0, locals := 22 }
set_option maxRecDepth 100000 in
def f_X9_mayPut (v0 : Nat) (v1 : Int32) (σ : Mm) : Option (Int32 × Mm) :=
  zck (kA σ 1 v0 v1) (if (mD σ v0 (ix v1)) = (-9 : Int32) then (zcb (f_X9_manyOf v0 σ) (fun r3 σ4 => if (40 : Int32) ≤ r3 then (some ((0 : Int32), σ4)) else (some ((1 : Int32), σ4)))) else (some ((1 : Int32), σ)))
set_option maxRecDepth 100000 in
set_option maxHeartbeats 4000000 in
theorem V_X9_mayPut_0 {g : GG} (v0 : Nat) (v1 : Int32) (σ : Mm) (r : Int32) (σ' : Mm) (hf : f_X9_mayPut v0 v1 σ = some (r, σ')) : VJ g RX9 cX9_mayPut 2 (some .boolean) false rm_X9_mayPut (some (.int r)) σ' (0) (0) 0 [(0, .ref (gB g + v0)), (1, .int v1)] [] σ := by
  intro p e s m args below meth c H locs cells slots ls E hR hS hl hc hs
  obtain ⟨hx, hb, hml, hr, hlocks, hown, hts, hin, hT⟩ := id E
  unfold f_X9_mayPut at hf
  refine lv_aload_n hx hb dX9_mayPut_0 rfl (lv_at hl 0 rfl) ?_
  refine lv_iload_n hx hb dX9_mayPut_1 rfl (lv_at hl 1 rfl) ?_
  obtain ⟨hk1, hf⟩ := zc_s hf
  refine x_ild E hR hk1 dX9_mayPut_2 ?_
  refine lv_bipush (v := (-9 : Int32)) hx hb dX9_mayPut_3 rfl ?_
  refine lv_icmp_ne (tgt := 17) hx hb dX9_mayPut_5 (by decide) (fun hq2 => ?_) (fun hq2 => ?_)
  · have hf := ite_n hq2 hf
    refine lv_iconst (v := (1 : Int32)) hx hb dX9_mayPut_17 rfl ?_
    refine lv_goto (tgt := 22) hx hb dX9_mayPut_18 (by decide) ?_
    obtain ⟨hr1, hs1⟩ := Prod.mk.inj (Option.some.inj hf)
    exact xr_z E hR hS rfl rfl (by rw [hr1]) hs1.symm hc hs dX9_mayPut_22
  · have hf := ite_p hq2 hf
    refine lv_aload_n hx hb dX9_mayPut_8 rfl (lv_at hl 0 rfl) ?_
    obtain ⟨r3, σ4, hcr3, hf⟩ := zq_s hf
    refine xS (As := [.ref (gB g + v0)]) (rest := []) (st1 := [.int r3]) E hR hS hl (C_X9_manyOf hcr3) lb_X9_manyOf ls_X9_manyOf ml_X9_175 ⟨Nat.le_of_ble_eq_true rfl, Nat.le_of_ble_eq_true rfl⟩ rfl rfl rfl (Nat.le_of_ble_eq_true rfl) dX9_mayPut_9 ⟨hc, hs⟩ (fun H locs hR hS => ?_)
    refine lv_bipush (v := (40 : Int32)) hx hb dX9_mayPut_12 rfl ?_
    refine lv_icmp_ge (tgt := 21) hx hb dX9_mayPut_14 (by decide) (fun hq5 => ?_) (fun hq5 => ?_)
    · have hf := ite_p hq5 hf
      refine lv_iconst (v := (0 : Int32)) hx hb dX9_mayPut_21 rfl ?_
      obtain ⟨hr1, hs1⟩ := Prod.mk.inj (Option.some.inj hf)
      exact xr_z E hR hS rfl rfl (by rw [hr1]) hs1.symm hc hs dX9_mayPut_22
    · have hf := ite_n hq5 hf
      refine lv_iconst (v := (1 : Int32)) hx hb dX9_mayPut_17 rfl ?_
      refine lv_goto (tgt := 22) hx hb dX9_mayPut_18 (by decide) ?_
      obtain ⟨hr1, hs1⟩ := Prod.mk.inj (Option.some.inj hf)
      exact xr_z E hR hS rfl rfl (by rw [hr1]) hs1.symm hc hs dX9_mayPut_22
theorem C_X9_mayPut {g : GG} {v0 : Nat} {v1 : Int32} {σ : Mm} {r : Int32} {σ' : Mm} (hf : f_X9_mayPut v0 v1 σ = some (r, σ')) : Ct g yX9_mayPut cX9_mayPut 2 (some .boolean) rm_X9_mayPut [.ref (gB g + v0), .int v1] σ (some (.int r)) σ' :=
  Ct.of false (by decide +kernel) (fun h => by cases h) (Nat.le_of_ble_eq_true rfl) (V_X9_mayPut_0 _ _ _ _ _ hf)
abbrev rm_X9_put : Room := { frames := 2, cells := 0, slots := 0, locals := 45 }
set_option maxRecDepth 100000 in
def f_X9_put (v0 : Nat) (v1 : Int32) (v2 : Int32) (σ : Mm) : Option (Int32 × Mm) :=
  zcb (f_X9_isNumber v1 σ) (fun r1 σ2 => if r1 = 0 then (some ((-2 : Int32), σ2)) else (zcb (f_X9_isNumber v2 σ2) (fun r4 σ5 => if r4 = 0 then (some ((-2 : Int32), σ5)) else (zck (kO σ5 v0 9) (zrb (mR σ5 v0 0) (fun b8 => zcb (f_X9_mayPut b8 v1 σ5) (fun r9 σ10 => if r9 = 0 then (some ((-4 : Int32), σ10)) else (zck (kO σ10 v0 9) (zcb (f_X9_note v0 σ10) (fun r13 σ14 => zck (kO σ14 v0 9) (zrb (mR σ14 v0 0) (fun b16 => zck (kA σ14 1 b16 v1) (zck (kA σ14 1 b16 v1) (zlt (sD σ14 b16 (ix v1) v2) (fun σ19 => some ((mD σ14 b16 (ix v1)), σ19))))))))))))))))
set_option maxRecDepth 100000 in
set_option maxHeartbeats 4000000 in
theorem V_X9_put_0 {g : GG} (v0 : Nat) (v1 : Int32) (v2 : Int32) (σ : Mm) (r : Int32) (σ' : Mm) (hf : f_X9_put v0 v1 v2 σ = some (r, σ')) : VJ g RX9 cX9_put 4 (some .int) false rm_X9_put (some (.int r)) σ' (0) (0) 0 [(0, .ref (gB g + v0)), (1, .int v1), (2, .int v2)] [] σ := by
  intro p e s m args below meth c H locs cells slots ls E hR hS hl hc hs
  obtain ⟨hx, hb, hml, hr, hlocks, hown, hts, hin, hT⟩ := id E
  unfold f_X9_put at hf
  refine lv_iload_n hx hb dX9_put_0 rfl (lv_at hl 1 rfl) ?_
  obtain ⟨r1, σ2, hcr1, hf⟩ := zq_s hf
  refine xS (As := [.int v1]) (rest := []) (st1 := [.int r1]) E hR hS hl (C_X9_isNumber hcr1) lb_X9_isNumber ls_X9_isNumber ml_X9_125 ⟨Nat.le_of_ble_eq_true rfl, Nat.le_of_ble_eq_true rfl⟩ rfl rfl rfl (Nat.le_of_ble_eq_true rfl) dX9_put_1 ⟨hc, hs⟩ (fun H locs hR hS => ?_)
  refine lv_if_eq (tgt := 14) hx hb dX9_put_4 (by decide) (fun hq3 => ?_) (fun hq3 => ?_)
  · have hf := ite_p hq3 hf
    refine lv_bipush (v := (-2 : Int32)) hx hb dX9_put_14 rfl ?_
    obtain ⟨hr1, hs1⟩ := Prod.mk.inj (Option.some.inj hf)
    exact xr_i E hR hS rfl (by rw [hr1]) hs1.symm hc hs dX9_put_16
  · have hf := ite_n hq3 hf
    refine lv_iload_n hx hb dX9_put_7 rfl (lv_at hl 2 rfl) ?_
    obtain ⟨r4, σ5, hcr4, hf⟩ := zq_s hf
    refine xS (As := [.int v2]) (rest := []) (st1 := [.int r4]) E hR hS hl (C_X9_isNumber hcr4) lb_X9_isNumber ls_X9_isNumber ml_X9_125 ⟨Nat.le_of_ble_eq_true rfl, Nat.le_of_ble_eq_true rfl⟩ rfl rfl rfl (Nat.le_of_ble_eq_true rfl) dX9_put_8 ⟨hc, hs⟩ (fun H locs hR hS => ?_)
    refine lv_if_ne (tgt := 17) hx hb dX9_put_11 (by decide) (fun hq6 => ?_) (fun hq6 => ?_)
    · have hf := ite_n hq6 hf
      refine lv_aload_n hx hb dX9_put_17 rfl (lv_at hl 0 rfl) ?_
      obtain ⟨hk7, hf⟩ := zc_s hf
      obtain ⟨b8, hb8, hf⟩ := zr_s hf
      refine x_getR E hR hk7 hb8 ok9 (Nat.le_of_ble_eq_true rfl) rfl fl_X9_7 dX9_put_18 ?_
      refine lv_iload_n hx hb dX9_put_21 rfl (lv_at hl 1 rfl) ?_
      obtain ⟨r9, σ10, hcr9, hf⟩ := zq_s hf
      refine xS (As := [.ref (gB g + b8), .int v1]) (rest := []) (st1 := [.int r9]) E hR hS hl (C_X9_mayPut hcr9) lb_X9_mayPut ls_X9_mayPut ml_X9_179 ⟨Nat.le_of_ble_eq_true rfl, Nat.le_of_ble_eq_true rfl⟩ rfl rfl rfl (Nat.le_of_ble_eq_true rfl) dX9_put_22 ⟨hc, hs⟩ (fun H locs hR hS => ?_)
      refine lv_if_ne (tgt := 31) hx hb dX9_put_25 (by decide) (fun hq11 => ?_) (fun hq11 => ?_)
      · have hf := ite_n hq11 hf
        refine lv_aload_n hx hb dX9_put_31 rfl (lv_at hl 0 rfl) ?_
        obtain ⟨hk12, hf⟩ := zc_s hf
        obtain ⟨r13, σ14, hcr13, hf⟩ := zq_s hf
        refine xV (As := []) (rest := []) (st1 := []) E hR hS hl (C_X9_note hcr13) hk12 ok9 lb_X9_note lv_X9_note ml_X9_183 ⟨Nat.le_of_ble_eq_true rfl, Nat.le_of_ble_eq_true rfl⟩ rfl rfl rfl (Nat.le_of_ble_eq_true rfl) dX9_put_32 ⟨hc, hs⟩ (fun H locs hR hS => ?_)
        refine lv_aload_n hx hb dX9_put_35 rfl (lv_at hl 0 rfl) ?_
        obtain ⟨hk15, hf⟩ := zc_s hf
        obtain ⟨b16, hb16, hf⟩ := zr_s hf
        refine x_getR E hR hk15 hb16 ok9 (Nat.le_of_ble_eq_true rfl) rfl fl_X9_7 dX9_put_36 ?_
        refine lv_iload_n hx hb dX9_put_39 rfl (lv_at hl 1 rfl) ?_
        obtain ⟨hk17, hf⟩ := zc_s hf
        refine x_ild E hR hk17 dX9_put_40 ?_
        refine lv_istore_n (lv' := [(3, .int (mD σ14 b16 (ix v1))), (0, .ref (gB g + v0)), (1, .int v1), (2, .int v2)]) hx hb dX9_put_41 rfl hl (Nat.le_of_ble_eq_true rfl) rfl (fun ls hl => ?_)
        refine lv_aload_n hx hb dX9_put_42 rfl (lv_at hl 1 rfl) ?_
        refine x_getR E hR hk15 hb16 ok9 (Nat.le_of_ble_eq_true rfl) rfl fl_X9_7 dX9_put_43 ?_
        refine lv_iload_n hx hb dX9_put_46 rfl (lv_at hl 2 rfl) ?_
        refine lv_iload_n hx hb dX9_put_47 rfl (lv_at hl 3 rfl) ?_
        obtain ⟨hk18, hf⟩ := zc_s hf
        obtain ⟨σ19, eσ19, hf⟩ := zl_s hf
        refine x_ist E hR hS hk18 dX9_put_48 (fun H locs hR hS => ?_)
        rw [← eσ19] at hR
        refine lv_iload_n hx hb dX9_put_49 rfl (lv_at hl 0 rfl) ?_
        obtain ⟨hr1, hs1⟩ := Prod.mk.inj (Option.some.inj hf)
        exact xr_i E hR hS rfl (by rw [hr1]) hs1.symm hc hs dX9_put_50
      · have hf := ite_p hq11 hf
        refine lv_bipush (v := (-4 : Int32)) hx hb dX9_put_28 rfl ?_
        obtain ⟨hr1, hs1⟩ := Prod.mk.inj (Option.some.inj hf)
        exact xr_i E hR hS rfl (by rw [hr1]) hs1.symm hc hs dX9_put_30
    · have hf := ite_p hq6 hf
      refine lv_bipush (v := (-2 : Int32)) hx hb dX9_put_14 rfl ?_
      obtain ⟨hr1, hs1⟩ := Prod.mk.inj (Option.some.inj hf)
      exact xr_i E hR hS rfl (by rw [hr1]) hs1.symm hc hs dX9_put_16
theorem C_X9_put {g : GG} {v0 : Nat} {v1 : Int32} {v2 : Int32} {σ : Mm} {r : Int32} {σ' : Mm} (hf : f_X9_put v0 v1 v2 σ = some (r, σ')) : Ct g yX9_put cX9_put 4 (some .int) rm_X9_put [.ref (gB g + v0), .int v1, .int v2] σ (some (.int r)) σ' :=
  Ct.of false (by decide +kernel) (fun h => by cases h) (Nat.le_of_ble_eq_true rfl) (V_X9_put_0 _ _ _ _ _ _ hf)
abbrev rm_X9_remove : Room := { frames := 2, cells := 0, slots := 0, locals := 45 }
set_option maxRecDepth 100000 in
def f_X9_remove (v0 : Nat) (v1 : Int32) (σ : Mm) : Option (Int32 × Mm) :=
  zcb (f_X9_isNumber v1 σ) (fun r1 σ2 => if r1 = 0 then (some ((-2 : Int32), σ2)) else (zck (kO σ2 v0 9) (zrb (mR σ2 v0 0) (fun b5 => zck (kA σ2 1 b5 v1) (if (mD σ2 b5 (ix v1)) = (-9 : Int32) then (some ((-1 : Int32), σ2)) else (zcb (f_X9_note v0 σ2) (fun r8 σ9 => zck (kO σ9 v0 9) (zrb (mR σ9 v0 0) (fun b11 => zck (kA σ9 1 b11 v1) (zck (kA σ9 1 b11 v1) (zlt (sD σ9 b11 (ix v1) (-9 : Int32)) (fun σ14 => some ((mD σ9 b11 (ix v1)), σ14)))))))))))))
set_option maxRecDepth 100000 in
set_option maxHeartbeats 4000000 in
theorem V_X9_remove_0 {g : GG} (v0 : Nat) (v1 : Int32) (σ : Mm) (r : Int32) (σ' : Mm) (hf : f_X9_remove v0 v1 σ = some (r, σ')) : VJ g RX9 cX9_remove 3 (some .int) false rm_X9_remove (some (.int r)) σ' (0) (0) 0 [(0, .ref (gB g + v0)), (1, .int v1)] [] σ := by
  intro p e s m args below meth c H locs cells slots ls E hR hS hl hc hs
  obtain ⟨hx, hb, hml, hr, hlocks, hown, hts, hin, hT⟩ := id E
  unfold f_X9_remove at hf
  refine lv_iload_n hx hb dX9_remove_0 rfl (lv_at hl 1 rfl) ?_
  obtain ⟨r1, σ2, hcr1, hf⟩ := zq_s hf
  refine xS (As := [.int v1]) (rest := []) (st1 := [.int r1]) E hR hS hl (C_X9_isNumber hcr1) lb_X9_isNumber ls_X9_isNumber ml_X9_125 ⟨Nat.le_of_ble_eq_true rfl, Nat.le_of_ble_eq_true rfl⟩ rfl rfl rfl (Nat.le_of_ble_eq_true rfl) dX9_remove_1 ⟨hc, hs⟩ (fun H locs hR hS => ?_)
  refine lv_if_ne (tgt := 10) hx hb dX9_remove_4 (by decide) (fun hq3 => ?_) (fun hq3 => ?_)
  · have hf := ite_n hq3 hf
    refine lv_aload_n hx hb dX9_remove_10 rfl (lv_at hl 0 rfl) ?_
    obtain ⟨hk4, hf⟩ := zc_s hf
    obtain ⟨b5, hb5, hf⟩ := zr_s hf
    refine x_getR E hR hk4 hb5 ok9 (Nat.le_of_ble_eq_true rfl) rfl fl_X9_7 dX9_remove_11 ?_
    refine lv_iload_n hx hb dX9_remove_14 rfl (lv_at hl 1 rfl) ?_
    obtain ⟨hk6, hf⟩ := zc_s hf
    refine x_ild E hR hk6 dX9_remove_15 ?_
    refine lv_bipush (v := (-9 : Int32)) hx hb dX9_remove_16 rfl ?_
    refine lv_icmp_ne (tgt := 23) hx hb dX9_remove_18 (by decide) (fun hq7 => ?_) (fun hq7 => ?_)
    · have hf := ite_n hq7 hf
      refine lv_aload_n hx hb dX9_remove_23 rfl (lv_at hl 0 rfl) ?_
      obtain ⟨r8, σ9, hcr8, hf⟩ := zq_s hf
      refine xV (As := []) (rest := []) (st1 := []) E hR hS hl (C_X9_note hcr8) hk4 ok9 lb_X9_note lv_X9_note ml_X9_183 ⟨Nat.le_of_ble_eq_true rfl, Nat.le_of_ble_eq_true rfl⟩ rfl rfl rfl (Nat.le_of_ble_eq_true rfl) dX9_remove_24 ⟨hc, hs⟩ (fun H locs hR hS => ?_)
      refine lv_aload_n hx hb dX9_remove_27 rfl (lv_at hl 0 rfl) ?_
      obtain ⟨hk10, hf⟩ := zc_s hf
      obtain ⟨b11, hb11, hf⟩ := zr_s hf
      refine x_getR E hR hk10 hb11 ok9 (Nat.le_of_ble_eq_true rfl) rfl fl_X9_7 dX9_remove_28 ?_
      refine lv_iload_n hx hb dX9_remove_31 rfl (lv_at hl 1 rfl) ?_
      obtain ⟨hk12, hf⟩ := zc_s hf
      refine x_ild E hR hk12 dX9_remove_32 ?_
      refine lv_istore_n (lv' := [(2, .int (mD σ9 b11 (ix v1))), (0, .ref (gB g + v0)), (1, .int v1)]) hx hb dX9_remove_33 rfl hl (Nat.le_of_ble_eq_true rfl) rfl (fun ls hl => ?_)
      refine lv_aload_n hx hb dX9_remove_34 rfl (lv_at hl 1 rfl) ?_
      refine x_getR E hR hk10 hb11 ok9 (Nat.le_of_ble_eq_true rfl) rfl fl_X9_7 dX9_remove_35 ?_
      refine lv_iload_n hx hb dX9_remove_38 rfl (lv_at hl 2 rfl) ?_
      refine lv_bipush (v := (-9 : Int32)) hx hb dX9_remove_39 rfl ?_
      obtain ⟨hk13, hf⟩ := zc_s hf
      obtain ⟨σ14, eσ14, hf⟩ := zl_s hf
      refine x_ist E hR hS hk13 dX9_remove_41 (fun H locs hR hS => ?_)
      rw [← eσ14] at hR
      refine lv_iload_n hx hb dX9_remove_42 rfl (lv_at hl 0 rfl) ?_
      obtain ⟨hr1, hs1⟩ := Prod.mk.inj (Option.some.inj hf)
      exact xr_i E hR hS rfl (by rw [hr1]) hs1.symm hc hs dX9_remove_43
    · have hf := ite_p hq7 hf
      refine lv_iconst (v := (-1 : Int32)) hx hb dX9_remove_21 rfl ?_
      obtain ⟨hr1, hs1⟩ := Prod.mk.inj (Option.some.inj hf)
      exact xr_i E hR hS rfl (by rw [hr1]) hs1.symm hc hs dX9_remove_22
  · have hf := ite_p hq3 hf
    refine lv_bipush (v := (-2 : Int32)) hx hb dX9_remove_7 rfl ?_
    obtain ⟨hr1, hs1⟩ := Prod.mk.inj (Option.some.inj hf)
    exact xr_i E hR hS rfl (by rw [hr1]) hs1.symm hc hs dX9_remove_9
theorem C_X9_remove {g : GG} {v0 : Nat} {v1 : Int32} {σ : Mm} {r : Int32} {σ' : Mm} (hf : f_X9_remove v0 v1 σ = some (r, σ')) : Ct g yX9_remove cX9_remove 3 (some .int) rm_X9_remove [.ref (gB g + v0), .int v1] σ (some (.int r)) σ' :=
  Ct.of false (by decide +kernel) (fun h => by cases h) (Nat.le_of_ble_eq_true rfl) (V_X9_remove_0 _ _ _ _ _ hf)
