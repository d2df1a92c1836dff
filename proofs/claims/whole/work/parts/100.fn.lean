abbrev rm_J7_fill_53178 : Room := { frames := 0, cells := 0, slots := 0, locals := 0 }
set_option maxRecDepth 100000 in
def f_J7_fill_53178_5 : Nat → Nat → Int32 → Int32 → Int32 → Mm → Option (Unit × Mm)
  | 0, _, _, _, _, _ => none
  | n + 1, v0, v1, v2, v3, σ =>
    if v3 ≤ v2 then (some ((), σ)) else (zck (kA σ 1 v0 v2) (zlt (sD σ v0 (ix v2) v1) (fun σ3 => f_J7_fill_53178_5 n v0 v1 (v2 + (1 : Int32)) v3 σ3)))
set_option maxRecDepth 100000 in
set_option maxHeartbeats 4000000 in
theorem V_J7_fill_53178_5 {g : GG} : ∀ (n : Nat) (v0 : Nat) (v1 : Int32) (v2 : Int32) (v3 : Int32) (σ : Mm) (r : Unit) (σ' : Mm), f_J7_fill_53178_5 n v0 v1 v2 v3 σ = some (r, σ') → VJ g RJ7 cJ7_fill_53178 4 none false rm_J7_fill_53178 none σ' (0) (0) 5 [(0, .ref (gB g + v0)), (1, .int v1), (2, .int v2), (3, .int v3)] [] σ := by
  intro n
  induction n with
  | zero =>
    intro v0 v1 v2 v3 σ r σ' hf
    unfold f_J7_fill_53178_5 at hf
    cases hf
  | succ n ih =>
    intro v0 v1 v2 v3 σ r σ' hf p e s m args below meth c H locs cells slots ls E hR hS hl hc hs
    obtain ⟨hx, hb, hml, hr, hlocks, hown, hts, hin, hT⟩ := id E
    unfold f_J7_fill_53178_5 at hf
    refine lv_iload_n hx hb dJ7_fill_53178_5 rfl (lv_at hl 2 rfl) ?_
    refine lv_iload_n hx hb dJ7_fill_53178_6 rfl (lv_at hl 3 rfl) ?_
    refine lv_icmp_ge (tgt := 20) hx hb dJ7_fill_53178_7 (by decide) (fun hq1 => ?_) (fun hq1 => ?_)
    · have hf := ite_p hq1 hf
      obtain ⟨hr1, hs1⟩ := Prod.mk.inj (Option.some.inj hf)
      exact xr_v E hR hS rfl rfl hs1.symm hc hs dJ7_fill_53178_20
    · have hf := ite_n hq1 hf
      refine lv_aload_n hx hb dJ7_fill_53178_10 rfl (lv_at hl 0 rfl) ?_
      refine lv_iload_n hx hb dJ7_fill_53178_11 rfl (lv_at hl 2 rfl) ?_
      refine lv_iload_n hx hb dJ7_fill_53178_12 rfl (lv_at hl 1 rfl) ?_
      obtain ⟨hk2, hf⟩ := zc_s hf
      obtain ⟨σ3, eσ3, hf⟩ := zl_s hf
      refine x_ist E hR hS hk2 dJ7_fill_53178_13 (fun H locs hR hS => ?_)
      rw [← eσ3] at hR
      refine lv_iinc (v := (v2 + (1 : Int32))) (lv' := [(2, .int (v2 + (1 : Int32))), (0, .ref (gB g + v0)), (1, .int v1), (3, .int v3)]) hx hb dJ7_fill_53178_14 hl (k := 2) rfl rfl (Nat.le_of_ble_eq_true rfl) rfl (fun ls hl => ?_)
      refine lv_goto (tgt := 5) hx hb dJ7_fill_53178_17 (by decide) ?_
      exact ih _ _ _ _ _ _ _ hf p e s m args below meth c _ _ _ _ _ E hR hS (lv_sub hl [1, 2, 0, 3] rfl) hc hs
set_option maxRecDepth 100000 in
def f_J7_fill_53178 (v0 : Nat) (v1 : Int32) (σ : Mm) : Option (Unit × Mm) :=
  zck (kL σ v0) (f_J7_fill_53178_5 1000 v0 v1 (0 : Int32) (Int32.ofNat (mK σ v0).2) σ)
set_option maxRecDepth 100000 in
set_option maxHeartbeats 4000000 in
theorem V_J7_fill_53178_0 {g : GG} (v0 : Nat) (v1 : Int32) (σ : Mm) (r : Unit) (σ' : Mm) (hf : f_J7_fill_53178 v0 v1 σ = some (r, σ')) : VJ g RJ7 cJ7_fill_53178 4 none false rm_J7_fill_53178 none σ' (0) (0) 0 [(0, .ref (gB g + v0)), (1, .int v1)] [] σ := by
  intro p e s m args below meth c H locs cells slots ls E hR hS hl hc hs
  obtain ⟨hx, hb, hml, hr, hlocks, hown, hts, hin, hT⟩ := id E
  unfold f_J7_fill_53178 at hf
  refine lv_iconst (v := (0 : Int32)) hx hb dJ7_fill_53178_0 rfl ?_
  refine lv_istore_n (lv' := [(2, .int (0 : Int32)), (0, .ref (gB g + v0)), (1, .int v1)]) hx hb dJ7_fill_53178_1 rfl hl (Nat.le_of_ble_eq_true rfl) rfl (fun ls hl => ?_)
  refine lv_aload_n hx hb dJ7_fill_53178_2 rfl (lv_at hl 1 rfl) ?_
  obtain ⟨hk4, hf⟩ := zc_s hf
  refine x_alen E hR hk4 dJ7_fill_53178_3 ?_
  refine lv_istore_n (lv' := [(3, .int (Int32.ofNat (mK σ v0).2)), (2, .int (0 : Int32)), (0, .ref (gB g + v0)), (1, .int v1)]) hx hb dJ7_fill_53178_4 rfl hl (Nat.le_of_ble_eq_true rfl) rfl (fun ls hl => ?_)
  exact V_J7_fill_53178_5  1000 _ _ _ _ _ _ _ hf p e s m args below meth c _ _ _ _ _ E hR hS (lv_sub hl [2, 3, 1, 0] rfl) hc hs
theorem C_J7_fill_53178 {g : GG} {v0 : Nat} {v1 : Int32} {σ : Mm} {r : Unit} {σ' : Mm} (hf : f_J7_fill_53178 v0 v1 σ = some (r, σ')) : Ct g yJ7_fill_53178 cJ7_fill_53178 4 none rm_J7_fill_53178 [.ref (gB g + v0), .int v1] σ none σ' :=
  Ct.of false (by decide +kernel) (fun h => by cases h) (Nat.le_of_ble_eq_true rfl) (V_J7_fill_53178_0 _ _ _ _ _ hf)
abbrev rm_X2_init : Room := { frames := 1, cells := 1, slots := 100, locals := 23 }
set_option maxRecDepth 100000 in
def f_X2_init (v0 : Nat) (σ : Mm) : Option (Unit × Mm) :=
  zlt (nw σ (1, 100)) (fun σ1 => zck (kO σ1 v0 2) (zlt (sR σ1 v0 0 (mN σ)) (fun σ3 => zrb (mR σ3 v0 0) (fun b4 => zcb (f_J7_fill_53178 b4 (-9 : Int32) σ3) (fun r5 σ6 => some ((), σ6))))))
set_option maxRecDepth 100000 in
set_option maxHeartbeats 4000000 in
theorem V_X2_init_0 {g : GG} (v0 : Nat) (σ : Mm) (r : Unit) (σ' : Mm) (hf : f_X2_init v0 σ = some (r, σ')) (kc ks : Nat) (hqe : 1 ≤ kc ∧ 100 ≤ ks) : VJ g RX2 cX2_init 1 none true rm_X2_init none σ' (kc) (ks) 0 [(0, .ref (gB g + v0))] [] σ := by
  intro p e s m args below meth c H locs cells slots ls E hR hS hl hc hs
  have hc : cells + kc ≤ 1 := hc
  have hs : slots + ks ≤ 100 := hs
  obtain ⟨hx, hb, hml, hr, hlocks, hown, hts, hin, hT⟩ := id E
  unfold f_X2_init at hf
  refine lv_aload_n hx hb dX2_init_0 rfl (lv_at hl 0 rfl) ?_
  refine x_obj (rest := []) E hl ob_X2_3 obI obC (Nat.le_of_ble_eq_true rfl) (Nat.le_of_ble_eq_true rfl) dX2_init_1 ?_
  refine lv_aload_n hx hb dX2_init_4 rfl (lv_at hl 0 rfl) ?_
  refine lv_bipush (v := (100 : Int32)) hx hb dX2_init_5 rfl ?_
  obtain ⟨σ1, eσ1, hf⟩ := zl_s hf
  refine x_newI (L := 100) E hR hS caI (by decide) (by decide) (Nat.le_of_ble_eq_true rfl) (show cells + 1 ≤ 1 by omega) (show slots + 100 ≤ 100 by omega) dX2_init_7 (fun H hR hS => ?_)
  rw [← eσ1] at hR
  obtain ⟨hk2, hf⟩ := zc_s hf
  obtain ⟨σ3, eσ3, hf⟩ := zl_s hf
  refine x_putR E hR hS hk2 ok2 0 (Nat.le_of_ble_eq_true rfl) rfl fl_X2_9 (Or.inr ⟨rfl, rfl, rfl⟩) (fun _ => rfl) (fun _ => rfl) dX2_init_9 (fun H locs hR hS => ?_)
  rw [← eσ3] at hR
  refine lv_aload_n hx hb dX2_init_12 rfl (lv_at hl 0 rfl) ?_
  obtain ⟨b4, hb4, hf⟩ := zr_s hf
  refine x_getR E hR (by rw [eσ3]; exact hk2) hb4 ok2 (Nat.le_of_ble_eq_true rfl) rfl fl_X2_9 dX2_init_13 ?_
  refine lv_bipush (v := (-9 : Int32)) hx hb dX2_init_16 rfl ?_
  obtain ⟨r5, σ6, hcr5, hf⟩ := zq_s hf
  refine xS (As := [.ref (gB g + b4), .int (-9 : Int32)]) (rest := []) (st1 := []) E hR hS hl (C_J7_fill_53178 hcr5) lb_J7_fill_53178 ls_J7_fill_53178 ml_X2_15 ⟨Nat.le_of_ble_eq_true rfl, Nat.le_of_ble_eq_true rfl⟩ rfl rfl rfl (Nat.le_of_ble_eq_true rfl) dX2_init_18 ⟨show cells + 1 + 0 ≤ 1 by omega, show slots + 100 + 0 ≤ 100 by omega⟩ (fun H locs hR hS => ?_)
  obtain ⟨hr1, hs1⟩ := Prod.mk.inj (Option.some.inj hf)
  exact xr_v E hR hS rfl rfl hs1.symm (show cells + 1 + 0 ≤ 1 by omega) (show slots + 100 + 0 ≤ 100 by omega) dX2_init_21
theorem C_X2_init {g : GG} {v0 : Nat} {σ : Mm} {r : Unit} {σ' : Mm} (hf : f_X2_init v0 σ = some (r, σ')) : Ct g yX2_init cX2_init 1 none rm_X2_init [.ref (gB g + v0)] σ none σ' :=
  Ct.of true (by decide +kernel) (fun _ => rfl) (Nat.le_of_ble_eq_true rfl) (V_X2_init_0 _ _ _ _ hf 1 100 ⟨Nat.le_of_ble_eq_true rfl, Nat.le_of_ble_eq_true rfl⟩)
abbrev rm_X0_init : Room := { frames := 2, cells := 31, slots := 1544, locals := 43 }
set_option maxRecDepth 100000 in
def f_X0_init_15 : Nat → Nat → Int32 → Mm → Option (Unit × Mm)
  | 0, _, _, _ => none
  | n + 1, v0, v1, σ =>
    if (14 : Int32) ≤ v1 then (some ((), σ)) else (zck (kO σ v0 0) (zrb (mR σ v0 0) (fun b3 => zlt (nw σ (0, 2)) (fun σ4 => zcb (f_X2_init (mN σ) σ4) (fun r5 σ6 => zck (kA σ6 3 b3 v1) (zck (kO σ6 (mN σ) 2) (zlt (sR σ6 b3 (ix v1) (mN σ)) (fun σ9 => f_X0_init_15 n v0 (v1 + (1 : Int32)) σ9))))))))
set_option maxRecDepth 100000 in
set_option maxHeartbeats 4000000 in
theorem V_X0_init_15 {g : GG} : ∀ (n : Nat) (v0 : Nat) (v1 : Int32) (σ : Mm) (r : Unit) (σ' : Mm), f_X0_init_15 n v0 v1 σ = some (r, σ') → VJ g RX0 cX0_init 2 none true rm_X0_init none σ' (n * 2 + 0) (n * 102 + 0) 15 [(0, .ref (gB g + v0)), (1, .int v1)] [] σ := by
  intro n
  induction n with
  | zero =>
    intro v0 v1 σ r σ' hf
    unfold f_X0_init_15 at hf
    cases hf
  | succ n ih =>
    intro v0 v1 σ r σ' hf p e s m args below meth c H locs cells slots ls E hR hS hl hc hs
    have hc : cells + ((n + 1) * 2 + 0) ≤ 31 := hc
    have hs : slots + ((n + 1) * 102 + 0) ≤ 1544 := hs
    obtain ⟨hx, hb, hml, hr, hlocks, hown, hts, hin, hT⟩ := id E
    unfold f_X0_init_15 at hf
    refine lv_iload_n hx hb dX0_init_15 rfl (lv_at hl 1 rfl) ?_
    refine lv_bipush (v := (14 : Int32)) hx hb dX0_init_16 rfl ?_
    refine lv_icmp_ge (tgt := 40) hx hb dX0_init_18 (by decide) (fun hq1 => ?_) (fun hq1 => ?_)
    · have hf := ite_p hq1 hf
      obtain ⟨hr1, hs1⟩ := Prod.mk.inj (Option.some.inj hf)
      exact xr_v E hR hS rfl rfl hs1.symm (show cells ≤ 31 by omega) (show slots ≤ 1544 by omega) dX0_init_40
    · have hf := ite_n hq1 hf
      refine lv_aload_n hx hb dX0_init_21 rfl (lv_at hl 0 rfl) ?_
      obtain ⟨hk2, hf⟩ := zc_s hf
      obtain ⟨b3, hb3, hf⟩ := zr_s hf
      refine x_getR E hR hk2 hb3 ok0 (Nat.le_of_ble_eq_true rfl) rfl fl_X0_11 dX0_init_22 ?_
      refine lv_iload_n hx hb dX0_init_25 rfl (lv_at hl 1 rfl) ?_
      obtain ⟨σ4, eσ4, hf⟩ := zl_s hf
      refine x_new E hR hS ok2 cd2 cl_X0_9 cn2 ci2 (show cells + 1 ≤ 31 by omega) (show slots + 2 ≤ 1544 by omega) dX0_init_26 (fun H hR hS => ?_)
      rw [← eσ4] at hR
      refine lv_dup hx hb dX0_init_29 rfl ?_
      obtain ⟨r5, σ6, hcr5, hf⟩ := zq_s hf
      refine xI (As := []) (rest := [.ref (gB g + (mN σ)), .int v1, .ref (gB g + b3)]) (st1 := [.ref (gB g + (mN σ)), .int v1, .ref (gB g + b3)]) E hR hS hl (C_X2_init hcr5) lb_X2_init li_X2_init ml_X0_17 ⟨Nat.le_of_ble_eq_true rfl, Nat.le_of_ble_eq_true rfl⟩ rfl rfl rfl (Nat.le_of_ble_eq_true rfl) dX0_init_30 ⟨show cells + 1 + 1 ≤ 31 by omega, show slots + 2 + 100 ≤ 1544 by omega⟩ (fun H locs hR hS => ?_)
      obtain ⟨hk7, hf⟩ := zc_s hf
      obtain ⟨hk8, hf⟩ := zc_s hf
      obtain ⟨σ9, eσ9, hf⟩ := zl_s hf
      refine x_ast E hR hS (Or.inl ⟨rfl, rfl⟩) hk7 hk8 dX0_init_33 (fun H locs hR hS => ?_)
      rw [← eσ9] at hR
      refine lv_iinc (v := (v1 + (1 : Int32))) (lv' := [(1, .int (v1 + (1 : Int32))), (0, .ref (gB g + v0))]) hx hb dX0_init_34 hl (k := 1) rfl rfl (Nat.le_of_ble_eq_true rfl) rfl (fun ls hl => ?_)
      refine lv_goto (tgt := 15) hx hb dX0_init_37 (by decide) ?_
      exact ih _ _ _ _ _ hf p e s m args below meth c _ _ _ _ _ E hR hS (lv_sub hl [1, 0] rfl) (show cells + 1 + 1 + (n * 2 + 0) ≤ 31 by omega) (show slots + 2 + 100 + (n * 102 + 0) ≤ 1544 by omega)
set_option maxRecDepth 100000 in
def f_X0_init (v0 : Nat) (σ : Mm) : Option (Unit × Mm) :=
  zlt (nw σ (3, 14)) (fun σ10 => zck (kO σ10 v0 0) (zlt (sR σ10 v0 0 (mN σ)) (fun σ12 => f_X0_init_15 15 v0 (0 : Int32) σ12)))
set_option maxRecDepth 100000 in
set_option maxHeartbeats 4000000 in
theorem V_X0_init_0 {g : GG} (v0 : Nat) (σ : Mm) (r : Unit) (σ' : Mm) (hf : f_X0_init v0 σ = some (r, σ')) (kc ks : Nat) (hqe : 31 ≤ kc ∧ 1544 ≤ ks) : VJ g RX0 cX0_init 2 none true rm_X0_init none σ' (kc) (ks) 0 [(0, .ref (gB g + v0))] [] σ := by
  intro p e s m args below meth c H locs cells slots ls E hR hS hl hc hs
  have hc : cells + kc ≤ 31 := hc
  have hs : slots + ks ≤ 1544 := hs
  obtain ⟨hx, hb, hml, hr, hlocks, hown, hts, hin, hT⟩ := id E
  unfold f_X0_init at hf
  refine lv_aload_n hx hb dX0_init_0 rfl (lv_at hl 0 rfl) ?_
  refine x_obj (rest := []) E hl ob_X0_3 obI obC (Nat.le_of_ble_eq_true rfl) (Nat.le_of_ble_eq_true rfl) dX0_init_1 ?_
  refine lv_aload_n hx hb dX0_init_4 rfl (lv_at hl 0 rfl) ?_
  refine lv_bipush (v := (14 : Int32)) hx hb dX0_init_5 rfl ?_
  obtain ⟨σ10, eσ10, hf⟩ := zl_s hf
  refine x_newq (L := 14) (C := "BorderProofs$Pairs") E hR hS (Or.inl ⟨rfl, rfl⟩) cl_X0_9 (by decide) (by decide) (Nat.le_of_ble_eq_true rfl) (show cells + 1 ≤ 31 by omega) (show slots + 14 ≤ 1544 by omega) dX0_init_7 (fun H hR hS => ?_)
  rw [← eσ10] at hR
  obtain ⟨hk11, hf⟩ := zc_s hf
  obtain ⟨σ12, eσ12, hf⟩ := zl_s hf
  refine x_putR E hR hS hk11 ok0 0 (Nat.le_of_ble_eq_true rfl) rfl fl_X0_11 (Or.inr ⟨rfl, rfl, rfl⟩) (fun _ => rfl) (fun _ => rfl) dX0_init_10 (fun H locs hR hS => ?_)
  rw [← eσ12] at hR
  refine lv_iconst (v := (0 : Int32)) hx hb dX0_init_13 rfl ?_
  refine lv_istore_n (lv' := [(1, .int (0 : Int32)), (0, .ref (gB g + v0))]) hx hb dX0_init_14 rfl hl (Nat.le_of_ble_eq_true rfl) rfl (fun ls hl => ?_)
  exact V_X0_init_15  15 _ _ _ _ _ hf p e s m args below meth c _ _ _ _ _ E hR hS (lv_sub hl [1, 0] rfl) (show cells + 1 + (15 * 2 + 0) ≤ 31 by omega) (show slots + 14 + (15 * 102 + 0) ≤ 1544 by omega)
theorem C_X0_init {g : GG} {v0 : Nat} {σ : Mm} {r : Unit} {σ' : Mm} (hf : f_X0_init v0 σ = some (r, σ')) : Ct g yX0_init cX0_init 2 none rm_X0_init [.ref (gB g + v0)] σ none σ' :=
  Ct.of true (by decide +kernel) (fun _ => rfl) (Nat.le_of_ble_eq_true rfl) (V_X0_init_0 _ _ _ _ hf 31 1544 ⟨Nat.le_of_ble_eq_true rfl, Nat.le_of_ble_eq_true rfl⟩)
abbrev rm_X0_count : Room := { frames := 0, cells := 0, slots := 0, locals := 0 }
set_option maxRecDepth 100000 in
def f_X0_count (v0 : Nat) (σ : Mm) : Option (Int32 × Mm) :=
  zck (kO σ v0 0) (some ((mD σ v0 2), σ))
set_option maxRecDepth 100000 in
set_option maxHeartbeats 4000000 in
theorem V_X0_count_0 {g : GG} (v0 : Nat) (σ : Mm) (r : Int32) (σ' : Mm) (hf : f_X0_count v0 σ = some (r, σ')) : VJ g RX0 cX0_count 1 (some .int) false rm_X0_count (some (.int r)) σ' (0) (0) 0 [(0, .ref (gB g + v0))] [] σ := by
  intro p e s m args below meth c H locs cells slots ls E hR hS hl hc hs
  obtain ⟨hx, hb, hml, hr, hlocks, hown, hts, hin, hT⟩ := id E
  unfold f_X0_count at hf
  refine lv_aload_n hx hb dX0_count_0 rfl (lv_at hl 0 rfl) ?_
  obtain ⟨hk1, hf⟩ := zc_s hf
  refine x_getI E hR hk1 ok0 2 (Nat.le_of_ble_eq_true rfl) rfl fl_X0_18 dX0_count_1 ?_
  obtain ⟨hr1, hs1⟩ := Prod.mk.inj (Option.some.inj hf)
  exact xr_i E hR hS rfl (by rw [hr1]) hs1.symm hc hs dX0_count_4
theorem C_X0_count {g : GG} {v0 : Nat} {σ : Mm} {r : Int32} {σ' : Mm} (hf : f_X0_count v0 σ = some (r, σ')) : Ct g yX0_count cX0_count 1 (some .int) rm_X0_count [.ref (gB g + v0)] σ (some (.int r)) σ' :=
  Ct.of false (by decide +kernel) (fun h => by cases h) (Nat.le_of_ble_eq_true rfl) (V_X0_count_0 _ _ _ _ hf)
abbrev rm_J9_floorMod_7cf53 : Room := { frames := 0, cells := 0, slots := 0, locals := 0 }
set_option maxRecDepth 100000 in
def f_J9_floorMod_7cf53 (v0 : Int32) (v1 : Int32) (σ : Mm) : Option (Int32 × Mm) :=
  zck (decide (¬ v1 = 0)) (if 0 ≤ (v0 ^^^ v1) then (some ((v0 - v0 / v1 * v1), σ)) else (if (v0 - v0 / v1 * v1) = 0 then (some ((v0 - v0 / v1 * v1), σ)) else (some (((v0 - v0 / v1 * v1) + v1), σ))))
set_option maxRecDepth 100000 in
set_option maxHeartbeats 4000000 in
theorem V_J9_floorMod_7cf53_0 {g : GG} (v0 : Int32) (v1 : Int32) (σ : Mm) (r : Int32) (σ' : Mm) (hf : f_J9_floorMod_7cf53 v0 v1 σ = some (r, σ')) : VJ g RJ9 cJ9_floorMod_7cf53 3 (some .int) false rm_J9_floorMod_7cf53 (some (.int r)) σ' (0) (0) 0 [(0, .int v0), (1, .int v1)] [] σ := by
  intro p e s m args below meth c H locs cells slots ls E hR hS hl hc hs
  obtain ⟨hx, hb, hml, hr, hlocks, hown, hts, hin, hT⟩ := id E
  unfold f_J9_floorMod_7cf53 at hf
  refine lv_iload_n hx hb dJ9_floorMod_7cf53_0 rfl (lv_at hl 0 rfl) ?_
  refine lv_iload_n hx hb dJ9_floorMod_7cf53_1 rfl (lv_at hl 1 rfl) ?_
  obtain ⟨hd1, hf⟩ := zc_s hf
  refine lv_irem hx hb dJ9_floorMod_7cf53_2 (of_decide_eq_true hd1) ?_
  refine lv_istore_n (lv' := [(2, .int (v0 - v0 / v1 * v1)), (0, .int v0), (1, .int v1)]) hx hb dJ9_floorMod_7cf53_3 rfl hl (Nat.le_of_ble_eq_true rfl) rfl (fun ls hl => ?_)
  refine lv_iload_n hx hb dJ9_floorMod_7cf53_4 rfl (lv_at hl 1 rfl) ?_
  refine lv_iload_n hx hb dJ9_floorMod_7cf53_5 rfl (lv_at hl 2 rfl) ?_
  refine lv_ixor hx hb dJ9_floorMod_7cf53_6 ?_
  refine lv_if_ge (tgt := 18) hx hb dJ9_floorMod_7cf53_7 (by decide) (fun hq2 => ?_) (fun hq2 => ?_)
  · have hf := ite_p hq2 hf
    refine lv_iload_n hx hb dJ9_floorMod_7cf53_18 rfl (lv_at hl 0 rfl) ?_
    obtain ⟨hr1, hs1⟩ := Prod.mk.inj (Option.some.inj hf)
    exact xr_i E hR hS rfl (by rw [hr1]) hs1.symm hc hs dJ9_floorMod_7cf53_19
  · have hf := ite_n hq2 hf
    refine lv_iload_n hx hb dJ9_floorMod_7cf53_10 rfl (lv_at hl 0 rfl) ?_
    refine lv_if_eq (tgt := 18) hx hb dJ9_floorMod_7cf53_11 (by decide) (fun hq3 => ?_) (fun hq3 => ?_)
    · have hf := ite_p hq3 hf
      refine lv_iload_n hx hb dJ9_floorMod_7cf53_18 rfl (lv_at hl 0 rfl) ?_
      obtain ⟨hr1, hs1⟩ := Prod.mk.inj (Option.some.inj hf)
      exact xr_i E hR hS rfl (by rw [hr1]) hs1.symm hc hs dJ9_floorMod_7cf53_19
    · have hf := ite_n hq3 hf
      refine lv_iload_n hx hb dJ9_floorMod_7cf53_14 rfl (lv_at hl 0 rfl) ?_
      refine lv_iload_n hx hb dJ9_floorMod_7cf53_15 rfl (lv_at hl 2 rfl) ?_
      refine lv_iadd hx hb dJ9_floorMod_7cf53_16 ?_
      obtain ⟨hr1, hs1⟩ := Prod.mk.inj (Option.some.inj hf)
      exact xr_i E hR hS rfl (by rw [hr1]) hs1.symm hc hs dJ9_floorMod_7cf53_17
theorem C_J9_floorMod_7cf53 {g : GG} {v0 : Int32} {v1 : Int32} {σ : Mm} {r : Int32} {σ' : Mm} (hf : f_J9_floorMod_7cf53 v0 v1 σ = some (r, σ')) : Ct g yJ9_floorMod_7cf53 cJ9_floorMod_7cf53 3 (some .int) rm_J9_floorMod_7cf53 [.int v0, .int v1] σ (some (.int r)) σ' :=
  Ct.of false (by decide +kernel) (fun h => by cases h) (Nat.le_of_ble_eq_true rfl) (V_J9_floorMod_7cf53_0 _ _ _ _ _ hf)
abbrev rm_X0_pairsAt : Room := { frames := 1, cells := 0, slots := 0, locals := 22 }
set_option maxRecDepth 100000 in
def f_X0_pairsAt (v0 : Nat) (v1 : Int32) (σ : Mm) : Option (Nat × Mm) :=
  zck (kO σ v0 0) (zrb (mR σ v0 0) (fun b2 => zcb (f_J9_floorMod_7cf53 ((mD σ v0 1) + v1) (14 : Int32) σ) (fun r3 σ4 => zck (kA σ4 3 b2 r3) (zrb (mR σ4 b2 (ix r3)) (fun b6 => some (b6, σ4))))))
set_option maxRecDepth 100000 in
set_option maxHeartbeats 4000000 in
theorem V_X0_pairsAt_0 {g : GG} (v0 : Nat) (v1 : Int32) (σ : Mm) (r : Nat) (σ' : Mm) (hf : f_X0_pairsAt v0 v1 σ = some (r, σ')) : VJ g RX0 cX0_pairsAt 2 (some (.object "BorderProofs$Pairs")) false rm_X0_pairsAt (some (.ref (gB g + r))) σ' (0) (0) 0 [(0, .ref (gB g + v0)), (1, .int v1)] [] σ := by
  intro p e s m args below meth c H locs cells slots ls E hR hS hl hc hs
  obtain ⟨hx, hb, hml, hr, hlocks, hown, hts, hin, hT⟩ := id E
  unfold f_X0_pairsAt at hf
  refine lv_aload_n hx hb dX0_pairsAt_0 rfl (lv_at hl 0 rfl) ?_
  obtain ⟨hk1, hf⟩ := zc_s hf
  obtain ⟨b2, hb2, hf⟩ := zr_s hf
  refine x_getR E hR hk1 hb2 ok0 (Nat.le_of_ble_eq_true rfl) rfl fl_X0_11 dX0_pairsAt_1 ?_
  refine lv_aload_n hx hb dX0_pairsAt_4 rfl (lv_at hl 0 rfl) ?_
  refine x_getI E hR hk1 ok0 1 (Nat.le_of_ble_eq_true rfl) rfl fl_X0_22 dX0_pairsAt_5 ?_
  refine lv_iload_n hx hb dX0_pairsAt_8 rfl (lv_at hl 1 rfl) ?_
  refine lv_iadd hx hb dX0_pairsAt_9 ?_
  refine lv_bipush (v := (14 : Int32)) hx hb dX0_pairsAt_10 rfl ?_
  obtain ⟨r3, σ4, hcr3, hf⟩ := zq_s hf
  refine xS (As := [.int ((mD σ v0 1) + v1), .int (14 : Int32)]) (rest := [.ref (gB g + b2)]) (st1 := [.int r3, .ref (gB g + b2)]) E hR hS hl (C_J9_floorMod_7cf53 hcr3) lb_J9_floorMod_7cf53 ls_J9_floorMod_7cf53 ml_X0_33 ⟨Nat.le_of_ble_eq_true rfl, Nat.le_of_ble_eq_true rfl⟩ rfl rfl rfl (Nat.le_of_ble_eq_true rfl) dX0_pairsAt_12 ⟨hc, hs⟩ (fun H locs hR hS => ?_)
  obtain ⟨hk5, hf⟩ := zc_s hf
  obtain ⟨b6, hb6, hf⟩ := zr_s hf
  refine x_ald E hR (Or.inl rfl) hk5 hb6 dX0_pairsAt_15 ?_
  obtain ⟨hr1, hs1⟩ := Prod.mk.inj (Option.some.inj hf)
  exact xr_a E hR hS rfl (by rw [hr1]) hs1.symm hc hs dX0_pairsAt_16
theorem C_X0_pairsAt {g : GG} {v0 : Nat} {v1 : Int32} {σ : Mm} {r : Nat} {σ' : Mm} (hf : f_X0_pairsAt v0 v1 σ = some (r, σ')) : Ct g yX0_pairsAt cX0_pairsAt 2 (some (.object "BorderProofs$Pairs")) rm_X0_pairsAt [.ref (gB g + v0), .int v1] σ (some (.ref (gB g + r))) σ' :=
  Ct.of false (by decide +kernel) (fun h => by cases h) (Nat.le_of_ble_eq_true rfl) (V_X0_pairsAt_0 _ _ _ _ _ hf)
abbrev rm_X2_become : Room := { frames := 1, cells := 0, slots := 0, locals := 18 }
set_option maxRecDepth 100000 in
def f_X2_become (v0 : Nat) (v1 : Nat) (σ : Mm) : Option (Unit × Mm) :=
  zck (kO σ v1 2) (zrb (mR σ v1 0) (fun b2 => zck (kO σ v0 2) (zrb (mR σ v0 0) (fun b4 => zck (kC σ b2 b4 (0 : Int32) (0 : Int32) (100 : Int32)) (zlt (sC σ b2 b4 (0 : Int32) (0 : Int32) (100 : Int32)) (fun σ6 => zlt (sD σ6 v0 1 (mD σ6 v1 1)) (fun σ7 => some ((), σ7))))))))
set_option maxRecDepth 100000 in
set_option maxHeartbeats 4000000 in
theorem V_X2_become_0 {g : GG} (v0 : Nat) (v1 : Nat) (σ : Mm) (r : Unit) (σ' : Mm) (hf : f_X2_become v0 v1 σ = some (r, σ')) : VJ g RX2 cX2_become 2 none false rm_X2_become none σ' (0) (0) 0 [(0, .ref (gB g + v0)), (1, .ref (gB g + v1))] [] σ := by
  intro p e s m args below meth c H locs cells slots ls E hR hS hl hc hs
  obtain ⟨hx, hb, hml, hr, hlocks, hown, hts, hin, hT⟩ := id E
  unfold f_X2_become at hf
  refine lv_aload_n hx hb dX2_become_0 rfl (lv_at hl 1 rfl) ?_
  obtain ⟨hk1, hf⟩ := zc_s hf
  obtain ⟨b2, hb2, hf⟩ := zr_s hf
  refine x_getR E hR hk1 hb2 ok2 (Nat.le_of_ble_eq_true rfl) rfl fl_X2_9 dX2_become_1 ?_
  refine lv_iconst (v := (0 : Int32)) hx hb dX2_become_4 rfl ?_
  refine lv_aload_n hx hb dX2_become_5 rfl (lv_at hl 0 rfl) ?_
  obtain ⟨hk3, hf⟩ := zc_s hf
  obtain ⟨b4, hb4, hf⟩ := zr_s hf
  refine x_getR E hR hk3 hb4 ok2 (Nat.le_of_ble_eq_true rfl) rfl fl_X2_9 dX2_become_6 ?_
  refine lv_iconst (v := (0 : Int32)) hx hb dX2_become_9 rfl ?_
  refine lv_bipush (v := (100 : Int32)) hx hb dX2_become_10 rfl ?_
  obtain ⟨hk5, hf⟩ := zc_s hf
  obtain ⟨σ6, eσ6, hf⟩ := zl_s hf
  refine x_copy E hR hS hl hk5 ac_X2_36 acN acS acI (Nat.le_of_ble_eq_true rfl) (Nat.le_of_ble_eq_true rfl) dX2_become_12 (fun H locs hR hS => ?_)
  rw [← eσ6] at hR
  refine lv_aload_n hx hb dX2_become_15 rfl (lv_at hl 0 rfl) ?_
  refine lv_aload_n hx hb dX2_become_16 rfl (lv_at hl 1 rfl) ?_
  refine x_getI E hR (by rw [eσ6]; exact hk1) ok2 1 (Nat.le_of_ble_eq_true rfl) rfl fl_X2_21 dX2_become_17 ?_
  obtain ⟨σ7, eσ7, hf⟩ := zl_s hf
  refine x_putI E hR hS (by rw [eσ6]; exact hk3) ok2 1 (Nat.le_of_ble_eq_true rfl) rfl fl_X2_21 (Or.inl rfl) rfl rfl dX2_become_20 (fun H locs hR hS => ?_)
  rw [← eσ7] at hR
  obtain ⟨hr1, hs1⟩ := Prod.mk.inj (Option.some.inj hf)
  exact xr_v E hR hS rfl rfl hs1.symm hc hs dX2_become_23
theorem C_X2_become {g : GG} {v0 : Nat} {v1 : Nat} {σ : Mm} {r : Unit} {σ' : Mm} (hf : f_X2_become v0 v1 σ = some (r, σ')) : Ct g yX2_become cX2_become 2 none rm_X2_become [.ref (gB g + v0), .ref (gB g + v1)] σ none σ' :=
  Ct.of false (by decide +kernel) (fun h => by cases h) (Nat.le_of_ble_eq_true rfl) (V_X2_become_0 _ _ _ _ _ hf)
abbrev rm_X0_note : Room := { frames := 2, cells := 0, slots := 0, locals := 43 }
set_option maxRecDepth 100000 in
def f_X0_note_32 (v0 : Nat) (v1 : Nat) (σ : Mm) : Option (Unit × Mm) :=
  zck (kO σ v0 0) (zcb (f_X0_pairsAt v0 (mD σ v0 2) σ) (fun r2 σ3 => zck (kO σ3 r2 2) (zcb (f_X2_become r2 v1 σ3) (fun r5 σ6 => zck (kO σ6 v0 0) (zlt (sD σ6 v0 2 ((mD σ6 v0 2) + (1 : Int32))) (fun σ8 => some ((), σ8)))))))
set_option maxRecDepth 100000 in
set_option maxHeartbeats 4000000 in
theorem V_X0_note_32 {g : GG} (v0 : Nat) (v1 : Nat) (σ : Mm) (r : Unit) (σ' : Mm) (hf : f_X0_note_32 v0 v1 σ = some (r, σ')) : VJ g RX0 cX0_note 2 none false rm_X0_note none σ' (0) (0) 32 [(0, .ref (gB g + v0)), (1, .ref (gB g + v1))] [] σ := by
  intro p e s m args below meth c H locs cells slots ls E hR hS hl hc hs
  obtain ⟨hx, hb, hml, hr, hlocks, hown, hts, hin, hT⟩ := id E
  unfold f_X0_note_32 at hf
  refine lv_aload_n hx hb dX0_note_32 rfl (lv_at hl 0 rfl) ?_
  refine lv_aload_n hx hb dX0_note_33 rfl (lv_at hl 0 rfl) ?_
  obtain ⟨hk1, hf⟩ := zc_s hf
  refine x_getI E hR hk1 ok0 2 (Nat.le_of_ble_eq_true rfl) rfl fl_X0_18 dX0_note_34 ?_
  obtain ⟨r2, σ3, hcr2, hf⟩ := zq_s hf
  refine xV (As := [.int (mD σ v0 2)]) (rest := []) (st1 := [.ref (gB g + r2)]) E hR hS hl (C_X0_pairsAt hcr2) hk1 ok0 lb_X0_pairsAt lv_X0_pairsAt ml_X0_25 ⟨Nat.le_of_ble_eq_true rfl, Nat.le_of_ble_eq_true rfl⟩ rfl rfl rfl (Nat.le_of_ble_eq_true rfl) dX0_note_37 ⟨hc, hs⟩ (fun H locs hR hS => ?_)
  refine lv_aload_n hx hb dX0_note_40 rfl (lv_at hl 1 rfl) ?_
  obtain ⟨hk4, hf⟩ := zc_s hf
  obtain ⟨r5, σ6, hcr5, hf⟩ := zq_s hf
  refine xV (As := [.ref (gB g + v1)]) (rest := []) (st1 := []) E hR hS hl (C_X2_become hcr5) hk4 ok2 lb_X2_become lv_X2_become ml_X0_29 ⟨Nat.le_of_ble_eq_true rfl, Nat.le_of_ble_eq_true rfl⟩ rfl rfl rfl (Nat.le_of_ble_eq_true rfl) dX0_note_41 ⟨hc, hs⟩ (fun H locs hR hS => ?_)
  refine lv_aload_n hx hb dX0_note_44 rfl (lv_at hl 0 rfl) ?_
  refine lv_dup hx hb dX0_note_45 rfl ?_
  obtain ⟨hk7, hf⟩ := zc_s hf
  refine x_getI E hR hk7 ok0 2 (Nat.le_of_ble_eq_true rfl) rfl fl_X0_18 dX0_note_46 ?_
  refine lv_iconst (v := (1 : Int32)) hx hb dX0_note_49 rfl ?_
  refine lv_iadd hx hb dX0_note_50 ?_
  obtain ⟨σ8, eσ8, hf⟩ := zl_s hf
  refine x_putI E hR hS hk7 ok0 2 (Nat.le_of_ble_eq_true rfl) rfl fl_X0_18 (Or.inl rfl) rfl rfl dX0_note_51 (fun H locs hR hS => ?_)
  rw [← eσ8] at hR
  obtain ⟨hr1, hs1⟩ := Prod.mk.inj (Option.some.inj hf)
  exact xr_v E hR hS rfl rfl hs1.symm hc hs dX0_note_54
set_option maxRecDepth 100000 in
def f_X0_note (v0 : Nat) (v1 : Nat) (σ : Mm) : Option (Unit × Mm) :=
  zck (kO σ v0 0) (if (mD σ v0 2) = (14 : Int32) then (zlt (sD σ v0 1 (((mD σ v0 1) + (1 : Int32)) - ((mD σ v0 1) + (1 : Int32)) / (14 : Int32) * (14 : Int32))) (fun σ11 => zlt (sD σ11 v0 2 ((mD σ11 v0 2) - (1 : Int32))) (fun σ12 => f_X0_note_32 v0 v1 σ12))) else (f_X0_note_32 v0 v1 σ))
set_option maxRecDepth 100000 in
set_option maxHeartbeats 4000000 in
theorem V_X0_note_0 {g : GG} (v0 : Nat) (v1 : Nat) (σ : Mm) (r : Unit) (σ' : Mm) (hf : f_X0_note v0 v1 σ = some (r, σ')) : VJ g RX0 cX0_note 2 none false rm_X0_note none σ' (0) (0) 0 [(0, .ref (gB g + v0)), (1, .ref (gB g + v1))] [] σ := by
  intro p e s m args below meth c H locs cells slots ls E hR hS hl hc hs
  obtain ⟨hx, hb, hml, hr, hlocks, hown, hts, hin, hT⟩ := id E
  unfold f_X0_note at hf
  refine lv_aload_n hx hb dX0_note_0 rfl (lv_at hl 0 rfl) ?_
  obtain ⟨hk9, hf⟩ := zc_s hf
  refine x_getI E hR hk9 ok0 2 (Nat.le_of_ble_eq_true rfl) rfl fl_X0_18 dX0_note_1 ?_
  refine lv_bipush (v := (14 : Int32)) hx hb dX0_note_4 rfl ?_
  refine lv_icmp_ne (tgt := 32) hx hb dX0_note_6 (by decide) (fun hq10 => ?_) (fun hq10 => ?_)
  · have hf := ite_n hq10 hf
    exact V_X0_note_32  _ _ _ _ _ hf p e s m args below meth c _ _ _ _ _ E hR hS (lv_sub hl [0, 1] rfl) hc hs
  · have hf := ite_p hq10 hf
    refine lv_aload_n hx hb dX0_note_9 rfl (lv_at hl 0 rfl) ?_
    refine lv_aload_n hx hb dX0_note_10 rfl (lv_at hl 0 rfl) ?_
    refine x_getI E hR hk9 ok0 1 (Nat.le_of_ble_eq_true rfl) rfl fl_X0_22 dX0_note_11 ?_
    refine lv_iconst (v := (1 : Int32)) hx hb dX0_note_14 rfl ?_
    refine lv_iadd hx hb dX0_note_15 ?_
    refine lv_bipush (v := (14 : Int32)) hx hb dX0_note_16 rfl ?_
    refine lv_irem hx hb dX0_note_18 (by decide) ?_
    obtain ⟨σ11, eσ11, hf⟩ := zl_s hf
    refine x_putI E hR hS hk9 ok0 1 (Nat.le_of_ble_eq_true rfl) rfl fl_X0_22 (Or.inl rfl) rfl rfl dX0_note_19 (fun H locs hR hS => ?_)
    rw [← eσ11] at hR
    refine lv_aload_n hx hb dX0_note_22 rfl (lv_at hl 0 rfl) ?_
    refine lv_dup hx hb dX0_note_23 rfl ?_
    refine x_getI E hR (by rw [eσ11]; exact hk9) ok0 2 (Nat.le_of_ble_eq_true rfl) rfl fl_X0_18 dX0_note_24 ?_
    refine lv_iconst (v := (1 : Int32)) hx hb dX0_note_27 rfl ?_
    refine lv_isub hx hb dX0_note_28 ?_
    obtain ⟨σ12, eσ12, hf⟩ := zl_s hf
    refine x_putI E hR hS (by rw [eσ11]; exact hk9) ok0 2 (Nat.le_of_ble_eq_true rfl) rfl fl_X0_18 (Or.inl rfl) rfl rfl dX0_note_29 (fun H locs hR hS => ?_)
    rw [← eσ12] at hR
    exact V_X0_note_32  _ _ _ _ _ hf p e s m args below meth c _ _ _ _ _ E hR hS (lv_sub hl [0, 1] rfl) hc hs
theorem C_X0_note {g : GG} {v0 : Nat} {v1 : Nat} {σ : Mm} {r : Unit} {σ' : Mm} (hf : f_X0_note v0 v1 σ = some (r, σ')) : Ct g yX0_note cX0_note 2 none rm_X0_note [.ref (gB g + v0), .ref (gB g + v1)] σ none σ' :=
  Ct.of false (by decide +kernel) (fun h => by cases h) (Nat.le_of_ble_eq_true rfl) (V_X0_note_0 _ _ _ _ _ hf)
abbrev rm_X0_takeBack : Room := { frames := 2, cells := 0, slots := 0, locals := 43 }
set_option maxRecDepth 100000 in
def f_X0_takeBack (v0 : Nat) (v1 : Nat) (σ : Mm) : Option (Unit × Mm) :=
  zck (kO σ v0 0) (if (mD σ v0 2) ≤ 0 then (some ((), σ)) else (zlt (sD σ v0 2 ((mD σ v0 2) - (1 : Int32))) (fun σ3 => zcb (f_X0_pairsAt v0 (mD σ3 v0 2) σ3) (fun r4 σ5 => zck (kO σ5 v1 2) (zcb (f_X2_become v1 r4 σ5) (fun r7 σ8 => some ((), σ8)))))))
set_option maxRecDepth 100000 in
set_option maxHeartbeats 4000000 in
theorem V_X0_takeBack_0 {g : GG} (v0 : Nat) (v1 : Nat) (σ : Mm) (r : Unit) (σ' : Mm) (hf : f_X0_takeBack v0 v1 σ = some (r, σ')) : VJ g RX0 cX0_takeBack 2 none false rm_X0_takeBack none σ' (0) (0) 0 [(0, .ref (gB g + v0)), (1, .ref (gB g + v1))] [] σ := by
  intro p e s m args below meth c H locs cells slots ls E hR hS hl hc hs
  obtain ⟨hx, hb, hml, hr, hlocks, hown, hts, hin, hT⟩ := id E
  unfold f_X0_takeBack at hf
  refine lv_aload_n hx hb dX0_takeBack_0 rfl (lv_at hl 0 rfl) ?_
  obtain ⟨hk1, hf⟩ := zc_s hf
  refine x_getI E hR hk1 ok0 2 (Nat.le_of_ble_eq_true rfl) rfl fl_X0_18 dX0_takeBack_1 ?_
  refine lv_if_le (tgt := 29) hx hb dX0_takeBack_4 (by decide) (fun hq2 => ?_) (fun hq2 => ?_)
  · have hf := ite_p hq2 hf
    obtain ⟨hr1, hs1⟩ := Prod.mk.inj (Option.some.inj hf)
    exact xr_v E hR hS rfl rfl hs1.symm hc hs dX0_takeBack_29
  · have hf := ite_n hq2 hf
    refine lv_aload_n hx hb dX0_takeBack_7 rfl (lv_at hl 0 rfl) ?_
    refine lv_dup hx hb dX0_takeBack_8 rfl ?_
    refine x_getI E hR hk1 ok0 2 (Nat.le_of_ble_eq_true rfl) rfl fl_X0_18 dX0_takeBack_9 ?_
    refine lv_iconst (v := (1 : Int32)) hx hb dX0_takeBack_12 rfl ?_
    refine lv_isub hx hb dX0_takeBack_13 ?_
    obtain ⟨σ3, eσ3, hf⟩ := zl_s hf
    refine x_putI E hR hS hk1 ok0 2 (Nat.le_of_ble_eq_true rfl) rfl fl_X0_18 (Or.inl rfl) rfl rfl dX0_takeBack_14 (fun H locs hR hS => ?_)
    rw [← eσ3] at hR
    refine lv_aload_n hx hb dX0_takeBack_17 rfl (lv_at hl 1 rfl) ?_
    refine lv_aload_n hx hb dX0_takeBack_18 rfl (lv_at hl 0 rfl) ?_
    refine lv_aload_n hx hb dX0_takeBack_19 rfl (lv_at hl 0 rfl) ?_
    refine x_getI E hR (by rw [eσ3]; exact hk1) ok0 2 (Nat.le_of_ble_eq_true rfl) rfl fl_X0_18 dX0_takeBack_20 ?_
    obtain ⟨r4, σ5, hcr4, hf⟩ := zq_s hf
    refine xV (As := [.int (mD σ3 v0 2)]) (rest := [.ref (gB g + v1)]) (st1 := [.ref (gB g + r4), .ref (gB g + v1)]) E hR hS hl (C_X0_pairsAt hcr4) (by rw [eσ3]; exact hk1) ok0 lb_X0_pairsAt lv_X0_pairsAt ml_X0_25 ⟨Nat.le_of_ble_eq_true rfl, Nat.le_of_ble_eq_true rfl⟩ rfl rfl rfl (Nat.le_of_ble_eq_true rfl) dX0_takeBack_23 ⟨hc, hs⟩ (fun H locs hR hS => ?_)
    obtain ⟨hk6, hf⟩ := zc_s hf
    obtain ⟨r7, σ8, hcr7, hf⟩ := zq_s hf
    refine xV (As := [.ref (gB g + r4)]) (rest := []) (st1 := []) E hR hS hl (C_X2_become hcr7) hk6 ok2 lb_X2_become lv_X2_become ml_X0_29 ⟨Nat.le_of_ble_eq_true rfl, Nat.le_of_ble_eq_true rfl⟩ rfl rfl rfl (Nat.le_of_ble_eq_true rfl) dX0_takeBack_26 ⟨hc, hs⟩ (fun H locs hR hS => ?_)
    obtain ⟨hr1, hs1⟩ := Prod.mk.inj (Option.some.inj hf)
    exact xr_v E hR hS rfl rfl hs1.symm hc hs dX0_takeBack_29
theorem C_X0_takeBack {g : GG} {v0 : Nat} {v1 : Nat} {σ : Mm} {r : Unit} {σ' : Mm} (hf : f_X0_takeBack v0 v1 σ = some (r, σ')) : Ct g yX0_takeBack cX0_takeBack 2 none rm_X0_takeBack [.ref (gB g + v0), .ref (gB g + v1)] σ none σ' :=
  Ct.of false (by decide +kernel) (fun h => by cases h) (Nat.le_of_ble_eq_true rfl) (V_X0_takeBack_0 _ _ _ _ _ hf)
abbrev rm_X0_forgetAll : Room := { frames := 0, cells := 0, slots := 0, locals := 0 }
set_option maxRecDepth 100000 in
def f_X0_forgetAll (v0 : Nat) (σ : Mm) : Option (Unit × Mm) :=
  zck (kO σ v0 0) (zlt (sD σ v0 2 (0 : Int32)) (fun σ2 => some ((), σ2)))
set_option maxRecDepth 100000 in
set_option maxHeartbeats 4000000 in
theorem V_X0_forgetAll_0 {g : GG} (v0 : Nat) (σ : Mm) (r : Unit) (σ' : Mm) (hf : f_X0_forgetAll v0 σ = some (r, σ')) : VJ g RX0 cX0_forgetAll 1 none false rm_X0_forgetAll none σ' (0) (0) 0 [(0, .ref (gB g + v0))] [] σ := by
  intro p e s m args below meth c H locs cells slots ls E hR hS hl hc hs
  obtain ⟨hx, hb, hml, hr, hlocks, hown, hts, hin, hT⟩ := id E
  unfold f_X0_forgetAll at hf
  refine lv_aload_n hx hb dX0_forgetAll_0 rfl (lv_at hl 0 rfl) ?_
  refine lv_iconst (v := (0 : Int32)) hx hb dX0_forgetAll_1 rfl ?_
  obtain ⟨hk1, hf⟩ := zc_s hf
  obtain ⟨σ2, eσ2, hf⟩ := zl_s hf
  refine x_putI E hR hS hk1 ok0 2 (Nat.le_of_ble_eq_true rfl) rfl fl_X0_18 (Or.inl rfl) rfl rfl dX0_forgetAll_2 (fun H locs hR hS => ?_)
  rw [← eσ2] at hR
  obtain ⟨hr1, hs1⟩ := Prod.mk.inj (Option.some.inj hf)
  exact xr_v E hR hS rfl rfl hs1.symm hc hs dX0_forgetAll_5
theorem C_X0_forgetAll {g : GG} {v0 : Nat} {σ : Mm} {r : Unit} {σ' : Mm} (hf : f_X0_forgetAll v0 σ = some (r, σ')) : Ct g yX0_forgetAll cX0_forgetAll 1 none rm_X0_forgetAll [.ref (gB g + v0)] σ none σ' :=
  Ct.of false (by decide +kernel) (fun h => by cases h) (Nat.le_of_ble_eq_true rfl) (V_X0_forgetAll_0 _ _ _ _ hf)
abbrev rm_X1_init : Room := { frames := 1, cells := 1, slots := 100, locals := 12 }
set_option maxRecDepth 100000 in
def f_X1_init (v0 : Nat) (σ : Mm) : Option (Unit × Mm) :=
  zlt (nw σ (1, 100)) (fun σ1 => zck (kO σ1 v0 1) (zlt (sR σ1 v0 0 (mN σ)) (fun σ3 => some ((), σ3))))
set_option maxRecDepth 100000 in
set_option maxHeartbeats 4000000 in
theorem V_X1_init_0 {g : GG} (v0 : Nat) (σ : Mm) (r : Unit) (σ' : Mm) (hf : f_X1_init v0 σ = some (r, σ')) (kc ks : Nat) (hqe : 1 ≤ kc ∧ 100 ≤ ks) : VJ g RX1 cX1_init 1 none true rm_X1_init none σ' (kc) (ks) 0 [(0, .ref (gB g + v0))] [] σ := by
  intro p e s m args below meth c H locs cells slots ls E hR hS hl hc hs
  have hc : cells + kc ≤ 1 := hc
  have hs : slots + ks ≤ 100 := hs
  obtain ⟨hx, hb, hml, hr, hlocks, hown, hts, hin, hT⟩ := id E
  unfold f_X1_init at hf
  refine lv_aload_n hx hb dX1_init_0 rfl (lv_at hl 0 rfl) ?_
  refine x_obj (rest := []) E hl ob_X1_3 obI obC (Nat.le_of_ble_eq_true rfl) (Nat.le_of_ble_eq_true rfl) dX1_init_1 ?_
  refine lv_aload_n hx hb dX1_init_4 rfl (lv_at hl 0 rfl) ?_
  refine lv_bipush (v := (100 : Int32)) hx hb dX1_init_5 rfl ?_
  obtain ⟨σ1, eσ1, hf⟩ := zl_s hf
  refine x_newI (L := 100) E hR hS caI (by decide) (by decide) (Nat.le_of_ble_eq_true rfl) (show cells + 1 ≤ 1 by omega) (show slots + 100 ≤ 100 by omega) dX1_init_7 (fun H hR hS => ?_)
  rw [← eσ1] at hR
  obtain ⟨hk2, hf⟩ := zc_s hf
  obtain ⟨σ3, eσ3, hf⟩ := zl_s hf
  refine x_putR E hR hS hk2 ok1 0 (Nat.le_of_ble_eq_true rfl) rfl fl_X1_9 (Or.inr ⟨rfl, rfl, rfl⟩) (fun _ => rfl) (fun _ => rfl) dX1_init_9 (fun H locs hR hS => ?_)
  rw [← eσ3] at hR
  obtain ⟨hr1, hs1⟩ := Prod.mk.inj (Option.some.inj hf)
  exact xr_v E hR hS rfl rfl hs1.symm (show cells + 1 ≤ 1 by omega) (show slots + 100 ≤ 100 by omega) dX1_init_12
theorem C_X1_init {g : GG} {v0 : Nat} {σ : Mm} {r : Unit} {σ' : Mm} (hf : f_X1_init v0 σ = some (r, σ')) : Ct g yX1_init cX1_init 1 none rm_X1_init [.ref (gB g + v0)] σ none σ' :=
  Ct.of true (by decide +kernel) (fun _ => rfl) (Nat.le_of_ble_eq_true rfl) (V_X1_init_0 _ _ _ _ hf 1 100 ⟨Nat.le_of_ble_eq_true rfl, Nat.le_of_ble_eq_true rfl⟩)
abbrev rm_X1_count : Room := { frames := 0, cells := 0, slots := 0, locals := 0 }
set_option maxRecDepth 100000 in
def f_X1_count (v0 : Nat) (σ : Mm) : Option (Int32 × Mm) :=
  zck (kO σ v0 1) (some ((mD σ v0 1), σ))
set_option maxRecDepth 100000 in
set_option maxHeartbeats 4000000 in
theorem V_X1_count_0 {g : GG} (v0 : Nat) (σ : Mm) (r : Int32) (σ' : Mm) (hf : f_X1_count v0 σ = some (r, σ')) : VJ g RX1 cX1_count 1 (some .int) false rm_X1_count (some (.int r)) σ' (0) (0) 0 [(0, .ref (gB g + v0))] [] σ := by
  intro p e s m args below meth c H locs cells slots ls E hR hS hl hc hs
  obtain ⟨hx, hb, hml, hr, hlocks, hown, hts, hin, hT⟩ := id E
  unfold f_X1_count at hf
  refine lv_aload_n hx hb dX1_count_0 rfl (lv_at hl 0 rfl) ?_
  obtain ⟨hk1, hf⟩ := zc_s hf
  refine x_getI E hR hk1 ok1 1 (Nat.le_of_ble_eq_true rfl) rfl fl_X1_15 dX1_count_1 ?_
  obtain ⟨hr1, hs1⟩ := Prod.mk.inj (Option.some.inj hf)
  exact xr_i E hR hS rfl (by rw [hr1]) hs1.symm hc hs dX1_count_4
theorem C_X1_count {g : GG} {v0 : Nat} {σ : Mm} {r : Int32} {σ' : Mm} (hf : f_X1_count v0 σ = some (r, σ')) : Ct g yX1_count cX1_count 1 (some .int) rm_X1_count [.ref (gB g + v0)] σ (some (.int r)) σ' :=
  Ct.of false (by decide +kernel) (fun h => by cases h) (Nat.le_of_ble_eq_true rfl) (V_X1_count_0 _ _ _ _ hf)
abbrev rm_X1_isFull : Room := { frames := 0, cells := 0, slots := 0, locals := 0 }
set_option maxRecDepth 100000 in
def f_X1_isFull (v0 : Nat) (σ : Mm) : Option (Int32 × Mm) :=
  zck (kO σ v0 1) (if (mD σ v0 1) < (100 : Int32) then (some ((0 : Int32), σ)) else (some ((1 : Int32), σ)))
set_option maxRecDepth 100000 in
set_option maxHeartbeats 4000000 in
theorem V_X1_isFull_0 {g : GG} (v0 : Nat) (σ : Mm) (r : Int32) (σ' : Mm) (hf : f_X1_isFull v0 σ = some (r, σ')) : VJ g RX1 cX1_isFull 1 (some .boolean) false rm_X1_isFull (some (.int r)) σ' (0) (0) 0 [(0, .ref (gB g + v0))] [] σ := by
  intro p e s m args below meth c H locs cells slots ls E hR hS hl hc hs
  obtain ⟨hx, hb, hml, hr, hlocks, hown, hts, hin, hT⟩ := id E
  unfold f_X1_isFull at hf
  refine lv_aload_n hx hb dX1_isFull_0 rfl (lv_at hl 0 rfl) ?_
  obtain ⟨hk1, hf⟩ := zc_s hf
  refine x_getI E hR hk1 ok1 1 (Nat.le_of_ble_eq_true rfl) rfl fl_X1_15 dX1_isFull_1 ?_
  refine lv_bipush (v := (100 : Int32)) hx hb dX1_isFull_4 rfl ?_
  refine lv_icmp_lt (tgt := 13) hx hb dX1_isFull_6 (by decide) (fun hq2 => ?_) (fun hq2 => ?_)
  · have hf := ite_p hq2 hf
    refine lv_iconst (v := (0 : Int32)) hx hb dX1_isFull_13 rfl ?_
    obtain ⟨hr1, hs1⟩ := Prod.mk.inj (Option.some.inj hf)
    exact xr_z E hR hS rfl rfl (by rw [hr1]) hs1.symm hc hs dX1_isFull_14
  · have hf := ite_n hq2 hf
    refine lv_iconst (v := (1 : Int32)) hx hb dX1_isFull_9 rfl ?_
    refine lv_goto (tgt := 14) hx hb dX1_isFull_10 (by decide) ?_
    obtain ⟨hr1, hs1⟩ := Prod.mk.inj (Option.some.inj hf)
    exact xr_z E hR hS rfl rfl (by rw [hr1]) hs1.symm hc hs dX1_isFull_14
theorem C_X1_isFull {g : GG} {v0 : Nat} {σ : Mm} {r : Int32} {σ' : Mm} (hf : f_X1_isFull v0 σ = some (r, σ')) : Ct g yX1_isFull cX1_isFull 1 (some .boolean) rm_X1_isFull [.ref (gB g + v0)] σ (some (.int r)) σ' :=
  Ct.of false (by decide +kernel) (fun h => by cases h) (Nat.le_of_ble_eq_true rfl) (V_X1_isFull_0 _ _ _ _ hf)
abbrev rm_X1_hasPlace : Room := { frames := 0, cells := 0, slots := 0, locals := 0 }
set_option maxRecDepth 100000 in
def f_X1_hasPlace (v0 : Nat) (v1 : Int32) (σ : Mm) : Option (Int32 × Mm) :=
  if v1 < 0 then (some ((0 : Int32), σ)) else (zck (kO σ v0 1) (if (mD σ v0 1) ≤ v1 then (some ((0 : Int32), σ)) else (some ((1 : Int32), σ))))
set_option maxRecDepth 100000 in
set_option maxHeartbeats 4000000 in
theorem V_X1_hasPlace_0 {g : GG} (v0 : Nat) (v1 : Int32) (σ : Mm) (r : Int32) (σ' : Mm) (hf : f_X1_hasPlace v0 v1 σ = some (r, σ')) : VJ g RX1 cX1_hasPlace 2 (some .boolean) false rm_X1_hasPlace (some (.int r)) σ' (0) (0) 0 [(0, .ref (gB g + v0)), (1, .int v1)] [] σ := by
  intro p e s m args below meth c H locs cells slots ls E hR hS hl hc hs
  obtain ⟨hx, hb, hml, hr, hlocks, hown, hts, hin, hT⟩ := id E
  unfold f_X1_hasPlace at hf
  refine lv_iload_n hx hb dX1_hasPlace_0 rfl (lv_at hl 1 rfl) ?_
  refine lv_if_lt (tgt := 16) hx hb dX1_hasPlace_1 (by decide) (fun hq1 => ?_) (fun hq1 => ?_)
  · have hf := ite_p hq1 hf
    refine lv_iconst (v := (0 : Int32)) hx hb dX1_hasPlace_16 rfl ?_
    obtain ⟨hr1, hs1⟩ := Prod.mk.inj (Option.some.inj hf)
    exact xr_z E hR hS rfl rfl (by rw [hr1]) hs1.symm hc hs dX1_hasPlace_17
  · have hf := ite_n hq1 hf
    refine lv_iload_n hx hb dX1_hasPlace_4 rfl (lv_at hl 1 rfl) ?_
    refine lv_aload_n hx hb dX1_hasPlace_5 rfl (lv_at hl 0 rfl) ?_
    obtain ⟨hk2, hf⟩ := zc_s hf
    refine x_getI E hR hk2 ok1 1 (Nat.le_of_ble_eq_true rfl) rfl fl_X1_15 dX1_hasPlace_6 ?_
    refine lv_icmp_ge (tgt := 16) hx hb dX1_hasPlace_9 (by decide) (fun hq3 => ?_) (fun hq3 => ?_)
    · have hf := ite_p hq3 hf
      refine lv_iconst (v := (0 : Int32)) hx hb dX1_hasPlace_16 rfl ?_
      obtain ⟨hr1, hs1⟩ := Prod.mk.inj (Option.some.inj hf)
      exact xr_z E hR hS rfl rfl (by rw [hr1]) hs1.symm hc hs dX1_hasPlace_17
    · have hf := ite_n hq3 hf
      refine lv_iconst (v := (1 : Int32)) hx hb dX1_hasPlace_12 rfl ?_
      refine lv_goto (tgt := 17) hx hb dX1_hasPlace_13 (by decide) ?_
      obtain ⟨hr1, hs1⟩ := Prod.mk.inj (Option.some.inj hf)
      exact xr_z E hR hS rfl rfl (by rw [hr1]) hs1.symm hc hs dX1_hasPlace_17
theorem C_X1_hasPlace {g : GG} {v0 : Nat} {v1 : Int32} {σ : Mm} {r : Int32} {σ' : Mm} (hf : f_X1_hasPlace v0 v1 σ = some (r, σ')) : Ct g yX1_hasPlace cX1_hasPlace 2 (some .boolean) rm_X1_hasPlace [.ref (gB g + v0), .int v1] σ (some (.int r)) σ' :=
  Ct.of false (by decide +kernel) (fun h => by cases h) (Nat.le_of_ble_eq_true rfl) (V_X1_hasPlace_0 _ _ _ _ _ hf)
abbrev rm_X1_itemAt : Room := { frames := 1, cells := 0, slots := 0, locals := 21 }
set_option maxRecDepth 100000 in
def f_X1_itemAt (v0 : Nat) (v1 : Int32) (σ : Mm) : Option (Int32 × Mm) :=
  zck (kO σ v0 1) (zcb (f_X1_hasPlace v0 v1 σ) (fun r2 σ3 => if r2 = 0 then (some ((0 : Int32), σ3)) else (zck (kO σ3 v0 1) (zrb (mR σ3 v0 0) (fun b6 => zck (kA σ3 1 b6 v1) (some ((mD σ3 b6 (ix v1)), σ3)))))))
set_option maxRecDepth 100000 in
set_option maxHeartbeats 4000000 in
theorem V_X1_itemAt_0 {g : GG} (v0 : Nat) (v1 : Int32) (σ : Mm) (r : Int32) (σ' : Mm) (hf : f_X1_itemAt v0 v1 σ = some (r, σ')) : VJ g RX1 cX1_itemAt 2 (some .int) false rm_X1_itemAt (some (.int r)) σ' (0) (0) 0 [(0, .ref (gB g + v0)), (1, .int v1)] [] σ := by
  intro p e s m args below meth c H locs cells slots ls E hR hS hl hc hs
  obtain ⟨hx, hb, hml, hr, hlocks, hown, hts, hin, hT⟩ := id E
  unfold f_X1_itemAt at hf
  refine lv_aload_n hx hb dX1_itemAt_0 rfl (lv_at hl 0 rfl) ?_
  refine lv_iload_n hx hb dX1_itemAt_1 rfl (lv_at hl 1 rfl) ?_
  obtain ⟨hk1, hf⟩ := zc_s hf
  obtain ⟨r2, σ3, hcr2, hf⟩ := zq_s hf
  refine xV (As := [.int v1]) (rest := []) (st1 := [.int r2]) E hR hS hl (C_X1_hasPlace hcr2) hk1 ok1 lb_X1_hasPlace lv_X1_hasPlace ml_X1_19 ⟨Nat.le_of_ble_eq_true rfl, Nat.le_of_ble_eq_true rfl⟩ rfl rfl rfl (Nat.le_of_ble_eq_true rfl) dX1_itemAt_2 ⟨hc, hs⟩ (fun H locs hR hS => ?_)
  refine lv_if_eq (tgt := 17) hx hb dX1_itemAt_5 (by decide) (fun hq4 => ?_) (fun hq4 => ?_)
  · have hf := ite_p hq4 hf
    refine lv_iconst (v := (0 : Int32)) hx hb dX1_itemAt_17 rfl ?_
    obtain ⟨hr1, hs1⟩ := Prod.mk.inj (Option.some.inj hf)
    exact xr_i E hR hS rfl (by rw [hr1]) hs1.symm hc hs dX1_itemAt_18
  · have hf := ite_n hq4 hf
    refine lv_aload_n hx hb dX1_itemAt_8 rfl (lv_at hl 0 rfl) ?_
    obtain ⟨hk5, hf⟩ := zc_s hf
    obtain ⟨b6, hb6, hf⟩ := zr_s hf
    refine x_getR E hR hk5 hb6 ok1 (Nat.le_of_ble_eq_true rfl) rfl fl_X1_9 dX1_itemAt_9 ?_
    refine lv_iload_n hx hb dX1_itemAt_12 rfl (lv_at hl 1 rfl) ?_
    obtain ⟨hk7, hf⟩ := zc_s hf
    refine x_ild E hR hk7 dX1_itemAt_13 ?_
    refine lv_goto (tgt := 18) hx hb dX1_itemAt_14 (by decide) ?_
    obtain ⟨hr1, hs1⟩ := Prod.mk.inj (Option.some.inj hf)
    exact xr_i E hR hS rfl (by rw [hr1]) hs1.symm hc hs dX1_itemAt_18
theorem C_X1_itemAt {g : GG} {v0 : Nat} {v1 : Int32} {σ : Mm} {r : Int32} {σ' : Mm} (hf : f_X1_itemAt v0 v1 σ = some (r, σ')) : Ct g yX1_itemAt cX1_itemAt 2 (some .int) rm_X1_itemAt [.ref (gB g + v0), .int v1] σ (some (.int r)) σ' :=
  Ct.of false (by decide +kernel) (fun h => by cases h) (Nat.le_of_ble_eq_true rfl) (V_X1_itemAt_0 _ _ _ _ _ hf)
abbrev rm_X1_add : Room := { frames := 1, cells := 0, slots := 0, locals := 20 }
set_option maxRecDepth 100000 in
def f_X1_add (v0 : Nat) (v1 : Int32) (σ : Mm) : Option (Unit × Mm) :=
  zck (kO σ v0 1) (zcb (f_X1_isFull v0 σ) (fun r2 σ3 => if r2 = 0 then (zck (kO σ3 v0 1) (zrb (mR σ3 v0 0) (fun b6 => zck (kA σ3 1 b6 (mD σ3 v0 1)) (zlt (sD σ3 b6 (ix (mD σ3 v0 1)) v1) (fun σ8 => zlt (sD σ8 v0 1 ((mD σ8 v0 1) + (1 : Int32))) (fun σ9 => some ((), σ9))))))) else (some ((), σ3))))
set_option maxRecDepth 100000 in
set_option maxHeartbeats 4000000 in
theorem V_X1_add_0 {g : GG} (v0 : Nat) (v1 : Int32) (σ : Mm) (r : Unit) (σ' : Mm) (hf : f_X1_add v0 v1 σ = some (r, σ')) : VJ g RX1 cX1_add 2 none false rm_X1_add none σ' (0) (0) 0 [(0, .ref (gB g + v0)), (1, .int v1)] [] σ := by
  intro p e s m args below meth c H locs cells slots ls E hR hS hl hc hs
  obtain ⟨hx, hb, hml, hr, hlocks, hown, hts, hin, hT⟩ := id E
  unfold f_X1_add at hf
  refine lv_aload_n hx hb dX1_add_0 rfl (lv_at hl 0 rfl) ?_
  obtain ⟨hk1, hf⟩ := zc_s hf
  obtain ⟨r2, σ3, hcr2, hf⟩ := zq_s hf
  refine xV (As := []) (rest := []) (st1 := [.int r2]) E hR hS hl (C_X1_isFull hcr2) hk1 ok1 lb_X1_isFull lv_X1_isFull ml_X1_23 ⟨Nat.le_of_ble_eq_true rfl, Nat.le_of_ble_eq_true rfl⟩ rfl rfl rfl (Nat.le_of_ble_eq_true rfl) dX1_add_1 ⟨hc, hs⟩ (fun H locs hR hS => ?_)
  refine lv_if_ne (tgt := 27) hx hb dX1_add_4 (by decide) (fun hq4 => ?_) (fun hq4 => ?_)
  · have hf := ite_n hq4 hf
    obtain ⟨hr1, hs1⟩ := Prod.mk.inj (Option.some.inj hf)
    exact xr_v E hR hS rfl rfl hs1.symm hc hs dX1_add_27
  · have hf := ite_p hq4 hf
    refine lv_aload_n hx hb dX1_add_7 rfl (lv_at hl 0 rfl) ?_
    obtain ⟨hk5, hf⟩ := zc_s hf
    obtain ⟨b6, hb6, hf⟩ := zr_s hf
    refine x_getR E hR hk5 hb6 ok1 (Nat.le_of_ble_eq_true rfl) rfl fl_X1_9 dX1_add_8 ?_
    refine lv_aload_n hx hb dX1_add_11 rfl (lv_at hl 0 rfl) ?_
    refine x_getI E hR hk5 ok1 1 (Nat.le_of_ble_eq_true rfl) rfl fl_X1_15 dX1_add_12 ?_
    refine lv_iload_n hx hb dX1_add_15 rfl (lv_at hl 1 rfl) ?_
    obtain ⟨hk7, hf⟩ := zc_s hf
    obtain ⟨σ8, eσ8, hf⟩ := zl_s hf
    refine x_ist E hR hS hk7 dX1_add_16 (fun H locs hR hS => ?_)
    rw [← eσ8] at hR
    refine lv_aload_n hx hb dX1_add_17 rfl (lv_at hl 0 rfl) ?_
    refine lv_dup hx hb dX1_add_18 rfl ?_
    refine x_getI E hR (by rw [eσ8]; exact hk5) ok1 1 (Nat.le_of_ble_eq_true rfl) rfl fl_X1_15 dX1_add_19 ?_
    refine lv_iconst (v := (1 : Int32)) hx hb dX1_add_22 rfl ?_
    refine lv_iadd hx hb dX1_add_23 ?_
    obtain ⟨σ9, eσ9, hf⟩ := zl_s hf
    refine x_putI E hR hS (by rw [eσ8]; exact hk5) ok1 1 (Nat.le_of_ble_eq_true rfl) rfl fl_X1_15 (Or.inl rfl) rfl rfl dX1_add_24 (fun H locs hR hS => ?_)
    rw [← eσ9] at hR
    obtain ⟨hr1, hs1⟩ := Prod.mk.inj (Option.some.inj hf)
    exact xr_v E hR hS rfl rfl hs1.symm hc hs dX1_add_27
theorem C_X1_add {g : GG} {v0 : Nat} {v1 : Int32} {σ : Mm} {r : Unit} {σ' : Mm} (hf : f_X1_add v0 v1 σ = some (r, σ')) : Ct g yX1_add cX1_add 2 none rm_X1_add [.ref (gB g + v0), .int v1] σ none σ' :=
  Ct.of false (by decide +kernel) (fun h => by cases h) (Nat.le_of_ble_eq_true rfl) (V_X1_add_0 _ _ _ _ _ hf)
abbrev rm_X1_replace : Room := { frames := 1, cells := 0, slots := 0, locals := 21 }
set_option maxRecDepth 100000 in
def f_X1_replace (v0 : Nat) (v1 : Int32) (v2 : Int32) (σ : Mm) : Option (Unit × Mm) :=
  zck (kO σ v0 1) (zcb (f_X1_hasPlace v0 v1 σ) (fun r2 σ3 => if r2 = 0 then (some ((), σ3)) else (zck (kO σ3 v0 1) (zrb (mR σ3 v0 0) (fun b6 => zck (kA σ3 1 b6 v1) (zlt (sD σ3 b6 (ix v1) v2) (fun σ8 => some ((), σ8))))))))
set_option maxRecDepth 100000 in
set_option maxHeartbeats 4000000 in
theorem V_X1_replace_0 {g : GG} (v0 : Nat) (v1 : Int32) (v2 : Int32) (σ : Mm) (r : Unit) (σ' : Mm) (hf : f_X1_replace v0 v1 v2 σ = some (r, σ')) : VJ g RX1 cX1_replace 3 none false rm_X1_replace none σ' (0) (0) 0 [(0, .ref (gB g + v0)), (1, .int v1), (2, .int v2)] [] σ := by
  intro p e s m args below meth c H locs cells slots ls E hR hS hl hc hs
  obtain ⟨hx, hb, hml, hr, hlocks, hown, hts, hin, hT⟩ := id E
  unfold f_X1_replace at hf
  refine lv_aload_n hx hb dX1_replace_0 rfl (lv_at hl 0 rfl) ?_
  refine lv_iload_n hx hb dX1_replace_1 rfl (lv_at hl 1 rfl) ?_
  obtain ⟨hk1, hf⟩ := zc_s hf
  obtain ⟨r2, σ3, hcr2, hf⟩ := zq_s hf
  refine xV (As := [.int v1]) (rest := []) (st1 := [.int r2]) E hR hS hl (C_X1_hasPlace hcr2) hk1 ok1 lb_X1_hasPlace lv_X1_hasPlace ml_X1_19 ⟨Nat.le_of_ble_eq_true rfl, Nat.le_of_ble_eq_true rfl⟩ rfl rfl rfl (Nat.le_of_ble_eq_true rfl) dX1_replace_2 ⟨hc, hs⟩ (fun H locs hR hS => ?_)
  refine lv_if_eq (tgt := 15) hx hb dX1_replace_5 (by decide) (fun hq4 => ?_) (fun hq4 => ?_)
  · have hf := ite_p hq4 hf
    obtain ⟨hr1, hs1⟩ := Prod.mk.inj (Option.some.inj hf)
    exact xr_v E hR hS rfl rfl hs1.symm hc hs dX1_replace_15
  · have hf := ite_n hq4 hf
    refine lv_aload_n hx hb dX1_replace_8 rfl (lv_at hl 0 rfl) ?_
    obtain ⟨hk5, hf⟩ := zc_s hf
    obtain ⟨b6, hb6, hf⟩ := zr_s hf
    refine x_getR E hR hk5 hb6 ok1 (Nat.le_of_ble_eq_true rfl) rfl fl_X1_9 dX1_replace_9 ?_
    refine lv_iload_n hx hb dX1_replace_12 rfl (lv_at hl 1 rfl) ?_
    refine lv_iload_n hx hb dX1_replace_13 rfl (lv_at hl 2 rfl) ?_
    obtain ⟨hk7, hf⟩ := zc_s hf
    obtain ⟨σ8, eσ8, hf⟩ := zl_s hf
    refine x_ist E hR hS hk7 dX1_replace_14 (fun H locs hR hS => ?_)
    rw [← eσ8] at hR
    obtain ⟨hr1, hs1⟩ := Prod.mk.inj (Option.some.inj hf)
    exact xr_v E hR hS rfl rfl hs1.symm hc hs dX1_replace_15
theorem C_X1_replace {g : GG} {v0 : Nat} {v1 : Int32} {v2 : Int32} {σ : Mm} {r : Unit} {σ' : Mm} (hf : f_X1_replace v0 v1 v2 σ = some (r, σ')) : Ct g yX1_replace cX1_replace 3 none rm_X1_replace [.ref (gB g + v0), .int v1, .int v2] σ none σ' :=
  Ct.of false (by decide +kernel) (fun h => by cases h) (Nat.le_of_ble_eq_true rfl) (V_X1_replace_0 _ _ _ _ _ _ hf)
abbrev rm_X1_shorten : Room := { frames := 0, cells := 0, slots := 0, locals := 0 }
set_option maxRecDepth 100000 in
def f_X1_shorten (v0 : Nat) (v1 : Int32) (σ : Mm) : Option (Unit × Mm) :=
  if v1 < 0 then (some ((), σ)) else (zck (kO σ v0 1) (if (mD σ v0 1) ≤ v1 then (some ((), σ)) else (zlt (sD σ v0 1 v1) (fun σ4 => some ((), σ4)))))
set_option maxRecDepth 100000 in
set_option maxHeartbeats 4000000 in
theorem V_X1_shorten_0 {g : GG} (v0 : Nat) (v1 : Int32) (σ : Mm) (r : Unit) (σ' : Mm) (hf : f_X1_shorten v0 v1 σ = some (r, σ')) : VJ g RX1 cX1_shorten 2 none false rm_X1_shorten none σ' (0) (0) 0 [(0, .ref (gB g + v0)), (1, .int v1)] [] σ := by
  intro p e s m args below meth c H locs cells slots ls E hR hS hl hc hs
  obtain ⟨hx, hb, hml, hr, hlocks, hown, hts, hin, hT⟩ := id E
  unfold f_X1_shorten at hf
  refine lv_iload_n hx hb dX1_shorten_0 rfl (lv_at hl 1 rfl) ?_
  refine lv_if_lt (tgt := 17) hx hb dX1_shorten_1 (by decide) (fun hq1 => ?_) (fun hq1 => ?_)
  · have hf := ite_p hq1 hf
    obtain ⟨hr1, hs1⟩ := Prod.mk.inj (Option.some.inj hf)
    exact xr_v E hR hS rfl rfl hs1.symm hc hs dX1_shorten_17
  · have hf := ite_n hq1 hf
    refine lv_iload_n hx hb dX1_shorten_4 rfl (lv_at hl 1 rfl) ?_
    refine lv_aload_n hx hb dX1_shorten_5 rfl (lv_at hl 0 rfl) ?_
    obtain ⟨hk2, hf⟩ := zc_s hf
    refine x_getI E hR hk2 ok1 1 (Nat.le_of_ble_eq_true rfl) rfl fl_X1_15 dX1_shorten_6 ?_
    refine lv_icmp_ge (tgt := 17) hx hb dX1_shorten_9 (by decide) (fun hq3 => ?_) (fun hq3 => ?_)
    · have hf := ite_p hq3 hf
      obtain ⟨hr1, hs1⟩ := Prod.mk.inj (Option.some.inj hf)
      exact xr_v E hR hS rfl rfl hs1.symm hc hs dX1_shorten_17
    · have hf := ite_n hq3 hf
      refine lv_aload_n hx hb dX1_shorten_12 rfl (lv_at hl 0 rfl) ?_
      refine lv_iload_n hx hb dX1_shorten_13 rfl (lv_at hl 1 rfl) ?_
      obtain ⟨σ4, eσ4, hf⟩ := zl_s hf
      refine x_putI E hR hS hk2 ok1 1 (Nat.le_of_ble_eq_true rfl) rfl fl_X1_15 (Or.inl rfl) rfl rfl dX1_shorten_14 (fun H locs hR hS => ?_)
      rw [← eσ4] at hR
      obtain ⟨hr1, hs1⟩ := Prod.mk.inj (Option.some.inj hf)
      exact xr_v E hR hS rfl rfl hs1.symm hc hs dX1_shorten_17
theorem C_X1_shorten {g : GG} {v0 : Nat} {v1 : Int32} {σ : Mm} {r : Unit} {σ' : Mm} (hf : f_X1_shorten v0 v1 σ = some (r, σ')) : Ct g yX1_shorten cX1_shorten 2 none rm_X1_shorten [.ref (gB g + v0), .int v1] σ none σ' :=
  Ct.of false (by decide +kernel) (fun h => by cases h) (Nat.le_of_ble_eq_true rfl) (V_X1_shorten_0 _ _ _ _ _ hf)
abbrev rm_X1_countDigests : Room := { frames := 2, cells := 0, slots := 0, locals := 42 }
set_option maxRecDepth 100000 in
def f_X1_countDigests_23 (k_4 : Nat → Int32 → Int32 → Mm → Option (Int32 × Mm)) (v0 : Nat) (v1 : Int32) (v2 : Int32) (σ : Mm) : Option (Int32 × Mm) :=
  k_4 v0 v1 (v2 + (1 : Int32)) σ
set_option maxRecDepth 100000 in
set_option maxHeartbeats 4000000 in
theorem V_X1_countDigests_23 {g : GG} (k_4 : Nat → Int32 → Int32 → Mm → Option (Int32 × Mm)) (hk_4 : ∀ (v0 : Nat) (v1 : Int32) (v2 : Int32) (σ : Mm) (r : Int32) (σ' : Mm), k_4 v0 v1 v2 σ = some (r, σ') → VJ g RX1 cX1_countDigests 3 (some .int) false rm_X1_countDigests (some (.int r)) σ' (0) (0) 4 [(0, .ref (gB g + v0)), (1, .int v1), (2, .int v2)] [] σ) (v0 : Nat) (v1 : Int32) (v2 : Int32) (σ : Mm) (r : Int32) (σ' : Mm) (hf : f_X1_countDigests_23 k_4 v0 v1 v2 σ = some (r, σ')) : VJ g RX1 cX1_countDigests 3 (some .int) false rm_X1_countDigests (some (.int r)) σ' (0) (0) 23 [(0, .ref (gB g + v0)), (1, .int v1), (2, .int v2)] [] σ := by
  intro p e s m args below meth c H locs cells slots ls E hR hS hl hc hs
  obtain ⟨hx, hb, hml, hr, hlocks, hown, hts, hin, hT⟩ := id E
  unfold f_X1_countDigests_23 at hf
  refine lv_iinc (v := (v2 + (1 : Int32))) (lv' := [(2, .int (v2 + (1 : Int32))), (0, .ref (gB g + v0)), (1, .int v1)]) hx hb dX1_countDigests_23 hl (k := 2) rfl rfl (Nat.le_of_ble_eq_true rfl) rfl (fun ls hl => ?_)
  refine lv_goto (tgt := 4) hx hb dX1_countDigests_26 (by decide) ?_
  exact hk_4 _ _ _ _ _ _ hf p e s m args below meth c _ _ _ _ _ E hR hS (lv_sub hl [1, 2, 0] rfl) hc hs
set_option maxRecDepth 100000 in
def f_X1_countDigests_4 : Nat → Nat → Int32 → Int32 → Mm → Option (Int32 × Mm)
  | 0, _, _, _, _ => none
  | n + 1, v0, v1, v2, σ =>
    zck (kO σ v0 1) (if (mD σ v0 1) ≤ v2 then (some (v1, σ)) else (zcb (f_X1_itemAt v0 v2 σ) (fun r3 σ4 => if r3 ≤ 0 then (f_X1_countDigests_23 (f_X1_countDigests_4 n) v0 v1 v2 σ4) else (f_X1_countDigests_23 (f_X1_countDigests_4 n) v0 (v1 + (1 : Int32)) v2 σ4))))
set_option maxRecDepth 100000 in
set_option maxHeartbeats 4000000 in
theorem V_X1_countDigests_4 {g : GG} : ∀ (n : Nat) (v0 : Nat) (v1 : Int32) (v2 : Int32) (σ : Mm) (r : Int32) (σ' : Mm), f_X1_countDigests_4 n v0 v1 v2 σ = some (r, σ') → VJ g RX1 cX1_countDigests 3 (some .int) false rm_X1_countDigests (some (.int r)) σ' (0) (0) 4 [(0, .ref (gB g + v0)), (1, .int v1), (2, .int v2)] [] σ := by
  intro n
  induction n with
  | zero =>
    intro v0 v1 v2 σ r σ' hf
    unfold f_X1_countDigests_4 at hf
    cases hf
  | succ n ih =>
    intro v0 v1 v2 σ r σ' hf p e s m args below meth c H locs cells slots ls E hR hS hl hc hs
    obtain ⟨hx, hb, hml, hr, hlocks, hown, hts, hin, hT⟩ := id E
    unfold f_X1_countDigests_4 at hf
    refine lv_iload_n hx hb dX1_countDigests_4 rfl (lv_at hl 2 rfl) ?_
    refine lv_aload_n hx hb dX1_countDigests_5 rfl (lv_at hl 0 rfl) ?_
    obtain ⟨hk1, hf⟩ := zc_s hf
    refine x_getI E hR hk1 ok1 1 (Nat.le_of_ble_eq_true rfl) rfl fl_X1_15 dX1_countDigests_6 ?_
    refine lv_icmp_ge (tgt := 29) hx hb dX1_countDigests_9 (by decide) (fun hq2 => ?_) (fun hq2 => ?_)
    · have hf := ite_p hq2 hf
      refine lv_iload_n hx hb dX1_countDigests_29 rfl (lv_at hl 1 rfl) ?_
      obtain ⟨hr1, hs1⟩ := Prod.mk.inj (Option.some.inj hf)
      exact xr_i E hR hS rfl (by rw [hr1]) hs1.symm hc hs dX1_countDigests_30
    · have hf := ite_n hq2 hf
      refine lv_aload_n hx hb dX1_countDigests_12 rfl (lv_at hl 0 rfl) ?_
      refine lv_iload_n hx hb dX1_countDigests_13 rfl (lv_at hl 2 rfl) ?_
      obtain ⟨r3, σ4, hcr3, hf⟩ := zq_s hf
      refine xV (As := [.int v2]) (rest := []) (st1 := [.int r3]) E hR hS hl (C_X1_itemAt hcr3) hk1 ok1 lb_X1_itemAt lv_X1_itemAt ml_X1_27 ⟨Nat.le_of_ble_eq_true rfl, Nat.le_of_ble_eq_true rfl⟩ rfl rfl rfl (Nat.le_of_ble_eq_true rfl) dX1_countDigests_14 ⟨hc, hs⟩ (fun H locs hR hS => ?_)
      refine lv_if_le (tgt := 23) hx hb dX1_countDigests_17 (by decide) (fun hq5 => ?_) (fun hq5 => ?_)
      · have hf := ite_p hq5 hf
        exact V_X1_countDigests_23 _ ih _ _ _ _ _ _ hf p e s m args below meth c _ _ _ _ _ E hR hS (lv_sub hl [0, 1, 2] rfl) hc hs
      · have hf := ite_n hq5 hf
        refine lv_iinc (v := (v1 + (1 : Int32))) (lv' := [(1, .int (v1 + (1 : Int32))), (0, .ref (gB g + v0)), (2, .int v2)]) hx hb dX1_countDigests_20 hl (k := 1) rfl rfl (Nat.le_of_ble_eq_true rfl) rfl (fun ls hl => ?_)
        exact V_X1_countDigests_23 _ ih _ _ _ _ _ _ hf p e s m args below meth c _ _ _ _ _ E hR hS (lv_sub hl [1, 0, 2] rfl) hc hs
set_option maxRecDepth 100000 in
def f_X1_countDigests (v0 : Nat) (σ : Mm) : Option (Int32 × Mm) :=
  f_X1_countDigests_4 1000 v0 (0 : Int32) (0 : Int32) σ
set_option maxRecDepth 100000 in
set_option maxHeartbeats 4000000 in
theorem V_X1_countDigests_0 {g : GG} (v0 : Nat) (σ : Mm) (r : Int32) (σ' : Mm) (hf : f_X1_countDigests v0 σ = some (r, σ')) : VJ g RX1 cX1_countDigests 3 (some .int) false rm_X1_countDigests (some (.int r)) σ' (0) (0) 0 [(0, .ref (gB g + v0))] [] σ := by
  intro p e s m args below meth c H locs cells slots ls E hR hS hl hc hs
  obtain ⟨hx, hb, hml, hr, hlocks, hown, hts, hin, hT⟩ := id E
  unfold f_X1_countDigests at hf
  refine lv_iconst (v := (0 : Int32)) hx hb dX1_countDigests_0 rfl ?_
  refine lv_istore_n (lv' := [(1, .int (0 : Int32)), (0, .ref (gB g + v0))]) hx hb dX1_countDigests_1 rfl hl (Nat.le_of_ble_eq_true rfl) rfl (fun ls hl => ?_)
  refine lv_iconst (v := (0 : Int32)) hx hb dX1_countDigests_2 rfl ?_
  refine lv_istore_n (lv' := [(2, .int (0 : Int32)), (1, .int (0 : Int32)), (0, .ref (gB g + v0))]) hx hb dX1_countDigests_3 rfl hl (Nat.le_of_ble_eq_true rfl) rfl (fun ls hl => ?_)
  exact V_X1_countDigests_4  1000 _ _ _ _ _ _ hf p e s m args below meth c _ _ _ _ _ E hR hS (lv_sub hl [2, 1, 0] rfl) hc hs
theorem C_X1_countDigests {g : GG} {v0 : Nat} {σ : Mm} {r : Int32} {σ' : Mm} (hf : f_X1_countDigests v0 σ = some (r, σ')) : Ct g yX1_countDigests cX1_countDigests 3 (some .int) rm_X1_countDigests [.ref (gB g + v0)] σ (some (.int r)) σ' :=
  Ct.of false (by decide +kernel) (fun h => by cases h) (Nat.le_of_ble_eq_true rfl) (V_X1_countDigests_0 _ _ _ _ hf)
abbrev rm_X1_countNodes : Room := { frames := 2, cells := 0, slots := 0, locals := 42 }
set_option maxRecDepth 100000 in
def f_X1_countNodes_23 (k_4 : Nat → Int32 → Int32 → Mm → Option (Int32 × Mm)) (v0 : Nat) (v1 : Int32) (v2 : Int32) (σ : Mm) : Option (Int32 × Mm) :=
  k_4 v0 v1 (v2 + (1 : Int32)) σ
set_option maxRecDepth 100000 in
set_option maxHeartbeats 4000000 in
theorem V_X1_countNodes_23 {g : GG} (k_4 : Nat → Int32 → Int32 → Mm → Option (Int32 × Mm)) (hk_4 : ∀ (v0 : Nat) (v1 : Int32) (v2 : Int32) (σ : Mm) (r : Int32) (σ' : Mm), k_4 v0 v1 v2 σ = some (r, σ') → VJ g RX1 cX1_countNodes 3 (some .int) false rm_X1_countNodes (some (.int r)) σ' (0) (0) 4 [(0, .ref (gB g + v0)), (1, .int v1), (2, .int v2)] [] σ) (v0 : Nat) (v1 : Int32) (v2 : Int32) (σ : Mm) (r : Int32) (σ' : Mm) (hf : f_X1_countNodes_23 k_4 v0 v1 v2 σ = some (r, σ')) : VJ g RX1 cX1_countNodes 3 (some .int) false rm_X1_countNodes (some (.int r)) σ' (0) (0) 23 [(0, .ref (gB g + v0)), (1, .int v1), (2, .int v2)] [] σ := by
  intro p e s m args below meth c H locs cells slots ls E hR hS hl hc hs
  obtain ⟨hx, hb, hml, hr, hlocks, hown, hts, hin, hT⟩ := id E
  unfold f_X1_countNodes_23 at hf
  refine lv_iinc (v := (v2 + (1 : Int32))) (lv' := [(2, .int (v2 + (1 : Int32))), (0, .ref (gB g + v0)), (1, .int v1)]) hx hb dX1_countNodes_23 hl (k := 2) rfl rfl (Nat.le_of_ble_eq_true rfl) rfl (fun ls hl => ?_)
  refine lv_goto (tgt := 4) hx hb dX1_countNodes_26 (by decide) ?_
  exact hk_4 _ _ _ _ _ _ hf p e s m args below meth c _ _ _ _ _ E hR hS (lv_sub hl [1, 2, 0] rfl) hc hs
set_option maxRecDepth 100000 in
def f_X1_countNodes_4 : Nat → Nat → Int32 → Int32 → Mm → Option (Int32 × Mm)
  | 0, _, _, _, _ => none
  | n + 1, v0, v1, v2, σ =>
    zck (kO σ v0 1) (if (mD σ v0 1) ≤ v2 then (some (v1, σ)) else (zcb (f_X1_itemAt v0 v2 σ) (fun r3 σ4 => if 0 ≤ r3 then (f_X1_countNodes_23 (f_X1_countNodes_4 n) v0 v1 v2 σ4) else (f_X1_countNodes_23 (f_X1_countNodes_4 n) v0 (v1 + (1 : Int32)) v2 σ4))))
set_option maxRecDepth 100000 in
set_option maxHeartbeats 4000000 in
theorem V_X1_countNodes_4 {g : GG} : ∀ (n : Nat) (v0 : Nat) (v1 : Int32) (v2 : Int32) (σ : Mm) (r : Int32) (σ' : Mm), f_X1_countNodes_4 n v0 v1 v2 σ = some (r, σ') → VJ g RX1 cX1_countNodes 3 (some .int) false rm_X1_countNodes (some (.int r)) σ' (0) (0) 4 [(0, .ref (gB g + v0)), (1, .int v1), (2, .int v2)] [] σ := by
  intro n
  induction n with
  | zero =>
    intro v0 v1 v2 σ r σ' hf
    unfold f_X1_countNodes_4 at hf
    cases hf
  | succ n ih =>
    intro v0 v1 v2 σ r σ' hf p e s m args below meth c H locs cells slots ls E hR hS hl hc hs
    obtain ⟨hx, hb, hml, hr, hlocks, hown, hts, hin, hT⟩ := id E
    unfold f_X1_countNodes_4 at hf
    refine lv_iload_n hx hb dX1_countNodes_4 rfl (lv_at hl 2 rfl) ?_
    refine lv_aload_n hx hb dX1_countNodes_5 rfl (lv_at hl 0 rfl) ?_
    obtain ⟨hk1, hf⟩ := zc_s hf
    refine x_getI E hR hk1 ok1 1 (Nat.le_of_ble_eq_true rfl) rfl fl_X1_15 dX1_countNodes_6 ?_
    refine lv_icmp_ge (tgt := 29) hx hb dX1_countNodes_9 (by decide) (fun hq2 => ?_) (fun hq2 => ?_)
    · have hf := ite_p hq2 hf
      refine lv_iload_n hx hb dX1_countNodes_29 rfl (lv_at hl 1 rfl) ?_
      obtain ⟨hr1, hs1⟩ := Prod.mk.inj (Option.some.inj hf)
      exact xr_i E hR hS rfl (by rw [hr1]) hs1.symm hc hs dX1_countNodes_30
    · have hf := ite_n hq2 hf
      refine lv_aload_n hx hb dX1_countNodes_12 rfl (lv_at hl 0 rfl) ?_
      refine lv_iload_n hx hb dX1_countNodes_13 rfl (lv_at hl 2 rfl) ?_
      obtain ⟨r3, σ4, hcr3, hf⟩ := zq_s hf
      refine xV (As := [.int v2]) (rest := []) (st1 := [.int r3]) E hR hS hl (C_X1_itemAt hcr3) hk1 ok1 lb_X1_itemAt lv_X1_itemAt ml_X1_27 ⟨Nat.le_of_ble_eq_true rfl, Nat.le_of_ble_eq_true rfl⟩ rfl rfl rfl (Nat.le_of_ble_eq_true rfl) dX1_countNodes_14 ⟨hc, hs⟩ (fun H locs hR hS => ?_)
      refine lv_if_ge (tgt := 23) hx hb dX1_countNodes_17 (by decide) (fun hq5 => ?_) (fun hq5 => ?_)
      · have hf := ite_p hq5 hf
        exact V_X1_countNodes_23 _ ih _ _ _ _ _ _ hf p e s m args below meth c _ _ _ _ _ E hR hS (lv_sub hl [0, 1, 2] rfl) hc hs
      · have hf := ite_n hq5 hf
        refine lv_iinc (v := (v1 + (1 : Int32))) (lv' := [(1, .int (v1 + (1 : Int32))), (0, .ref (gB g + v0)), (2, .int v2)]) hx hb dX1_countNodes_20 hl (k := 1) rfl rfl (Nat.le_of_ble_eq_true rfl) rfl (fun ls hl => ?_)
        exact V_X1_countNodes_23 _ ih _ _ _ _ _ _ hf p e s m args below meth c _ _ _ _ _ E hR hS (lv_sub hl [1, 0, 2] rfl) hc hs
set_option maxRecDepth 100000 in
def f_X1_countNodes (v0 : Nat) (σ : Mm) : Option (Int32 × Mm) :=
  f_X1_countNodes_4 1000 v0 (0 : Int32) (0 : Int32) σ
set_option maxRecDepth 100000 in
set_option maxHeartbeats 4000000 in
theorem V_X1_countNodes_0 {g : GG} (v0 : Nat) (σ : Mm) (r : Int32) (σ' : Mm) (hf : f_X1_countNodes v0 σ = some (r, σ')) : VJ g RX1 cX1_countNodes 3 (some .int) false rm_X1_countNodes (some (.int r)) σ' (0) (0) 0 [(0, .ref (gB g + v0))] [] σ := by
  intro p e s m args below meth c H locs cells slots ls E hR hS hl hc hs
  obtain ⟨hx, hb, hml, hr, hlocks, hown, hts, hin, hT⟩ := id E
  unfold f_X1_countNodes at hf
  refine lv_iconst (v := (0 : Int32)) hx hb dX1_countNodes_0 rfl ?_
  refine lv_istore_n (lv' := [(1, .int (0 : Int32)), (0, .ref (gB g + v0))]) hx hb dX1_countNodes_1 rfl hl (Nat.le_of_ble_eq_true rfl) rfl (fun ls hl => ?_)
  refine lv_iconst (v := (0 : Int32)) hx hb dX1_countNodes_2 rfl ?_
  refine lv_istore_n (lv' := [(2, .int (0 : Int32)), (1, .int (0 : Int32)), (0, .ref (gB g + v0))]) hx hb dX1_countNodes_3 rfl hl (Nat.le_of_ble_eq_true rfl) rfl (fun ls hl => ?_)
  exact V_X1_countNodes_4  1000 _ _ _ _ _ _ hf p e s m args below meth c _ _ _ _ _ E hR hS (lv_sub hl [2, 1, 0] rfl) hc hs
theorem C_X1_countNodes {g : GG} {v0 : Nat} {σ : Mm} {r : Int32} {σ' : Mm} (hf : f_X1_countNodes v0 σ = some (r, σ')) : Ct g yX1_countNodes cX1_countNodes 3 (some .int) rm_X1_countNodes [.ref (gB g + v0)] σ (some (.int r)) σ' :=
  Ct.of false (by decide +kernel) (fun h => by cases h) (Nat.le_of_ble_eq_true rfl) (V_X1_countNodes_0 _ _ _ _ hf)
abbrev rm_X2_count : Room := { frames := 0, cells := 0, slots := 0, locals := 0 }
set_option maxRecDepth 100000 in
def f_X2_count (v0 : Nat) (σ : Mm) : Option (Int32 × Mm) :=
  zck (kO σ v0 2) (some ((mD σ v0 1), σ))
set_option maxRecDepth 100000 in
set_option maxHeartbeats 4000000 in
theorem V_X2_count_0 {g : GG} (v0 : Nat) (σ : Mm) (r : Int32) (σ' : Mm) (hf : f_X2_count v0 σ = some (r, σ')) : VJ g RX2 cX2_count 1 (some .int) false rm_X2_count (some (.int r)) σ' (0) (0) 0 [(0, .ref (gB g + v0))] [] σ := by
  intro p e s m args below meth c H locs cells slots ls E hR hS hl hc hs
  obtain ⟨hx, hb, hml, hr, hlocks, hown, hts, hin, hT⟩ := id E
  unfold f_X2_count at hf
  refine lv_aload_n hx hb dX2_count_0 rfl (lv_at hl 0 rfl) ?_
  obtain ⟨hk1, hf⟩ := zc_s hf
  refine x_getI E hR hk1 ok2 1 (Nat.le_of_ble_eq_true rfl) rfl fl_X2_21 dX2_count_1 ?_
  obtain ⟨hr1, hs1⟩ := Prod.mk.inj (Option.some.inj hf)
  exact xr_i E hR hS rfl (by rw [hr1]) hs1.symm hc hs dX2_count_4
theorem C_X2_count {g : GG} {v0 : Nat} {σ : Mm} {r : Int32} {σ' : Mm} (hf : f_X2_count v0 σ = some (r, σ')) : Ct g yX2_count cX2_count 1 (some .int) rm_X2_count [.ref (gB g + v0)] σ (some (.int r)) σ' :=
  Ct.of false (by decide +kernel) (fun h => by cases h) (Nat.le_of_ble_eq_true rfl) (V_X2_count_0 _ _ _ _ hf)
abbrev rm_X8_isNumber : Room := { frames := 0, cells := 0, slots := 0, locals := 0 }
set_option maxRecDepth 100000 in
def f_X8_isNumber (v0 : Int32) (σ : Mm) : Option (Int32 × Mm) :=
  if v0 < 0 then (some ((0 : Int32), σ)) else (if (100 : Int32) ≤ v0 then (some ((0 : Int32), σ)) else (some ((1 : Int32), σ)))
set_option maxRecDepth 100000 in
set_option maxHeartbeats 4000000 in
theorem V_X8_isNumber_0 {g : GG} (v0 : Int32) (σ : Mm) (r : Int32) (σ' : Mm) (hf : f_X8_isNumber v0 σ = some (r, σ')) : VJ g RX8 cX8_isNumber 1 (some .boolean) false rm_X8_isNumber (some (.int r)) σ' (0) (0) 0 [(0, .int v0)] [] σ := by
  intro p e s m args below meth c H locs cells slots ls E hR hS hl hc hs
  obtain ⟨hx, hb, hml, hr, hlocks, hown, hts, hin, hT⟩ := id E
  unfold f_X8_isNumber at hf
  refine lv_iload_n hx hb dX8_isNumber_0 rfl (lv_at hl 0 rfl) ?_
  refine lv_if_lt (tgt := 14) hx hb dX8_isNumber_1 (by decide) (fun hq1 => ?_) (fun hq1 => ?_)
  · have hf := ite_p hq1 hf
    refine lv_iconst (v := (0 : Int32)) hx hb dX8_isNumber_14 rfl ?_
    obtain ⟨hr1, hs1⟩ := Prod.mk.inj (Option.some.inj hf)
    exact xr_z E hR hS rfl rfl (by rw [hr1]) hs1.symm hc hs dX8_isNumber_15
  · have hf := ite_n hq1 hf
    refine lv_iload_n hx hb dX8_isNumber_4 rfl (lv_at hl 0 rfl) ?_
    refine lv_bipush (v := (100 : Int32)) hx hb dX8_isNumber_5 rfl ?_
    refine lv_icmp_ge (tgt := 14) hx hb dX8_isNumber_7 (by decide) (fun hq2 => ?_) (fun hq2 => ?_)
    · have hf := ite_p hq2 hf
      refine lv_iconst (v := (0 : Int32)) hx hb dX8_isNumber_14 rfl ?_
      obtain ⟨hr1, hs1⟩ := Prod.mk.inj (Option.some.inj hf)
      exact xr_z E hR hS rfl rfl (by rw [hr1]) hs1.symm hc hs dX8_isNumber_15
    · have hf := ite_n hq2 hf
      refine lv_iconst (v := (1 : Int32)) hx hb dX8_isNumber_10 rfl ?_
      refine lv_goto (tgt := 15) hx hb dX8_isNumber_11 (by decide) ?_
      obtain ⟨hr1, hs1⟩ := Prod.mk.inj (Option.some.inj hf)
      exact xr_z E hR hS rfl rfl (by rw [hr1]) hs1.symm hc hs dX8_isNumber_15
theorem C_X8_isNumber {g : GG} {v0 : Int32} {σ : Mm} {r : Int32} {σ' : Mm} (hf : f_X8_isNumber v0 σ = some (r, σ')) : Ct g yX8_isNumber cX8_isNumber 1 (some .boolean) rm_X8_isNumber [.int v0] σ (some (.int r)) σ' :=
  Ct.of false (by decide +kernel) (fun h => by cases h) (Nat.le_of_ble_eq_true rfl) (V_X8_isNumber_0 _ _ _ _ hf)
abbrev rm_X2_valueOf : Room := { frames := 1, cells := 0, slots := 0, locals := 20 }
set_option maxRecDepth 100000 in
def f_X2_valueOf (v0 : Nat) (v1 : Int32) (σ : Mm) : Option (Int32 × Mm) :=
  zcb (f_X8_isNumber v1 σ) (fun r1 σ2 => if r1 = 0 then (some ((-9 : Int32), σ2)) else (zck (kO σ2 v0 2) (zrb (mR σ2 v0 0) (fun b5 => zck (kA σ2 1 b5 v1) (some ((mD σ2 b5 (ix v1)), σ2))))))
set_option maxRecDepth 100000 in
set_option maxHeartbeats 4000000 in
theorem V_X2_valueOf_0 {g : GG} (v0 : Nat) (v1 : Int32) (σ : Mm) (r : Int32) (σ' : Mm) (hf : f_X2_valueOf v0 v1 σ = some (r, σ')) : VJ g RX2 cX2_valueOf 2 (some .int) false rm_X2_valueOf (some (.int r)) σ' (0) (0) 0 [(0, .ref (gB g + v0)), (1, .int v1)] [] σ := by
  intro p e s m args below meth c H locs cells slots ls E hR hS hl hc hs
  obtain ⟨hx, hb, hml, hr, hlocks, hown, hts, hin, hT⟩ := id E
  unfold f_X2_valueOf at hf
  refine lv_iload_n hx hb dX2_valueOf_0 rfl (lv_at hl 1 rfl) ?_
  obtain ⟨r1, σ2, hcr1, hf⟩ := zq_s hf
  refine xSN (As := [.int v1]) (rest := []) (st1 := [.int r1]) E hR hS hl (C_X8_isNumber hcr1) lb_X8_isNumber ls_X8_isNumber nl_X2_25 ⟨Nat.le_of_ble_eq_true rfl, Nat.le_of_ble_eq_true rfl⟩ rfl rfl rfl (Nat.le_of_ble_eq_true rfl) dX2_valueOf_1 ⟨hc, hs⟩ (fun H locs hR hS => ?_)
  refine lv_if_eq (tgt := 16) hx hb dX2_valueOf_4 (by decide) (fun hq3 => ?_) (fun hq3 => ?_)
  · have hf := ite_p hq3 hf
    refine lv_bipush (v := (-9 : Int32)) hx hb dX2_valueOf_16 rfl ?_
    obtain ⟨hr1, hs1⟩ := Prod.mk.inj (Option.some.inj hf)
    exact xr_i E hR hS rfl (by rw [hr1]) hs1.symm hc hs dX2_valueOf_18
  · have hf := ite_n hq3 hf
    refine lv_aload_n hx hb dX2_valueOf_7 rfl (lv_at hl 0 rfl) ?_
    obtain ⟨hk4, hf⟩ := zc_s hf
    obtain ⟨b5, hb5, hf⟩ := zr_s hf
    refine x_getR E hR hk4 hb5 ok2 (Nat.le_of_ble_eq_true rfl) rfl fl_X2_9 dX2_valueOf_8 ?_
    refine lv_iload_n hx hb dX2_valueOf_11 rfl (lv_at hl 1 rfl) ?_
    obtain ⟨hk6, hf⟩ := zc_s hf
    refine x_ild E hR hk6 dX2_valueOf_12 ?_
    refine lv_goto (tgt := 18) hx hb dX2_valueOf_13 (by decide) ?_
    obtain ⟨hr1, hs1⟩ := Prod.mk.inj (Option.some.inj hf)
    exact xr_i E hR hS rfl (by rw [hr1]) hs1.symm hc hs dX2_valueOf_18
theorem C_X2_valueOf {g : GG} {v0 : Nat} {v1 : Int32} {σ : Mm} {r : Int32} {σ' : Mm} (hf : f_X2_valueOf v0 v1 σ = some (r, σ')) : Ct g yX2_valueOf cX2_valueOf 2 (some .int) rm_X2_valueOf [.ref (gB g + v0), .int v1] σ (some (.int r)) σ' :=
  Ct.of false (by decide +kernel) (fun h => by cases h) (Nat.le_of_ble_eq_true rfl) (V_X2_valueOf_0 _ _ _ _ _ hf)
abbrev rm_X2_has : Room := { frames := 2, cells := 0, slots := 0, locals := 41 }
set_option maxRecDepth 100000 in
def f_X2_has (v0 : Nat) (v1 : Int32) (σ : Mm) : Option (Int32 × Mm) :=
  zck (kO σ v0 2) (zcb (f_X2_valueOf v0 v1 σ) (fun r2 σ3 => if r2 = (-9 : Int32) then (some ((0 : Int32), σ3)) else (some ((1 : Int32), σ3))))
set_option maxRecDepth 100000 in
set_option maxHeartbeats 4000000 in
theorem V_X2_has_0 {g : GG} (v0 : Nat) (v1 : Int32) (σ : Mm) (r : Int32) (σ' : Mm) (hf : f_X2_has v0 v1 σ = some (r, σ')) : VJ g RX2 cX2_has 2 (some .boolean) false rm_X2_has (some (.int r)) σ' (0) (0) 0 [(0, .ref (gB g + v0)), (1, .int v1)] [] σ := by
  intro p e s m args below meth c H locs cells slots ls E hR hS hl hc hs
  obtain ⟨hx, hb, hml, hr, hlocks, hown, hts, hin, hT⟩ := id E
  unfold f_X2_has at hf
  refine lv_aload_n hx hb dX2_has_0 rfl (lv_at hl 0 rfl) ?_
  refine lv_iload_n hx hb dX2_has_1 rfl (lv_at hl 1 rfl) ?_
  obtain ⟨hk1, hf⟩ := zc_s hf
  obtain ⟨r2, σ3, hcr2, hf⟩ := zq_s hf
  refine xV (As := [.int v1]) (rest := []) (st1 := [.int r2]) E hR hS hl (C_X2_valueOf hcr2) hk1 ok2 lb_X2_valueOf lv_X2_valueOf ml_X2_29 ⟨Nat.le_of_ble_eq_true rfl, Nat.le_of_ble_eq_true rfl⟩ rfl rfl rfl (Nat.le_of_ble_eq_true rfl) dX2_has_2 ⟨hc, hs⟩ (fun H locs hR hS => ?_)
  refine lv_bipush (v := (-9 : Int32)) hx hb dX2_has_5 rfl ?_
  refine lv_icmp_eq (tgt := 14) hx hb dX2_has_7 (by decide) (fun hq4 => ?_) (fun hq4 => ?_)
  · have hf := ite_p hq4 hf
    refine lv_iconst (v := (0 : Int32)) hx hb dX2_has_14 rfl ?_
    obtain ⟨hr1, hs1⟩ := Prod.mk.inj (Option.some.inj hf)
    exact xr_z E hR hS rfl rfl (by rw [hr1]) hs1.symm hc hs dX2_has_15
  · have hf := ite_n hq4 hf
    refine lv_iconst (v := (1 : Int32)) hx hb dX2_has_10 rfl ?_
    refine lv_goto (tgt := 15) hx hb dX2_has_11 (by decide) ?_
    obtain ⟨hr1, hs1⟩ := Prod.mk.inj (Option.some.inj hf)
    exact xr_z E hR hS rfl rfl (by rw [hr1]) hs1.symm hc hs dX2_has_15
theorem C_X2_has {g : GG} {v0 : Nat} {v1 : Int32} {σ : Mm} {r : Int32} {σ' : Mm} (hf : f_X2_has v0 v1 σ = some (r, σ')) : Ct g yX2_has cX2_has 2 (some .boolean) rm_X2_has [.ref (gB g + v0), .int v1] σ (some (.int r)) σ' :=
  Ct.of false (by decide +kernel) (fun h => by cases h) (Nat.le_of_ble_eq_true rfl) (V_X2_has_0 _ _ _ _ _ hf)
abbrev rm_X2_hasRoomFor : Room := { frames := 3, cells := 0, slots := 0, locals := 62 }
set_option maxRecDepth 100000 in
def f_X2_hasRoomFor (v0 : Nat) (v1 : Int32) (σ : Mm) : Option (Int32 × Mm) :=
  zck (kO σ v0 2) (zcb (f_X2_has v0 v1 σ) (fun r2 σ3 => if r2 = 0 then (zck (kO σ3 v0 2) (if (40 : Int32) ≤ (mD σ3 v0 1) then (some ((0 : Int32), σ3)) else (some ((1 : Int32), σ3)))) else (some ((1 : Int32), σ3))))
set_option maxRecDepth 100000 in
set_option maxHeartbeats 4000000 in
theorem V_X2_hasRoomFor_0 {g : GG} (v0 : Nat) (v1 : Int32) (σ : Mm) (r : Int32) (σ' : Mm) (hf : f_X2_hasRoomFor v0 v1 σ = some (r, σ')) : VJ g RX2 cX2_hasRoomFor 2 (some .boolean) false rm_X2_hasRoomFor (some (.int r)) σ' (0) (0) 0 [(0, .ref (gB g + v0)), (1, .int v1)] [] σ := by
  intro p e s m args below meth c H locs cells slots ls E hR hS hl hc hs
  obtain ⟨hx, hb, hml, hr, hlocks, hown, hts, hin, hT⟩ := id E
  unfold f_X2_hasRoomFor at hf
  refine lv_aload_n hx hb dX2_hasRoomFor_0 rfl (lv_at hl 0 rfl) ?_
  refine lv_iload_n hx hb dX2_hasRoomFor_1 rfl (lv_at hl 1 rfl) ?_
  obtain ⟨hk1, hf⟩ := zc_s hf
  obtain ⟨r2, σ3, hcr2, hf⟩ := zq_s hf
  refine xV (As := [.int v1]) (rest := []) (st1 := [.int r2]) E hR hS hl (C_X2_has hcr2) hk1 ok2 lb_X2_has lv_X2_has ml_X2_33 ⟨Nat.le_of_ble_eq_true rfl, Nat.le_of_ble_eq_true rfl⟩ rfl rfl rfl (Nat.le_of_ble_eq_true rfl) dX2_hasRoomFor_2 ⟨hc, hs⟩ (fun H locs hR hS => ?_)
  refine lv_if_ne (tgt := 17) hx hb dX2_hasRoomFor_5 (by decide) (fun hq4 => ?_) (fun hq4 => ?_)
  · have hf := ite_n hq4 hf
    refine lv_iconst (v := (1 : Int32)) hx hb dX2_hasRoomFor_17 rfl ?_
    refine lv_goto (tgt := 22) hx hb dX2_hasRoomFor_18 (by decide) ?_
    obtain ⟨hr1, hs1⟩ := Prod.mk.inj (Option.some.inj hf)
    exact xr_z E hR hS rfl rfl (by rw [hr1]) hs1.symm hc hs dX2_hasRoomFor_22
  · have hf := ite_p hq4 hf
    refine lv_aload_n hx hb dX2_hasRoomFor_8 rfl (lv_at hl 0 rfl) ?_
    obtain ⟨hk5, hf⟩ := zc_s hf
    refine x_getI E hR hk5 ok2 1 (Nat.le_of_ble_eq_true rfl) rfl fl_X2_21 dX2_hasRoomFor_9 ?_
    refine lv_bipush (v := (40 : Int32)) hx hb dX2_hasRoomFor_12 rfl ?_
    refine lv_icmp_ge (tgt := 21) hx hb dX2_hasRoomFor_14 (by decide) (fun hq6 => ?_) (fun hq6 => ?_)
    · have hf := ite_p hq6 hf
      refine lv_iconst (v := (0 : Int32)) hx hb dX2_hasRoomFor_21 rfl ?_
      obtain ⟨hr1, hs1⟩ := Prod.mk.inj (Option.some.inj hf)
      exact xr_z E hR hS rfl rfl (by rw [hr1]) hs1.symm hc hs dX2_hasRoomFor_22
    · have hf := ite_n hq6 hf
      refine lv_iconst (v := (1 : Int32)) hx hb dX2_hasRoomFor_17 rfl ?_
      refine lv_goto (tgt := 22) hx hb dX2_hasRoomFor_18 (by decide) ?_
      obtain ⟨hr1, hs1⟩ := Prod.mk.inj (Option.some.inj hf)
      exact xr_z E hR hS rfl rfl (by rw [hr1]) hs1.symm hc hs dX2_hasRoomFor_22
theorem C_X2_hasRoomFor {g : GG} {v0 : Nat} {v1 : Int32} {σ : Mm} {r : Int32} {σ' : Mm} (hf : f_X2_hasRoomFor v0 v1 σ = some (r, σ')) : Ct g yX2_hasRoomFor cX2_hasRoomFor 2 (some .boolean) rm_X2_hasRoomFor [.ref (gB g + v0), .int v1] σ (some (.int r)) σ' :=
  Ct.of false (by decide +kernel) (fun h => by cases h) (Nat.le_of_ble_eq_true rfl) (V_X2_hasRoomFor_0 _ _ _ _ _ hf)
abbrev rm_X2_give : Room := { frames := 1, cells := 0, slots := 0, locals := 20 }
set_option maxRecDepth 100000 in
def f_X2_give_28 (v0 : Nat) (v1 : Int32) (v2 : Int32) (σ : Mm) : Option (Unit × Mm) :=
  zck (kO σ v0 2) (zrb (mR σ v0 0) (fun b2 => zck (kA σ 1 b2 v1) (zlt (sD σ b2 (ix v1) v2) (fun σ4 => some ((), σ4)))))
set_option maxRecDepth 100000 in
set_option maxHeartbeats 4000000 in
theorem V_X2_give_28 {g : GG} (v0 : Nat) (v1 : Int32) (v2 : Int32) (σ : Mm) (r : Unit) (σ' : Mm) (hf : f_X2_give_28 v0 v1 v2 σ = some (r, σ')) : VJ g RX2 cX2_give 3 none false rm_X2_give none σ' (0) (0) 28 [(0, .ref (gB g + v0)), (1, .int v1), (2, .int v2)] [] σ := by
  intro p e s m args below meth c H locs cells slots ls E hR hS hl hc hs
  obtain ⟨hx, hb, hml, hr, hlocks, hown, hts, hin, hT⟩ := id E
  unfold f_X2_give_28 at hf
  refine lv_aload_n hx hb dX2_give_28 rfl (lv_at hl 0 rfl) ?_
  obtain ⟨hk1, hf⟩ := zc_s hf
  obtain ⟨b2, hb2, hf⟩ := zr_s hf
  refine x_getR E hR hk1 hb2 ok2 (Nat.le_of_ble_eq_true rfl) rfl fl_X2_9 dX2_give_29 ?_
  refine lv_iload_n hx hb dX2_give_32 rfl (lv_at hl 1 rfl) ?_
  refine lv_iload_n hx hb dX2_give_33 rfl (lv_at hl 2 rfl) ?_
  obtain ⟨hk3, hf⟩ := zc_s hf
  obtain ⟨σ4, eσ4, hf⟩ := zl_s hf
  refine x_ist E hR hS hk3 dX2_give_34 (fun H locs hR hS => ?_)
  rw [← eσ4] at hR
  obtain ⟨hr1, hs1⟩ := Prod.mk.inj (Option.some.inj hf)
  exact xr_v E hR hS rfl rfl hs1.symm hc hs dX2_give_35
set_option maxRecDepth 100000 in
def f_X2_give (v0 : Nat) (v1 : Int32) (v2 : Int32) (σ : Mm) : Option (Unit × Mm) :=
  zcb (f_X8_isNumber v1 σ) (fun r5 σ6 => if r5 = 0 then (some ((), σ6)) else (zck (kO σ6 v0 2) (zrb (mR σ6 v0 0) (fun b9 => zck (kA σ6 1 b9 v1) (if (mD σ6 b9 (ix v1)) = (-9 : Int32) then (zlt (sD σ6 v0 1 ((mD σ6 v0 1) + (1 : Int32))) (fun σ12 => f_X2_give_28 v0 v1 v2 σ12)) else (f_X2_give_28 v0 v1 v2 σ6))))))
set_option maxRecDepth 100000 in
set_option maxHeartbeats 4000000 in
theorem V_X2_give_0 {g : GG} (v0 : Nat) (v1 : Int32) (v2 : Int32) (σ : Mm) (r : Unit) (σ' : Mm) (hf : f_X2_give v0 v1 v2 σ = some (r, σ')) : VJ g RX2 cX2_give 3 none false rm_X2_give none σ' (0) (0) 0 [(0, .ref (gB g + v0)), (1, .int v1), (2, .int v2)] [] σ := by
  intro p e s m args below meth c H locs cells slots ls E hR hS hl hc hs
  obtain ⟨hx, hb, hml, hr, hlocks, hown, hts, hin, hT⟩ := id E
  unfold f_X2_give at hf
  refine lv_iload_n hx hb dX2_give_0 rfl (lv_at hl 1 rfl) ?_
  obtain ⟨r5, σ6, hcr5, hf⟩ := zq_s hf
  refine xSN (As := [.int v1]) (rest := []) (st1 := [.int r5]) E hR hS hl (C_X8_isNumber hcr5) lb_X8_isNumber ls_X8_isNumber nl_X2_25 ⟨Nat.le_of_ble_eq_true rfl, Nat.le_of_ble_eq_true rfl⟩ rfl rfl rfl (Nat.le_of_ble_eq_true rfl) dX2_give_1 ⟨hc, hs⟩ (fun H locs hR hS => ?_)
  refine lv_if_eq (tgt := 35) hx hb dX2_give_4 (by decide) (fun hq7 => ?_) (fun hq7 => ?_)
  · have hf := ite_p hq7 hf
    obtain ⟨hr1, hs1⟩ := Prod.mk.inj (Option.some.inj hf)
    exact xr_v E hR hS rfl rfl hs1.symm hc hs dX2_give_35
  · have hf := ite_n hq7 hf
    refine lv_aload_n hx hb dX2_give_7 rfl (lv_at hl 0 rfl) ?_
    obtain ⟨hk8, hf⟩ := zc_s hf
    obtain ⟨b9, hb9, hf⟩ := zr_s hf
    refine x_getR E hR hk8 hb9 ok2 (Nat.le_of_ble_eq_true rfl) rfl fl_X2_9 dX2_give_8 ?_
    refine lv_iload_n hx hb dX2_give_11 rfl (lv_at hl 1 rfl) ?_
    obtain ⟨hk10, hf⟩ := zc_s hf
    refine x_ild E hR hk10 dX2_give_12 ?_
    refine lv_bipush (v := (-9 : Int32)) hx hb dX2_give_13 rfl ?_
    refine lv_icmp_ne (tgt := 28) hx hb dX2_give_15 (by decide) (fun hq11 => ?_) (fun hq11 => ?_)
    · have hf := ite_n hq11 hf
      exact V_X2_give_28  _ _ _ _ _ _ hf p e s m args below meth c _ _ _ _ _ E hR hS (lv_sub hl [0, 1, 2] rfl) hc hs
    · have hf := ite_p hq11 hf
      refine lv_aload_n hx hb dX2_give_18 rfl (lv_at hl 0 rfl) ?_
      refine lv_dup hx hb dX2_give_19 rfl ?_
      refine x_getI E hR hk8 ok2 1 (Nat.le_of_ble_eq_true rfl) rfl fl_X2_21 dX2_give_20 ?_
      refine lv_iconst (v := (1 : Int32)) hx hb dX2_give_23 rfl ?_
      refine lv_iadd hx hb dX2_give_24 ?_
      obtain ⟨σ12, eσ12, hf⟩ := zl_s hf
      refine x_putI E hR hS hk8 ok2 1 (Nat.le_of_ble_eq_true rfl) rfl fl_X2_21 (Or.inl rfl) rfl rfl dX2_give_25 (fun H locs hR hS => ?_)
      rw [← eσ12] at hR
      exact V_X2_give_28  _ _ _ _ _ _ hf p e s m args below meth c _ _ _ _ _ E hR hS (lv_sub hl [0, 1, 2] rfl) hc hs
theorem C_X2_give {g : GG} {v0 : Nat} {v1 : Int32} {v2 : Int32} {σ : Mm} {r : Unit} {σ' : Mm} (hf : f_X2_give v0 v1 v2 σ = some (r, σ')) : Ct g yX2_give cX2_give 3 none rm_X2_give [.ref (gB g + v0), .int v1, .int v2] σ none σ' :=
  Ct.of false (by decide +kernel) (fun h => by cases h) (Nat.le_of_ble_eq_true rfl) (V_X2_give_0 _ _ _ _ _ _ hf)
abbrev rm_X2_drop : Room := { frames := 3, cells := 0, slots := 0, locals := 62 }
set_option maxRecDepth 100000 in
def f_X2_drop (v0 : Nat) (v1 : Int32) (σ : Mm) : Option (Unit × Mm) :=
  zck (kO σ v0 2) (zcb (f_X2_has v0 v1 σ) (fun r2 σ3 => if r2 = 0 then (some ((), σ3)) else (zck (kO σ3 v0 2) (zlt (sD σ3 v0 1 ((mD σ3 v0 1) - (1 : Int32))) (fun σ6 => zrb (mR σ6 v0 0) (fun b7 => zck (kA σ6 1 b7 v1) (zlt (sD σ6 b7 (ix v1) (-9 : Int32)) (fun σ9 => some ((), σ9)))))))))
set_option maxRecDepth 100000 in
set_option maxHeartbeats 4000000 in
theorem V_X2_drop_0 {g : GG} (v0 : Nat) (v1 : Int32) (σ : Mm) (r : Unit) (σ' : Mm) (hf : f_X2_drop v0 v1 σ = some (r, σ')) : VJ g RX2 cX2_drop 2 none false rm_X2_drop none σ' (0) (0) 0 [(0, .ref (gB g + v0)), (1, .int v1)] [] σ := by
  intro p e s m args below meth c H locs cells slots ls E hR hS hl hc hs
  obtain ⟨hx, hb, hml, hr, hlocks, hown, hts, hin, hT⟩ := id E
  unfold f_X2_drop at hf
  refine lv_aload_n hx hb dX2_drop_0 rfl (lv_at hl 0 rfl) ?_
  refine lv_iload_n hx hb dX2_drop_1 rfl (lv_at hl 1 rfl) ?_
  obtain ⟨hk1, hf⟩ := zc_s hf
  obtain ⟨r2, σ3, hcr2, hf⟩ := zq_s hf
  refine xV (As := [.int v1]) (rest := []) (st1 := [.int r2]) E hR hS hl (C_X2_has hcr2) hk1 ok2 lb_X2_has lv_X2_has ml_X2_33 ⟨Nat.le_of_ble_eq_true rfl, Nat.le_of_ble_eq_true rfl⟩ rfl rfl rfl (Nat.le_of_ble_eq_true rfl) dX2_drop_2 ⟨hc, hs⟩ (fun H locs hR hS => ?_)
  refine lv_if_eq (tgt := 26) hx hb dX2_drop_5 (by decide) (fun hq4 => ?_) (fun hq4 => ?_)
  · have hf := ite_p hq4 hf
    obtain ⟨hr1, hs1⟩ := Prod.mk.inj (Option.some.inj hf)
    exact xr_v E hR hS rfl rfl hs1.symm hc hs dX2_drop_26
  · have hf := ite_n hq4 hf
    refine lv_aload_n hx hb dX2_drop_8 rfl (lv_at hl 0 rfl) ?_
    refine lv_dup hx hb dX2_drop_9 rfl ?_
    obtain ⟨hk5, hf⟩ := zc_s hf
    refine x_getI E hR hk5 ok2 1 (Nat.le_of_ble_eq_true rfl) rfl fl_X2_21 dX2_drop_10 ?_
    refine lv_iconst (v := (1 : Int32)) hx hb dX2_drop_13 rfl ?_
    refine lv_isub hx hb dX2_drop_14 ?_
    obtain ⟨σ6, eσ6, hf⟩ := zl_s hf
    refine x_putI E hR hS hk5 ok2 1 (Nat.le_of_ble_eq_true rfl) rfl fl_X2_21 (Or.inl rfl) rfl rfl dX2_drop_15 (fun H locs hR hS => ?_)
    rw [← eσ6] at hR
    refine lv_aload_n hx hb dX2_drop_18 rfl (lv_at hl 0 rfl) ?_
    obtain ⟨b7, hb7, hf⟩ := zr_s hf
    refine x_getR E hR (by rw [eσ6]; exact hk5) hb7 ok2 (Nat.le_of_ble_eq_true rfl) rfl fl_X2_9 dX2_drop_19 ?_
    refine lv_iload_n hx hb dX2_drop_22 rfl (lv_at hl 1 rfl) ?_
    refine lv_bipush (v := (-9 : Int32)) hx hb dX2_drop_23 rfl ?_
    obtain ⟨hk8, hf⟩ := zc_s hf
    obtain ⟨σ9, eσ9, hf⟩ := zl_s hf
    refine x_ist E hR hS hk8 dX2_drop_25 (fun H locs hR hS => ?_)
    rw [← eσ9] at hR
    obtain ⟨hr1, hs1⟩ := Prod.mk.inj (Option.some.inj hf)
    exact xr_v E hR hS rfl rfl hs1.symm hc hs dX2_drop_26
theorem C_X2_drop {g : GG} {v0 : Nat} {v1 : Int32} {σ : Mm} {r : Unit} {σ' : Mm} (hf : f_X2_drop v0 v1 σ = some (r, σ')) : Ct g yX2_drop cX2_drop 2 none rm_X2_drop [.ref (gB g + v0), .int v1] σ none σ' :=
  Ct.of false (by decide +kernel) (fun h => by cases h) (Nat.le_of_ble_eq_true rfl) (V_X2_drop_0 _ _ _ _ _ hf)
abbrev rm_X2_clear : Room := { frames := 1, cells := 0, slots := 0, locals := 23 }
set_option maxRecDepth 100000 in
def f_X2_clear (v0 : Nat) (σ : Mm) : Option (Unit × Mm) :=
  zck (kO σ v0 2) (zrb (mR σ v0 0) (fun b2 => zcb (f_J7_fill_53178 b2 (-9 : Int32) σ) (fun r3 σ4 => zck (kO σ4 v0 2) (zlt (sD σ4 v0 1 (0 : Int32)) (fun σ6 => some ((), σ6))))))
set_option maxRecDepth 100000 in
set_option maxHeartbeats 4000000 in
theorem V_X2_clear_0 {g : GG} (v0 : Nat) (σ : Mm) (r : Unit) (σ' : Mm) (hf : f_X2_clear v0 σ = some (r, σ')) : VJ g RX2 cX2_clear 1 none false rm_X2_clear none σ' (0) (0) 0 [(0, .ref (gB g + v0))] [] σ := by
  intro p e s m args below meth c H locs cells slots ls E hR hS hl hc hs
  obtain ⟨hx, hb, hml, hr, hlocks, hown, hts, hin, hT⟩ := id E
  unfold f_X2_clear at hf
  refine lv_aload_n hx hb dX2_clear_0 rfl (lv_at hl 0 rfl) ?_
  obtain ⟨hk1, hf⟩ := zc_s hf
  obtain ⟨b2, hb2, hf⟩ := zr_s hf
  refine x_getR E hR hk1 hb2 ok2 (Nat.le_of_ble_eq_true rfl) rfl fl_X2_9 dX2_clear_1 ?_
  refine lv_bipush (v := (-9 : Int32)) hx hb dX2_clear_4 rfl ?_
  obtain ⟨r3, σ4, hcr3, hf⟩ := zq_s hf
  refine xS (As := [.ref (gB g + b2), .int (-9 : Int32)]) (rest := []) (st1 := []) E hR hS hl (C_J7_fill_53178 hcr3) lb_J7_fill_53178 ls_J7_fill_53178 ml_X2_15 ⟨Nat.le_of_ble_eq_true rfl, Nat.le_of_ble_eq_true rfl⟩ rfl rfl rfl (Nat.le_of_ble_eq_true rfl) dX2_clear_6 ⟨hc, hs⟩ (fun H locs hR hS => ?_)
  refine lv_aload_n hx hb dX2_clear_9 rfl (lv_at hl 0 rfl) ?_
  refine lv_iconst (v := (0 : Int32)) hx hb dX2_clear_10 rfl ?_
  obtain ⟨hk5, hf⟩ := zc_s hf
  obtain ⟨σ6, eσ6, hf⟩ := zl_s hf
  refine x_putI E hR hS hk5 ok2 1 (Nat.le_of_ble_eq_true rfl) rfl fl_X2_21 (Or.inl rfl) rfl rfl dX2_clear_11 (fun H locs hR hS => ?_)
  rw [← eσ6] at hR
  obtain ⟨hr1, hs1⟩ := Prod.mk.inj (Option.some.inj hf)
  exact xr_v E hR hS rfl rfl hs1.symm hc hs dX2_clear_14
theorem C_X2_clear {g : GG} {v0 : Nat} {σ : Mm} {r : Unit} {σ' : Mm} (hf : f_X2_clear v0 σ = some (r, σ')) : Ct g yX2_clear cX2_clear 1 none rm_X2_clear [.ref (gB g + v0)] σ none σ' :=
  Ct.of false (by decide +kernel) (fun h => by cases h) (Nat.le_of_ble_eq_true rfl) (V_X2_clear_0 _ _ _ _ hf)
abbrev rm_X2_countWithin : Room := { frames := 3, cells := 0, slots := 0, locals := 62 }
set_option maxRecDepth 100000 in
def f_X2_countWithin_36 (k_5 : Nat → Int32 → Int32 → Int32 → Int32 → Mm → Option (Int32 × Mm)) (v0 : Nat) (v1 : Int32) (v2 : Int32) (v3 : Int32) (v4 : Int32) (σ : Mm) : Option (Int32 × Mm) :=
  k_5 v0 v1 v2 v3 (v4 + (1 : Int32)) σ
set_option maxRecDepth 100000 in
set_option maxHeartbeats 4000000 in
theorem V_X2_countWithin_36 {g : GG} (k_5 : Nat → Int32 → Int32 → Int32 → Int32 → Mm → Option (Int32 × Mm)) (hk_5 : ∀ (v0 : Nat) (v1 : Int32) (v2 : Int32) (v3 : Int32) (v4 : Int32) (σ : Mm) (r : Int32) (σ' : Mm), k_5 v0 v1 v2 v3 v4 σ = some (r, σ') → VJ g RX2 cX2_countWithin 5 (some .int) false rm_X2_countWithin (some (.int r)) σ' (0) (0) 5 [(0, .ref (gB g + v0)), (1, .int v1), (2, .int v2), (3, .int v3), (4, .int v4)] [] σ) (v0 : Nat) (v1 : Int32) (v2 : Int32) (v3 : Int32) (v4 : Int32) (σ : Mm) (r : Int32) (σ' : Mm) (hf : f_X2_countWithin_36 k_5 v0 v1 v2 v3 v4 σ = some (r, σ')) : VJ g RX2 cX2_countWithin 5 (some .int) false rm_X2_countWithin (some (.int r)) σ' (0) (0) 36 [(0, .ref (gB g + v0)), (1, .int v1), (2, .int v2), (3, .int v3), (4, .int v4)] [] σ := by
  intro p e s m args below meth c H locs cells slots ls E hR hS hl hc hs
  obtain ⟨hx, hb, hml, hr, hlocks, hown, hts, hin, hT⟩ := id E
  unfold f_X2_countWithin_36 at hf
  refine lv_iinc (v := (v4 + (1 : Int32))) (lv' := [(4, .int (v4 + (1 : Int32))), (0, .ref (gB g + v0)), (1, .int v1), (2, .int v2), (3, .int v3)]) hx hb dX2_countWithin_36 hl (k := 4) rfl rfl (Nat.le_of_ble_eq_true rfl) rfl (fun ls hl => ?_)
  refine lv_goto (tgt := 5) hx hb dX2_countWithin_39 (by decide) ?_
  exact hk_5 _ _ _ _ _ _ _ _ hf p e s m args below meth c _ _ _ _ _ E hR hS (lv_sub hl [1, 2, 3, 4, 0] rfl) hc hs
set_option maxRecDepth 100000 in
def f_X2_countWithin_5 : Nat → Nat → Int32 → Int32 → Int32 → Int32 → Mm → Option (Int32 × Mm)
  | 0, _, _, _, _, _, _ => none
  | n + 1, v0, v1, v2, v3, v4, σ =>
    if (100 : Int32) ≤ v4 then (some (v3, σ)) else (if v4 < v1 then (f_X2_countWithin_36 (f_X2_countWithin_5 n) v0 v1 v2 v3 v4 σ) else (if v2 < v4 then (f_X2_countWithin_36 (f_X2_countWithin_5 n) v0 v1 v2 v3 v4 σ) else (zck (kO σ v0 2) (zcb (f_X2_has v0 v4 σ) (fun r5 σ6 => if r5 = 0 then (f_X2_countWithin_36 (f_X2_countWithin_5 n) v0 v1 v2 v3 v4 σ6) else (f_X2_countWithin_36 (f_X2_countWithin_5 n) v0 v1 v2 (v3 + (1 : Int32)) v4 σ6))))))
set_option maxRecDepth 100000 in
set_option maxHeartbeats 4000000 in
theorem V_X2_countWithin_5 {g : GG} : ∀ (n : Nat) (v0 : Nat) (v1 : Int32) (v2 : Int32) (v3 : Int32) (v4 : Int32) (σ : Mm) (r : Int32) (σ' : Mm), f_X2_countWithin_5 n v0 v1 v2 v3 v4 σ = some (r, σ') → VJ g RX2 cX2_countWithin 5 (some .int) false rm_X2_countWithin (some (.int r)) σ' (0) (0) 5 [(0, .ref (gB g + v0)), (1, .int v1), (2, .int v2), (3, .int v3), (4, .int v4)] [] σ := by
  intro n
  induction n with
  | zero =>
    intro v0 v1 v2 v3 v4 σ r σ' hf
    unfold f_X2_countWithin_5 at hf
    cases hf
  | succ n ih =>
    intro v0 v1 v2 v3 v4 σ r σ' hf p e s m args below meth c H locs cells slots ls E hR hS hl hc hs
    obtain ⟨hx, hb, hml, hr, hlocks, hown, hts, hin, hT⟩ := id E
    unfold f_X2_countWithin_5 at hf
    refine lv_iload hx hb dX2_countWithin_5 (lv_at hl 4 rfl) ?_
    refine lv_bipush (v := (100 : Int32)) hx hb dX2_countWithin_7 rfl ?_
    refine lv_icmp_ge (tgt := 42) hx hb dX2_countWithin_9 (by decide) (fun hq1 => ?_) (fun hq1 => ?_)
    · have hf := ite_p hq1 hf
      refine lv_iload_n hx hb dX2_countWithin_42 rfl (lv_at hl 3 rfl) ?_
      obtain ⟨hr1, hs1⟩ := Prod.mk.inj (Option.some.inj hf)
      exact xr_i E hR hS rfl (by rw [hr1]) hs1.symm hc hs dX2_countWithin_43
    · have hf := ite_n hq1 hf
      refine lv_iload_n hx hb dX2_countWithin_12 rfl (lv_at hl 1 rfl) ?_
      refine lv_iload hx hb dX2_countWithin_13 (lv_at hl 4 rfl) ?_
      refine lv_icmp_gt (tgt := 36) hx hb dX2_countWithin_15 (by decide) (fun hq2 => ?_) (fun hq2 => ?_)
      · have hf := ite_p hq2 hf
        exact V_X2_countWithin_36 _ ih _ _ _ _ _ _ _ _ hf p e s m args below meth c _ _ _ _ _ E hR hS (lv_sub hl [0, 1, 2, 3, 4] rfl) hc hs
      · have hf := ite_n hq2 hf
        refine lv_iload hx hb dX2_countWithin_18 (lv_at hl 4 rfl) ?_
        refine lv_iload_n hx hb dX2_countWithin_20 rfl (lv_at hl 2 rfl) ?_
        refine lv_icmp_gt (tgt := 36) hx hb dX2_countWithin_21 (by decide) (fun hq3 => ?_) (fun hq3 => ?_)
        · have hf := ite_p hq3 hf
          exact V_X2_countWithin_36 _ ih _ _ _ _ _ _ _ _ hf p e s m args below meth c _ _ _ _ _ E hR hS (lv_sub hl [0, 1, 2, 3, 4] rfl) hc hs
        · have hf := ite_n hq3 hf
          refine lv_aload_n hx hb dX2_countWithin_24 rfl (lv_at hl 0 rfl) ?_
          refine lv_iload hx hb dX2_countWithin_25 (lv_at hl 4 rfl) ?_
          obtain ⟨hk4, hf⟩ := zc_s hf
          obtain ⟨r5, σ6, hcr5, hf⟩ := zq_s hf
          refine xV (As := [.int v4]) (rest := []) (st1 := [.int r5]) E hR hS hl (C_X2_has hcr5) hk4 ok2 lb_X2_has lv_X2_has ml_X2_33 ⟨Nat.le_of_ble_eq_true rfl, Nat.le_of_ble_eq_true rfl⟩ rfl rfl rfl (Nat.le_of_ble_eq_true rfl) dX2_countWithin_27 ⟨hc, hs⟩ (fun H locs hR hS => ?_)
          refine lv_if_eq (tgt := 36) hx hb dX2_countWithin_30 (by decide) (fun hq7 => ?_) (fun hq7 => ?_)
          · have hf := ite_p hq7 hf
            exact V_X2_countWithin_36 _ ih _ _ _ _ _ _ _ _ hf p e s m args below meth c _ _ _ _ _ E hR hS (lv_sub hl [0, 1, 2, 3, 4] rfl) hc hs
          · have hf := ite_n hq7 hf
            refine lv_iinc (v := (v3 + (1 : Int32))) (lv' := [(3, .int (v3 + (1 : Int32))), (0, .ref (gB g + v0)), (1, .int v1), (2, .int v2), (4, .int v4)]) hx hb dX2_countWithin_33 hl (k := 3) rfl rfl (Nat.le_of_ble_eq_true rfl) rfl (fun ls hl => ?_)
            exact V_X2_countWithin_36 _ ih _ _ _ _ _ _ _ _ hf p e s m args below meth c _ _ _ _ _ E hR hS (lv_sub hl [1, 2, 3, 0, 4] rfl) hc hs
set_option maxRecDepth 100000 in
def f_X2_countWithin (v0 : Nat) (v1 : Int32) (v2 : Int32) (σ : Mm) : Option (Int32 × Mm) :=
  f_X2_countWithin_5 1000 v0 v1 v2 (0 : Int32) (0 : Int32) σ
set_option maxRecDepth 100000 in
set_option maxHeartbeats 4000000 in
theorem V_X2_countWithin_0 {g : GG} (v0 : Nat) (v1 : Int32) (v2 : Int32) (σ : Mm) (r : Int32) (σ' : Mm) (hf : f_X2_countWithin v0 v1 v2 σ = some (r, σ')) : VJ g RX2 cX2_countWithin 5 (some .int) false rm_X2_countWithin (some (.int r)) σ' (0) (0) 0 [(0, .ref (gB g + v0)), (1, .int v1), (2, .int v2)] [] σ := by
  intro p e s m args below meth c H locs cells slots ls E hR hS hl hc hs
  obtain ⟨hx, hb, hml, hr, hlocks, hown, hts, hin, hT⟩ := id E
  unfold f_X2_countWithin at hf
  refine lv_iconst (v := (0 : Int32)) hx hb dX2_countWithin_0 rfl ?_
  refine lv_istore_n (lv' := [(3, .int (0 : Int32)), (0, .ref (gB g + v0)), (1, .int v1), (2, .int v2)]) hx hb dX2_countWithin_1 rfl hl (Nat.le_of_ble_eq_true rfl) rfl (fun ls hl => ?_)
  refine lv_iconst (v := (0 : Int32)) hx hb dX2_countWithin_2 rfl ?_
  refine lv_istore (lv' := [(4, .int (0 : Int32)), (3, .int (0 : Int32)), (0, .ref (gB g + v0)), (1, .int v1), (2, .int v2)]) hx hb dX2_countWithin_3 hl (Nat.le_of_ble_eq_true rfl) rfl (fun ls hl => ?_)
  exact V_X2_countWithin_5  1000 _ _ _ _ _ _ _ _ hf p e s m args below meth c _ _ _ _ _ E hR hS (lv_sub hl [2, 3, 4, 1, 0] rfl) hc hs
theorem C_X2_countWithin {g : GG} {v0 : Nat} {v1 : Int32} {v2 : Int32} {σ : Mm} {r : Int32} {σ' : Mm} (hf : f_X2_countWithin v0 v1 v2 σ = some (r, σ')) : Ct g yX2_countWithin cX2_countWithin 5 (some .int) rm_X2_countWithin [.ref (gB g + v0), .int v1, .int v2] σ (some (.int r)) σ' :=
  Ct.of false (by decide +kernel) (fun h => by cases h) (Nat.le_of_ble_eq_true rfl) (V_X2_countWithin_0 _ _ _ _ _ _ hf)
abbrev rm_X2_sumWithin : Room := { frames := 3, cells := 0, slots := 0, locals := 62 }
set_option maxRecDepth 100000 in
def f_X2_sumWithin_43 (k_5 : Nat → Int32 → Int32 → Int32 → Int32 → Mm → Option (Int32 × Mm)) (v0 : Nat) (v1 : Int32) (v2 : Int32) (v3 : Int32) (v4 : Int32) (σ : Mm) : Option (Int32 × Mm) :=
  k_5 v0 v1 v2 v3 (v4 + (1 : Int32)) σ
set_option maxRecDepth 100000 in
set_option maxHeartbeats 4000000 in
theorem V_X2_sumWithin_43 {g : GG} (k_5 : Nat → Int32 → Int32 → Int32 → Int32 → Mm → Option (Int32 × Mm)) (hk_5 : ∀ (v0 : Nat) (v1 : Int32) (v2 : Int32) (v3 : Int32) (v4 : Int32) (σ : Mm) (r : Int32) (σ' : Mm), k_5 v0 v1 v2 v3 v4 σ = some (r, σ') → VJ g RX2 cX2_sumWithin 5 (some .int) false rm_X2_sumWithin (some (.int r)) σ' (0) (0) 5 [(0, .ref (gB g + v0)), (1, .int v1), (2, .int v2), (3, .int v3), (4, .int v4)] [] σ) (v0 : Nat) (v1 : Int32) (v2 : Int32) (v3 : Int32) (v4 : Int32) (σ : Mm) (r : Int32) (σ' : Mm) (hf : f_X2_sumWithin_43 k_5 v0 v1 v2 v3 v4 σ = some (r, σ')) : VJ g RX2 cX2_sumWithin 5 (some .int) false rm_X2_sumWithin (some (.int r)) σ' (0) (0) 43 [(0, .ref (gB g + v0)), (1, .int v1), (2, .int v2), (3, .int v3), (4, .int v4)] [] σ := by
  intro p e s m args below meth c H locs cells slots ls E hR hS hl hc hs
  obtain ⟨hx, hb, hml, hr, hlocks, hown, hts, hin, hT⟩ := id E
  unfold f_X2_sumWithin_43 at hf
  refine lv_iinc (v := (v4 + (1 : Int32))) (lv' := [(4, .int (v4 + (1 : Int32))), (0, .ref (gB g + v0)), (1, .int v1), (2, .int v2), (3, .int v3)]) hx hb dX2_sumWithin_43 hl (k := 4) rfl rfl (Nat.le_of_ble_eq_true rfl) rfl (fun ls hl => ?_)
  refine lv_goto (tgt := 5) hx hb dX2_sumWithin_46 (by decide) ?_
  exact hk_5 _ _ _ _ _ _ _ _ hf p e s m args below meth c _ _ _ _ _ E hR hS (lv_sub hl [1, 2, 3, 4, 0] rfl) hc hs
set_option maxRecDepth 100000 in
def f_X2_sumWithin_5 : Nat → Nat → Int32 → Int32 → Int32 → Int32 → Mm → Option (Int32 × Mm)
  | 0, _, _, _, _, _, _ => none
  | n + 1, v0, v1, v2, v3, v4, σ =>
    if (100 : Int32) ≤ v4 then (some (v3, σ)) else (if v4 < v1 then (f_X2_sumWithin_43 (f_X2_sumWithin_5 n) v0 v1 v2 v3 v4 σ) else (if v2 < v4 then (f_X2_sumWithin_43 (f_X2_sumWithin_5 n) v0 v1 v2 v3 v4 σ) else (zck (kO σ v0 2) (zcb (f_X2_has v0 v4 σ) (fun r5 σ6 => if r5 = 0 then (f_X2_sumWithin_43 (f_X2_sumWithin_5 n) v0 v1 v2 v3 v4 σ6) else (zck (kO σ6 v0 2) (zrb (mR σ6 v0 0) (fun b9 => zck (kA σ6 1 b9 v4) (f_X2_sumWithin_43 (f_X2_sumWithin_5 n) v0 v1 v2 (v3 + (mD σ6 b9 (ix v4))) v4 σ6)))))))))
set_option maxRecDepth 100000 in
set_option maxHeartbeats 4000000 in
theorem V_X2_sumWithin_5 {g : GG} : ∀ (n : Nat) (v0 : Nat) (v1 : Int32) (v2 : Int32) (v3 : Int32) (v4 : Int32) (σ : Mm) (r : Int32) (σ' : Mm), f_X2_sumWithin_5 n v0 v1 v2 v3 v4 σ = some (r, σ') → VJ g RX2 cX2_sumWithin 5 (some .int) false rm_X2_sumWithin (some (.int r)) σ' (0) (0) 5 [(0, .ref (gB g + v0)), (1, .int v1), (2, .int v2), (3, .int v3), (4, .int v4)] [] σ := by
  intro n
  induction n with
  | zero =>
    intro v0 v1 v2 v3 v4 σ r σ' hf
    unfold f_X2_sumWithin_5 at hf
    cases hf
  | succ n ih =>
    intro v0 v1 v2 v3 v4 σ r σ' hf p e s m args below meth c H locs cells slots ls E hR hS hl hc hs
    obtain ⟨hx, hb, hml, hr, hlocks, hown, hts, hin, hT⟩ := id E
    unfold f_X2_sumWithin_5 at hf
    refine lv_iload hx hb dX2_sumWithin_5 (lv_at hl 4 rfl) ?_
    refine lv_bipush (v := (100 : Int32)) hx hb dX2_sumWithin_7 rfl ?_
    refine lv_icmp_ge (tgt := 49) hx hb dX2_sumWithin_9 (by decide) (fun hq1 => ?_) (fun hq1 => ?_)
    · have hf := ite_p hq1 hf
      refine lv_iload_n hx hb dX2_sumWithin_49 rfl (lv_at hl 3 rfl) ?_
      obtain ⟨hr1, hs1⟩ := Prod.mk.inj (Option.some.inj hf)
      exact xr_i E hR hS rfl (by rw [hr1]) hs1.symm hc hs dX2_sumWithin_50
    · have hf := ite_n hq1 hf
      refine lv_iload_n hx hb dX2_sumWithin_12 rfl (lv_at hl 1 rfl) ?_
      refine lv_iload hx hb dX2_sumWithin_13 (lv_at hl 4 rfl) ?_
      refine lv_icmp_gt (tgt := 43) hx hb dX2_sumWithin_15 (by decide) (fun hq2 => ?_) (fun hq2 => ?_)
      · have hf := ite_p hq2 hf
        exact V_X2_sumWithin_43 _ ih _ _ _ _ _ _ _ _ hf p e s m args below meth c _ _ _ _ _ E hR hS (lv_sub hl [0, 1, 2, 3, 4] rfl) hc hs
      · have hf := ite_n hq2 hf
        refine lv_iload hx hb dX2_sumWithin_18 (lv_at hl 4 rfl) ?_
        refine lv_iload_n hx hb dX2_sumWithin_20 rfl (lv_at hl 2 rfl) ?_
        refine lv_icmp_gt (tgt := 43) hx hb dX2_sumWithin_21 (by decide) (fun hq3 => ?_) (fun hq3 => ?_)
        · have hf := ite_p hq3 hf
          exact V_X2_sumWithin_43 _ ih _ _ _ _ _ _ _ _ hf p e s m args below meth c _ _ _ _ _ E hR hS (lv_sub hl [0, 1, 2, 3, 4] rfl) hc hs
        · have hf := ite_n hq3 hf
          refine lv_aload_n hx hb dX2_sumWithin_24 rfl (lv_at hl 0 rfl) ?_
          refine lv_iload hx hb dX2_sumWithin_25 (lv_at hl 4 rfl) ?_
          obtain ⟨hk4, hf⟩ := zc_s hf
          obtain ⟨r5, σ6, hcr5, hf⟩ := zq_s hf
          refine xV (As := [.int v4]) (rest := []) (st1 := [.int r5]) E hR hS hl (C_X2_has hcr5) hk4 ok2 lb_X2_has lv_X2_has ml_X2_33 ⟨Nat.le_of_ble_eq_true rfl, Nat.le_of_ble_eq_true rfl⟩ rfl rfl rfl (Nat.le_of_ble_eq_true rfl) dX2_sumWithin_27 ⟨hc, hs⟩ (fun H locs hR hS => ?_)
          refine lv_if_eq (tgt := 43) hx hb dX2_sumWithin_30 (by decide) (fun hq7 => ?_) (fun hq7 => ?_)
          · have hf := ite_p hq7 hf
            exact V_X2_sumWithin_43 _ ih _ _ _ _ _ _ _ _ hf p e s m args below meth c _ _ _ _ _ E hR hS (lv_sub hl [0, 1, 2, 3, 4] rfl) hc hs
          · have hf := ite_n hq7 hf
            refine lv_iload_n hx hb dX2_sumWithin_33 rfl (lv_at hl 3 rfl) ?_
            refine lv_aload_n hx hb dX2_sumWithin_34 rfl (lv_at hl 0 rfl) ?_
            obtain ⟨hk8, hf⟩ := zc_s hf
            obtain ⟨b9, hb9, hf⟩ := zr_s hf
            refine x_getR E hR hk8 hb9 ok2 (Nat.le_of_ble_eq_true rfl) rfl fl_X2_9 dX2_sumWithin_35 ?_
            refine lv_iload hx hb dX2_sumWithin_38 (lv_at hl 4 rfl) ?_
            obtain ⟨hk10, hf⟩ := zc_s hf
            refine x_ild E hR hk10 dX2_sumWithin_40 ?_
            refine lv_iadd hx hb dX2_sumWithin_41 ?_
            refine lv_istore_n (lv' := [(3, .int (v3 + (mD σ6 b9 (ix v4)))), (0, .ref (gB g + v0)), (1, .int v1), (2, .int v2), (4, .int v4)]) hx hb dX2_sumWithin_42 rfl hl (Nat.le_of_ble_eq_true rfl) rfl (fun ls hl => ?_)
            exact V_X2_sumWithin_43 _ ih _ _ _ _ _ _ _ _ hf p e s m args below meth c _ _ _ _ _ E hR hS (lv_sub hl [1, 2, 3, 0, 4] rfl) hc hs
set_option maxRecDepth 100000 in
def f_X2_sumWithin (v0 : Nat) (v1 : Int32) (v2 : Int32) (σ : Mm) : Option (Int32 × Mm) :=
  f_X2_sumWithin_5 1000 v0 v1 v2 (0 : Int32) (0 : Int32) σ
set_option maxRecDepth 100000 in
set_option maxHeartbeats 4000000 in
theorem V_X2_sumWithin_0 {g : GG} (v0 : Nat) (v1 : Int32) (v2 : Int32) (σ : Mm) (r : Int32) (σ' : Mm) (hf : f_X2_sumWithin v0 v1 v2 σ = some (r, σ')) : VJ g RX2 cX2_sumWithin 5 (some .int) false rm_X2_sumWithin (some (.int r)) σ' (0) (0) 0 [(0, .ref (gB g + v0)), (1, .int v1), (2, .int v2)] [] σ := by
  intro p e s m args below meth c H locs cells slots ls E hR hS hl hc hs
  obtain ⟨hx, hb, hml, hr, hlocks, hown, hts, hin, hT⟩ := id E
  unfold f_X2_sumWithin at hf
  refine lv_iconst (v := (0 : Int32)) hx hb dX2_sumWithin_0 rfl ?_
  refine lv_istore_n (lv' := [(3, .int (0 : Int32)), (0, .ref (gB g + v0)), (1, .int v1), (2, .int v2)]) hx hb dX2_sumWithin_1 rfl hl (Nat.le_of_ble_eq_true rfl) rfl (fun ls hl => ?_)
  refine lv_iconst (v := (0 : Int32)) hx hb dX2_sumWithin_2 rfl ?_
  refine lv_istore (lv' := [(4, .int (0 : Int32)), (3, .int (0 : Int32)), (0, .ref (gB g + v0)), (1, .int v1), (2, .int v2)]) hx hb dX2_sumWithin_3 hl (Nat.le_of_ble_eq_true rfl) rfl (fun ls hl => ?_)
  exact V_X2_sumWithin_5  1000 _ _ _ _ _ _ _ _ hf p e s m args below meth c _ _ _ _ _ E hR hS (lv_sub hl [2, 3, 4, 1, 0] rfl) hc hs
theorem C_X2_sumWithin {g : GG} {v0 : Nat} {v1 : Int32} {v2 : Int32} {σ : Mm} {r : Int32} {σ' : Mm} (hf : f_X2_sumWithin v0 v1 v2 σ = some (r, σ')) : Ct g yX2_sumWithin cX2_sumWithin 5 (some .int) rm_X2_sumWithin [.ref (gB g + v0), .int v1, .int v2] σ (some (.int r)) σ' :=
  Ct.of false (by decide +kernel) (fun h => by cases h) (Nat.le_of_ble_eq_true rfl) (V_X2_sumWithin_0 _ _ _ _ _ _ hf)
abbrev rm_X2_greatestBelow : Room := { frames := 3, cells := 0, slots := 0, locals := 62 }
set_option maxRecDepth 100000 in
def f_X2_greatestBelow_26 (k_5 : Nat → Int32 → Int32 → Int32 → Mm → Option (Int32 × Mm)) (v0 : Nat) (v1 : Int32) (v2 : Int32) (v3 : Int32) (σ : Mm) : Option (Int32 × Mm) :=
  k_5 v0 v1 v2 (v3 + (1 : Int32)) σ
set_option maxRecDepth 100000 in
set_option maxHeartbeats 4000000 in
theorem V_X2_greatestBelow_26 {g : GG} (k_5 : Nat → Int32 → Int32 → Int32 → Mm → Option (Int32 × Mm)) (hk_5 : ∀ (v0 : Nat) (v1 : Int32) (v2 : Int32) (v3 : Int32) (σ : Mm) (r : Int32) (σ' : Mm), k_5 v0 v1 v2 v3 σ = some (r, σ') → VJ g RX2 cX2_greatestBelow 4 (some .int) false rm_X2_greatestBelow (some (.int r)) σ' (0) (0) 5 [(0, .ref (gB g + v0)), (1, .int v1), (2, .int v2), (3, .int v3)] [] σ) (v0 : Nat) (v1 : Int32) (v2 : Int32) (v3 : Int32) (σ : Mm) (r : Int32) (σ' : Mm) (hf : f_X2_greatestBelow_26 k_5 v0 v1 v2 v3 σ = some (r, σ')) : VJ g RX2 cX2_greatestBelow 4 (some .int) false rm_X2_greatestBelow (some (.int r)) σ' (0) (0) 26 [(0, .ref (gB g + v0)), (1, .int v1), (2, .int v2), (3, .int v3)] [] σ := by
  intro p e s m args below meth c H locs cells slots ls E hR hS hl hc hs
  obtain ⟨hx, hb, hml, hr, hlocks, hown, hts, hin, hT⟩ := id E
  unfold f_X2_greatestBelow_26 at hf
  refine lv_iinc (v := (v3 + (1 : Int32))) (lv' := [(3, .int (v3 + (1 : Int32))), (0, .ref (gB g + v0)), (1, .int v1), (2, .int v2)]) hx hb dX2_greatestBelow_26 hl (k := 3) rfl rfl (Nat.le_of_ble_eq_true rfl) rfl (fun ls hl => ?_)
  refine lv_goto (tgt := 5) hx hb dX2_greatestBelow_29 (by decide) ?_
  exact hk_5 _ _ _ _ _ _ _ hf p e s m args below meth c _ _ _ _ _ E hR hS (lv_sub hl [1, 2, 3, 0] rfl) hc hs
set_option maxRecDepth 100000 in
def f_X2_greatestBelow_5 : Nat → Nat → Int32 → Int32 → Int32 → Mm → Option (Int32 × Mm)
  | 0, _, _, _, _, _ => none
  | n + 1, v0, v1, v2, v3, σ =>
    if (100 : Int32) ≤ v3 then (some (v2, σ)) else (if v1 ≤ v3 then (f_X2_greatestBelow_26 (f_X2_greatestBelow_5 n) v0 v1 v2 v3 σ) else (zck (kO σ v0 2) (zcb (f_X2_has v0 v3 σ) (fun r4 σ5 => if r4 = 0 then (f_X2_greatestBelow_26 (f_X2_greatestBelow_5 n) v0 v1 v2 v3 σ5) else (f_X2_greatestBelow_26 (f_X2_greatestBelow_5 n) v0 v1 v3 v3 σ5)))))
set_option maxRecDepth 100000 in
set_option maxHeartbeats 4000000 in
theorem V_X2_greatestBelow_5 {g : GG} : ∀ (n : Nat) (v0 : Nat) (v1 : Int32) (v2 : Int32) (v3 : Int32) (σ : Mm) (r : Int32) (σ' : Mm), f_X2_greatestBelow_5 n v0 v1 v2 v3 σ = some (r, σ') → VJ g RX2 cX2_greatestBelow 4 (some .int) false rm_X2_greatestBelow (some (.int r)) σ' (0) (0) 5 [(0, .ref (gB g + v0)), (1, .int v1), (2, .int v2), (3, .int v3)] [] σ := by
  intro n
  induction n with
  | zero =>
    intro v0 v1 v2 v3 σ r σ' hf
    unfold f_X2_greatestBelow_5 at hf
    cases hf
  | succ n ih =>
    intro v0 v1 v2 v3 σ r σ' hf p e s m args below meth c H locs cells slots ls E hR hS hl hc hs
    obtain ⟨hx, hb, hml, hr, hlocks, hown, hts, hin, hT⟩ := id E
    unfold f_X2_greatestBelow_5 at hf
    refine lv_iload_n hx hb dX2_greatestBelow_5 rfl (lv_at hl 3 rfl) ?_
    refine lv_bipush (v := (100 : Int32)) hx hb dX2_greatestBelow_6 rfl ?_
    refine lv_icmp_ge (tgt := 32) hx hb dX2_greatestBelow_8 (by decide) (fun hq1 => ?_) (fun hq1 => ?_)
    · have hf := ite_p hq1 hf
      refine lv_iload_n hx hb dX2_greatestBelow_32 rfl (lv_at hl 2 rfl) ?_
      obtain ⟨hr1, hs1⟩ := Prod.mk.inj (Option.some.inj hf)
      exact xr_i E hR hS rfl (by rw [hr1]) hs1.symm hc hs dX2_greatestBelow_33
    · have hf := ite_n hq1 hf
      refine lv_iload_n hx hb dX2_greatestBelow_11 rfl (lv_at hl 3 rfl) ?_
      refine lv_iload_n hx hb dX2_greatestBelow_12 rfl (lv_at hl 1 rfl) ?_
      refine lv_icmp_ge (tgt := 26) hx hb dX2_greatestBelow_13 (by decide) (fun hq2 => ?_) (fun hq2 => ?_)
      · have hf := ite_p hq2 hf
        exact V_X2_greatestBelow_26 _ ih _ _ _ _ _ _ _ hf p e s m args below meth c _ _ _ _ _ E hR hS (lv_sub hl [0, 1, 2, 3] rfl) hc hs
      · have hf := ite_n hq2 hf
        refine lv_aload_n hx hb dX2_greatestBelow_16 rfl (lv_at hl 0 rfl) ?_
        refine lv_iload_n hx hb dX2_greatestBelow_17 rfl (lv_at hl 3 rfl) ?_
        obtain ⟨hk3, hf⟩ := zc_s hf
        obtain ⟨r4, σ5, hcr4, hf⟩ := zq_s hf
        refine xV (As := [.int v3]) (rest := []) (st1 := [.int r4]) E hR hS hl (C_X2_has hcr4) hk3 ok2 lb_X2_has lv_X2_has ml_X2_33 ⟨Nat.le_of_ble_eq_true rfl, Nat.le_of_ble_eq_true rfl⟩ rfl rfl rfl (Nat.le_of_ble_eq_true rfl) dX2_greatestBelow_18 ⟨hc, hs⟩ (fun H locs hR hS => ?_)
        refine lv_if_eq (tgt := 26) hx hb dX2_greatestBelow_21 (by decide) (fun hq6 => ?_) (fun hq6 => ?_)
        · have hf := ite_p hq6 hf
          exact V_X2_greatestBelow_26 _ ih _ _ _ _ _ _ _ hf p e s m args below meth c _ _ _ _ _ E hR hS (lv_sub hl [0, 1, 2, 3] rfl) hc hs
        · have hf := ite_n hq6 hf
          refine lv_iload_n hx hb dX2_greatestBelow_24 rfl (lv_at hl 3 rfl) ?_
          refine lv_istore_n (lv' := [(2, .int v3), (0, .ref (gB g + v0)), (1, .int v1), (3, .int v3)]) hx hb dX2_greatestBelow_25 rfl hl (Nat.le_of_ble_eq_true rfl) rfl (fun ls hl => ?_)
          exact V_X2_greatestBelow_26 _ ih _ _ _ _ _ _ _ hf p e s m args below meth c _ _ _ _ _ E hR hS (lv_sub hl [1, 2, 0, 3] rfl) hc hs
set_option maxRecDepth 100000 in
def f_X2_greatestBelow (v0 : Nat) (v1 : Int32) (σ : Mm) : Option (Int32 × Mm) :=
  f_X2_greatestBelow_5 1000 v0 v1 (-9 : Int32) (0 : Int32) σ
set_option maxRecDepth 100000 in
set_option maxHeartbeats 4000000 in
theorem V_X2_greatestBelow_0 {g : GG} (v0 : Nat) (v1 : Int32) (σ : Mm) (r : Int32) (σ' : Mm) (hf : f_X2_greatestBelow v0 v1 σ = some (r, σ')) : VJ g RX2 cX2_greatestBelow 4 (some .int) false rm_X2_greatestBelow (some (.int r)) σ' (0) (0) 0 [(0, .ref (gB g + v0)), (1, .int v1)] [] σ := by
  intro p e s m args below meth c H locs cells slots ls E hR hS hl hc hs
  obtain ⟨hx, hb, hml, hr, hlocks, hown, hts, hin, hT⟩ := id E
  unfold f_X2_greatestBelow at hf
  refine lv_bipush (v := (-9 : Int32)) hx hb dX2_greatestBelow_0 rfl ?_
  refine lv_istore_n (lv' := [(2, .int (-9 : Int32)), (0, .ref (gB g + v0)), (1, .int v1)]) hx hb dX2_greatestBelow_2 rfl hl (Nat.le_of_ble_eq_true rfl) rfl (fun ls hl => ?_)
  refine lv_iconst (v := (0 : Int32)) hx hb dX2_greatestBelow_3 rfl ?_
  refine lv_istore_n (lv' := [(3, .int (0 : Int32)), (2, .int (-9 : Int32)), (0, .ref (gB g + v0)), (1, .int v1)]) hx hb dX2_greatestBelow_4 rfl hl (Nat.le_of_ble_eq_true rfl) rfl (fun ls hl => ?_)
  exact V_X2_greatestBelow_5  1000 _ _ _ _ _ _ _ hf p e s m args below meth c _ _ _ _ _ E hR hS (lv_sub hl [2, 3, 1, 0] rfl) hc hs
theorem C_X2_greatestBelow {g : GG} {v0 : Nat} {v1 : Int32} {σ : Mm} {r : Int32} {σ' : Mm} (hf : f_X2_greatestBelow v0 v1 σ = some (r, σ')) : Ct g yX2_greatestBelow cX2_greatestBelow 4 (some .int) rm_X2_greatestBelow [.ref (gB g + v0), .int v1] σ (some (.int r)) σ' :=
  Ct.of false (by decide +kernel) (fun h => by cases h) (Nat.le_of_ble_eq_true rfl) (V_X2_greatestBelow_0 _ _ _ _ _ hf)
abbrev rm_X2_leastAbove : Room := { frames := 3, cells := 0, slots := 0, locals := 62 }
set_option maxRecDepth 100000 in
def f_X2_leastAbove_23 (k_2 : Nat → Int32 → Int32 → Mm → Option (Int32 × Mm)) (v0 : Nat) (v1 : Int32) (v2 : Int32) (σ : Mm) : Option (Int32 × Mm) :=
  k_2 v0 v1 (v2 + (1 : Int32)) σ
set_option maxRecDepth 100000 in
set_option maxHeartbeats 4000000 in
theorem V_X2_leastAbove_23 {g : GG} (k_2 : Nat → Int32 → Int32 → Mm → Option (Int32 × Mm)) (hk_2 : ∀ (v0 : Nat) (v1 : Int32) (v2 : Int32) (σ : Mm) (r : Int32) (σ' : Mm), k_2 v0 v1 v2 σ = some (r, σ') → VJ g RX2 cX2_leastAbove 3 (some .int) false rm_X2_leastAbove (some (.int r)) σ' (0) (0) 2 [(0, .ref (gB g + v0)), (1, .int v1), (2, .int v2)] [] σ) (v0 : Nat) (v1 : Int32) (v2 : Int32) (σ : Mm) (r : Int32) (σ' : Mm) (hf : f_X2_leastAbove_23 k_2 v0 v1 v2 σ = some (r, σ')) : VJ g RX2 cX2_leastAbove 3 (some .int) false rm_X2_leastAbove (some (.int r)) σ' (0) (0) 23 [(0, .ref (gB g + v0)), (1, .int v1), (2, .int v2)] [] σ := by
  intro p e s m args below meth c H locs cells slots ls E hR hS hl hc hs
  obtain ⟨hx, hb, hml, hr, hlocks, hown, hts, hin, hT⟩ := id E
  unfold f_X2_leastAbove_23 at hf
  refine lv_iinc (v := (v2 + (1 : Int32))) (lv' := [(2, .int (v2 + (1 : Int32))), (0, .ref (gB g + v0)), (1, .int v1)]) hx hb dX2_leastAbove_23 hl (k := 2) rfl rfl (Nat.le_of_ble_eq_true rfl) rfl (fun ls hl => ?_)
  refine lv_goto (tgt := 2) hx hb dX2_leastAbove_26 (by decide) ?_
  exact hk_2 _ _ _ _ _ _ hf p e s m args below meth c _ _ _ _ _ E hR hS (lv_sub hl [1, 2, 0] rfl) hc hs
set_option maxRecDepth 100000 in
def f_X2_leastAbove_2 : Nat → Nat → Int32 → Int32 → Mm → Option (Int32 × Mm)
  | 0, _, _, _, _ => none
  | n + 1, v0, v1, v2, σ =>
    if (100 : Int32) ≤ v2 then (some ((-9 : Int32), σ)) else (if v2 ≤ v1 then (f_X2_leastAbove_23 (f_X2_leastAbove_2 n) v0 v1 v2 σ) else (zck (kO σ v0 2) (zcb (f_X2_has v0 v2 σ) (fun r4 σ5 => if r4 = 0 then (f_X2_leastAbove_23 (f_X2_leastAbove_2 n) v0 v1 v2 σ5) else (some (v2, σ5))))))
set_option maxRecDepth 100000 in
set_option maxHeartbeats 4000000 in
theorem V_X2_leastAbove_2 {g : GG} : ∀ (n : Nat) (v0 : Nat) (v1 : Int32) (v2 : Int32) (σ : Mm) (r : Int32) (σ' : Mm), f_X2_leastAbove_2 n v0 v1 v2 σ = some (r, σ') → VJ g RX2 cX2_leastAbove 3 (some .int) false rm_X2_leastAbove (some (.int r)) σ' (0) (0) 2 [(0, .ref (gB g + v0)), (1, .int v1), (2, .int v2)] [] σ := by
  intro n
  induction n with
  | zero =>
    intro v0 v1 v2 σ r σ' hf
    unfold f_X2_leastAbove_2 at hf
    cases hf
  | succ n ih =>
    intro v0 v1 v2 σ r σ' hf p e s m args below meth c H locs cells slots ls E hR hS hl hc hs
    obtain ⟨hx, hb, hml, hr, hlocks, hown, hts, hin, hT⟩ := id E
    unfold f_X2_leastAbove_2 at hf
    refine lv_iload_n hx hb dX2_leastAbove_2 rfl (lv_at hl 2 rfl) ?_
    refine lv_bipush (v := (100 : Int32)) hx hb dX2_leastAbove_3 rfl ?_
    refine lv_icmp_ge (tgt := 29) hx hb dX2_leastAbove_5 (by decide) (fun hq1 => ?_) (fun hq1 => ?_)
    · have hf := ite_p hq1 hf
      refine lv_bipush (v := (-9 : Int32)) hx hb dX2_leastAbove_29 rfl ?_
      obtain ⟨hr1, hs1⟩ := Prod.mk.inj (Option.some.inj hf)
      exact xr_i E hR hS rfl (by rw [hr1]) hs1.symm hc hs dX2_leastAbove_31
    · have hf := ite_n hq1 hf
      refine lv_iload_n hx hb dX2_leastAbove_8 rfl (lv_at hl 2 rfl) ?_
      refine lv_iload_n hx hb dX2_leastAbove_9 rfl (lv_at hl 1 rfl) ?_
      refine lv_icmp_le (tgt := 23) hx hb dX2_leastAbove_10 (by decide) (fun hq2 => ?_) (fun hq2 => ?_)
      · have hf := ite_p hq2 hf
        exact V_X2_leastAbove_23 _ ih _ _ _ _ _ _ hf p e s m args below meth c _ _ _ _ _ E hR hS (lv_sub hl [0, 1, 2] rfl) hc hs
      · have hf := ite_n hq2 hf
        refine lv_aload_n hx hb dX2_leastAbove_13 rfl (lv_at hl 0 rfl) ?_
        refine lv_iload_n hx hb dX2_leastAbove_14 rfl (lv_at hl 2 rfl) ?_
        obtain ⟨hk3, hf⟩ := zc_s hf
        obtain ⟨r4, σ5, hcr4, hf⟩ := zq_s hf
        refine xV (As := [.int v2]) (rest := []) (st1 := [.int r4]) E hR hS hl (C_X2_has hcr4) hk3 ok2 lb_X2_has lv_X2_has ml_X2_33 ⟨Nat.le_of_ble_eq_true rfl, Nat.le_of_ble_eq_true rfl⟩ rfl rfl rfl (Nat.le_of_ble_eq_true rfl) dX2_leastAbove_15 ⟨hc, hs⟩ (fun H locs hR hS => ?_)
        refine lv_if_eq (tgt := 23) hx hb dX2_leastAbove_18 (by decide) (fun hq6 => ?_) (fun hq6 => ?_)
        · have hf := ite_p hq6 hf
          exact V_X2_leastAbove_23 _ ih _ _ _ _ _ _ hf p e s m args below meth c _ _ _ _ _ E hR hS (lv_sub hl [0, 1, 2] rfl) hc hs
        · have hf := ite_n hq6 hf
          refine lv_iload_n hx hb dX2_leastAbove_21 rfl (lv_at hl 2 rfl) ?_
          obtain ⟨hr1, hs1⟩ := Prod.mk.inj (Option.some.inj hf)
          exact xr_i E hR hS rfl (by rw [hr1]) hs1.symm hc hs dX2_leastAbove_22
set_option maxRecDepth 100000 in
def f_X2_leastAbove (v0 : Nat) (v1 : Int32) (σ : Mm) : Option (Int32 × Mm) :=
  f_X2_leastAbove_2 1000 v0 v1 (0 : Int32) σ
set_option maxRecDepth 100000 in
set_option maxHeartbeats 4000000 in
theorem V_X2_leastAbove_0 {g : GG} (v0 : Nat) (v1 : Int32) (σ : Mm) (r : Int32) (σ' : Mm) (hf : f_X2_leastAbove v0 v1 σ = some (r, σ')) : VJ g RX2 cX2_leastAbove 3 (some .int) false rm_X2_leastAbove (some (.int r)) σ' (0) (0) 0 [(0, .ref (gB g + v0)), (1, .int v1)] [] σ := by
  intro p e s m args below meth c H locs cells slots ls E hR hS hl hc hs
  obtain ⟨hx, hb, hml, hr, hlocks, hown, hts, hin, hT⟩ := id E
  unfold f_X2_leastAbove at hf
  refine lv_iconst (v := (0 : Int32)) hx hb dX2_leastAbove_0 rfl ?_
  refine lv_istore_n (lv' := [(2, .int (0 : Int32)), (0, .ref (gB g + v0)), (1, .int v1)]) hx hb dX2_leastAbove_1 rfl hl (Nat.le_of_ble_eq_true rfl) rfl (fun ls hl => ?_)
  exact V_X2_leastAbove_2  1000 _ _ _ _ _ _ hf p e s m args below meth c _ _ _ _ _ E hR hS (lv_sub hl [1, 2, 0] rfl) hc hs
theorem C_X2_leastAbove {g : GG} {v0 : Nat} {v1 : Int32} {σ : Mm} {r : Int32} {σ' : Mm} (hf : f_X2_leastAbove v0 v1 σ = some (r, σ')) : Ct g yX2_leastAbove cX2_leastAbove 3 (some .int) rm_X2_leastAbove [.ref (gB g + v0), .int v1] σ (some (.int r)) σ' :=
  Ct.of false (by decide +kernel) (fun h => by cases h) (Nat.le_of_ble_eq_true rfl) (V_X2_leastAbove_0 _ _ _ _ _ hf)
abbrev rm_X2_keyOfPlace : Room := { frames := 3, cells := 0, slots := 0, locals := 62 }
set_option maxRecDepth 100000 in
def f_X2_keyOfPlace_46 (k_6 : Nat → Int32 → Int32 → Int32 → Int32 → Int32 → Mm → Option (Int32 × Mm)) (v0 : Nat) (v1 : Int32) (v2 : Int32) (v3 : Int32) (v4 : Int32) (v5 : Int32) (σ : Mm) : Option (Int32 × Mm) :=
  k_6 v0 v1 v2 v3 v4 (v5 + (1 : Int32)) σ
set_option maxRecDepth 100000 in
set_option maxHeartbeats 4000000 in
theorem V_X2_keyOfPlace_46 {g : GG} (k_6 : Nat → Int32 → Int32 → Int32 → Int32 → Int32 → Mm → Option (Int32 × Mm)) (hk_6 : ∀ (v0 : Nat) (v1 : Int32) (v2 : Int32) (v3 : Int32) (v4 : Int32) (v5 : Int32) (σ : Mm) (r : Int32) (σ' : Mm), k_6 v0 v1 v2 v3 v4 v5 σ = some (r, σ') → VJ g RX2 cX2_keyOfPlace 6 (some .int) false rm_X2_keyOfPlace (some (.int r)) σ' (0) (0) 6 [(0, .ref (gB g + v0)), (1, .int v1), (2, .int v2), (3, .int v3), (4, .int v4), (5, .int v5)] [] σ) (v0 : Nat) (v1 : Int32) (v2 : Int32) (v3 : Int32) (v4 : Int32) (v5 : Int32) (σ : Mm) (r : Int32) (σ' : Mm) (hf : f_X2_keyOfPlace_46 k_6 v0 v1 v2 v3 v4 v5 σ = some (r, σ')) : VJ g RX2 cX2_keyOfPlace 6 (some .int) false rm_X2_keyOfPlace (some (.int r)) σ' (0) (0) 46 [(0, .ref (gB g + v0)), (1, .int v1), (2, .int v2), (3, .int v3), (4, .int v4), (5, .int v5)] [] σ := by
  intro p e s m args below meth c H locs cells slots ls E hR hS hl hc hs
  obtain ⟨hx, hb, hml, hr, hlocks, hown, hts, hin, hT⟩ := id E
  unfold f_X2_keyOfPlace_46 at hf
  refine lv_iinc (v := (v5 + (1 : Int32))) (lv' := [(5, .int (v5 + (1 : Int32))), (0, .ref (gB g + v0)), (1, .int v1), (2, .int v2), (3, .int v3), (4, .int v4)]) hx hb dX2_keyOfPlace_46 hl (k := 5) rfl rfl (Nat.le_of_ble_eq_true rfl) rfl (fun ls hl => ?_)
  refine lv_goto (tgt := 6) hx hb dX2_keyOfPlace_49 (by decide) ?_
  exact hk_6 _ _ _ _ _ _ _ _ _ hf p e s m args below meth c _ _ _ _ _ E hR hS (lv_sub hl [1, 2, 3, 4, 5, 0] rfl) hc hs
set_option maxRecDepth 100000 in
def f_X2_keyOfPlace_6 : Nat → Nat → Int32 → Int32 → Int32 → Int32 → Int32 → Mm → Option (Int32 × Mm)
  | 0, _, _, _, _, _, _, _ => none
  | n + 1, v0, v1, v2, v3, v4, v5, σ =>
    if (100 : Int32) ≤ v5 then (some ((-9 : Int32), σ)) else (if v5 < v1 then (f_X2_keyOfPlace_46 (f_X2_keyOfPlace_6 n) v0 v1 v2 v3 v4 v5 σ) else (if v2 < v5 then (f_X2_keyOfPlace_46 (f_X2_keyOfPlace_6 n) v0 v1 v2 v3 v4 v5 σ) else (zck (kO σ v0 2) (zcb (f_X2_has v0 v5 σ) (fun r5 σ6 => if r5 = 0 then (f_X2_keyOfPlace_46 (f_X2_keyOfPlace_6 n) v0 v1 v2 v3 v4 v5 σ6) else (if v4 = v3 then (some (v5, σ6)) else (f_X2_keyOfPlace_46 (f_X2_keyOfPlace_6 n) v0 v1 v2 v3 (v4 + (1 : Int32)) v5 σ6)))))))
set_option maxRecDepth 100000 in
set_option maxHeartbeats 4000000 in
theorem V_X2_keyOfPlace_6 {g : GG} : ∀ (n : Nat) (v0 : Nat) (v1 : Int32) (v2 : Int32) (v3 : Int32) (v4 : Int32) (v5 : Int32) (σ : Mm) (r : Int32) (σ' : Mm), f_X2_keyOfPlace_6 n v0 v1 v2 v3 v4 v5 σ = some (r, σ') → VJ g RX2 cX2_keyOfPlace 6 (some .int) false rm_X2_keyOfPlace (some (.int r)) σ' (0) (0) 6 [(0, .ref (gB g + v0)), (1, .int v1), (2, .int v2), (3, .int v3), (4, .int v4), (5, .int v5)] [] σ := by
  intro n
  induction n with
  | zero =>
    intro v0 v1 v2 v3 v4 v5 σ r σ' hf
    unfold f_X2_keyOfPlace_6 at hf
    cases hf
  | succ n ih =>
    intro v0 v1 v2 v3 v4 v5 σ r σ' hf p e s m args below meth c H locs cells slots ls E hR hS hl hc hs
    obtain ⟨hx, hb, hml, hr, hlocks, hown, hts, hin, hT⟩ := id E
    unfold f_X2_keyOfPlace_6 at hf
    refine lv_iload hx hb dX2_keyOfPlace_6 (lv_at hl 5 rfl) ?_
    refine lv_bipush (v := (100 : Int32)) hx hb dX2_keyOfPlace_8 rfl ?_
    refine lv_icmp_ge (tgt := 52) hx hb dX2_keyOfPlace_10 (by decide) (fun hq1 => ?_) (fun hq1 => ?_)
    · have hf := ite_p hq1 hf
      refine lv_bipush (v := (-9 : Int32)) hx hb dX2_keyOfPlace_52 rfl ?_
      obtain ⟨hr1, hs1⟩ := Prod.mk.inj (Option.some.inj hf)
      exact xr_i E hR hS rfl (by rw [hr1]) hs1.symm hc hs dX2_keyOfPlace_54
    · have hf := ite_n hq1 hf
      refine lv_iload_n hx hb dX2_keyOfPlace_13 rfl (lv_at hl 1 rfl) ?_
      refine lv_iload hx hb dX2_keyOfPlace_14 (lv_at hl 5 rfl) ?_
      refine lv_icmp_gt (tgt := 46) hx hb dX2_keyOfPlace_16 (by decide) (fun hq2 => ?_) (fun hq2 => ?_)
      · have hf := ite_p hq2 hf
        exact V_X2_keyOfPlace_46 _ ih _ _ _ _ _ _ _ _ _ hf p e s m args below meth c _ _ _ _ _ E hR hS (lv_sub hl [0, 1, 2, 3, 4, 5] rfl) hc hs
      · have hf := ite_n hq2 hf
        refine lv_iload hx hb dX2_keyOfPlace_19 (lv_at hl 5 rfl) ?_
        refine lv_iload_n hx hb dX2_keyOfPlace_21 rfl (lv_at hl 2 rfl) ?_
        refine lv_icmp_gt (tgt := 46) hx hb dX2_keyOfPlace_22 (by decide) (fun hq3 => ?_) (fun hq3 => ?_)
        · have hf := ite_p hq3 hf
          exact V_X2_keyOfPlace_46 _ ih _ _ _ _ _ _ _ _ _ hf p e s m args below meth c _ _ _ _ _ E hR hS (lv_sub hl [0, 1, 2, 3, 4, 5] rfl) hc hs
        · have hf := ite_n hq3 hf
          refine lv_aload_n hx hb dX2_keyOfPlace_25 rfl (lv_at hl 0 rfl) ?_
          refine lv_iload hx hb dX2_keyOfPlace_26 (lv_at hl 5 rfl) ?_
          obtain ⟨hk4, hf⟩ := zc_s hf
          obtain ⟨r5, σ6, hcr5, hf⟩ := zq_s hf
          refine xV (As := [.int v5]) (rest := []) (st1 := [.int r5]) E hR hS hl (C_X2_has hcr5) hk4 ok2 lb_X2_has lv_X2_has ml_X2_33 ⟨Nat.le_of_ble_eq_true rfl, Nat.le_of_ble_eq_true rfl⟩ rfl rfl rfl (Nat.le_of_ble_eq_true rfl) dX2_keyOfPlace_28 ⟨hc, hs⟩ (fun H locs hR hS => ?_)
          refine lv_if_eq (tgt := 46) hx hb dX2_keyOfPlace_31 (by decide) (fun hq7 => ?_) (fun hq7 => ?_)
          · have hf := ite_p hq7 hf
            exact V_X2_keyOfPlace_46 _ ih _ _ _ _ _ _ _ _ _ hf p e s m args below meth c _ _ _ _ _ E hR hS (lv_sub hl [0, 1, 2, 3, 4, 5] rfl) hc hs
          · have hf := ite_n hq7 hf
            refine lv_iload hx hb dX2_keyOfPlace_34 (lv_at hl 4 rfl) ?_
            refine lv_iload_n hx hb dX2_keyOfPlace_36 rfl (lv_at hl 3 rfl) ?_
            refine lv_icmp_ne (tgt := 43) hx hb dX2_keyOfPlace_37 (by decide) (fun hq8 => ?_) (fun hq8 => ?_)
            · have hf := ite_n hq8 hf
              refine lv_iinc (v := (v4 + (1 : Int32))) (lv' := [(4, .int (v4 + (1 : Int32))), (0, .ref (gB g + v0)), (1, .int v1), (2, .int v2), (3, .int v3), (5, .int v5)]) hx hb dX2_keyOfPlace_43 hl (k := 4) rfl rfl (Nat.le_of_ble_eq_true rfl) rfl (fun ls hl => ?_)
              exact V_X2_keyOfPlace_46 _ ih _ _ _ _ _ _ _ _ _ hf p e s m args below meth c _ _ _ _ _ E hR hS (lv_sub hl [1, 2, 3, 4, 0, 5] rfl) hc hs
            · have hf := ite_p hq8 hf
              refine lv_iload hx hb dX2_keyOfPlace_40 (lv_at hl 5 rfl) ?_
              obtain ⟨hr1, hs1⟩ := Prod.mk.inj (Option.some.inj hf)
              exact xr_i E hR hS rfl (by rw [hr1]) hs1.symm hc hs dX2_keyOfPlace_42
set_option maxRecDepth 100000 in
def f_X2_keyOfPlace (v0 : Nat) (v1 : Int32) (v2 : Int32) (v3 : Int32) (σ : Mm) : Option (Int32 × Mm) :=
  f_X2_keyOfPlace_6 1000 v0 v1 v2 v3 (0 : Int32) (0 : Int32) σ
set_option maxRecDepth 100000 in
set_option maxHeartbeats 4000000 in
theorem V_X2_keyOfPlace_0 {g : GG} (v0 : Nat) (v1 : Int32) (v2 : Int32) (v3 : Int32) (σ : Mm) (r : Int32) (σ' : Mm) (hf : f_X2_keyOfPlace v0 v1 v2 v3 σ = some (r, σ')) : VJ g RX2 cX2_keyOfPlace 6 (some .int) false rm_X2_keyOfPlace (some (.int r)) σ' (0) (0) 0 [(0, .ref (gB g + v0)), (1, .int v1), (2, .int v2), (3, .int v3)] [] σ := by
  intro p e s m args below meth c H locs cells slots ls E hR hS hl hc hs
  obtain ⟨hx, hb, hml, hr, hlocks, hown, hts, hin, hT⟩ := id E
  unfold f_X2_keyOfPlace at hf
  refine lv_iconst (v := (0 : Int32)) hx hb dX2_keyOfPlace_0 rfl ?_
  refine lv_istore (lv' := [(4, .int (0 : Int32)), (0, .ref (gB g + v0)), (1, .int v1), (2, .int v2), (3, .int v3)]) hx hb dX2_keyOfPlace_1 hl (Nat.le_of_ble_eq_true rfl) rfl (fun ls hl => ?_)
  refine lv_iconst (v := (0 : Int32)) hx hb dX2_keyOfPlace_3 rfl ?_
  refine lv_istore (lv' := [(5, .int (0 : Int32)), (4, .int (0 : Int32)), (0, .ref (gB g + v0)), (1, .int v1), (2, .int v2), (3, .int v3)]) hx hb dX2_keyOfPlace_4 hl (Nat.le_of_ble_eq_true rfl) rfl (fun ls hl => ?_)
  exact V_X2_keyOfPlace_6  1000 _ _ _ _ _ _ _ _ _ hf p e s m args below meth c _ _ _ _ _ E hR hS (lv_sub hl [2, 3, 4, 5, 1, 0] rfl) hc hs
theorem C_X2_keyOfPlace {g : GG} {v0 : Nat} {v1 : Int32} {v2 : Int32} {v3 : Int32} {σ : Mm} {r : Int32} {σ' : Mm} (hf : f_X2_keyOfPlace v0 v1 v2 v3 σ = some (r, σ')) : Ct g yX2_keyOfPlace cX2_keyOfPlace 6 (some .int) rm_X2_keyOfPlace [.ref (gB g + v0), .int v1, .int v2, .int v3] σ (some (.int r)) σ' :=
  Ct.of false (by decide +kernel) (fun h => by cases h) (Nat.le_of_ble_eq_true rfl) (V_X2_keyOfPlace_0 _ _ _ _ _ _ _ hf)
