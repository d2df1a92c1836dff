abbrev rm_X8_nodeItem : Room := { frames := 0, cells := 0, slots := 0, locals := 0 }
set_option maxRecDepth 100000 in
def f_X8_nodeItem (v0 : Int32) (v1 : Int32) (σ : Mm) : Option (Int32 × Mm) :=
  some (((-100 : Int32) - (((100 : Int32) * v0) + v1)), σ)
set_option maxRecDepth 100000 in
set_option maxHeartbeats 4000000 in
theorem V_X8_nodeItem_0 {g : GG} (v0 : Int32) (v1 : Int32) (σ : Mm) (r : Int32) (σ' : Mm) (hf : f_X8_nodeItem v0 v1 σ = some (r, σ')) : VJ g RX8 cX8_nodeItem 2 (some .int) false rm_X8_nodeItem (some (.int r)) σ' (0) (0) 0 [(0, .int v0), (1, .int v1)] [] σ := by
  intro p e s m args below meth c H locs cells slots ls E hR hS hl hc hs
  obtain ⟨hx, hb, hml, hr, hlocks, hown, hts, hin, hT⟩ := id E
  unfold f_X8_nodeItem at hf
  refine lv_bipush (v := (-100 : Int32)) hx hb dX8_nodeItem_0 rfl ?_
  refine lv_bipush (v := (100 : Int32)) hx hb dX8_nodeItem_2 rfl ?_
  refine lv_iload_n hx hb dX8_nodeItem_4 rfl (lv_at hl 0 rfl) ?_
  refine lv_imul hx hb dX8_nodeItem_5 ?_
  refine lv_iload_n hx hb dX8_nodeItem_6 rfl (lv_at hl 1 rfl) ?_
  refine lv_iadd hx hb dX8_nodeItem_7 ?_
  refine lv_isub hx hb dX8_nodeItem_8 ?_
  obtain ⟨hr1, hs1⟩ := Prod.mk.inj (Option.some.inj hf)
  exact xr_i E hR hS rfl (by rw [hr1]) hs1.symm hc hs dX8_nodeItem_9
theorem C_X8_nodeItem {g : GG} {v0 : Int32} {v1 : Int32} {σ : Mm} {r : Int32} {σ' : Mm} (hf : f_X8_nodeItem v0 v1 σ = some (r, σ')) : Ct g yX8_nodeItem cX8_nodeItem 2 (some .int) rm_X8_nodeItem [.int v0, .int v1] σ (some (.int r)) σ' :=
  Ct.of false (by decide +kernel) (fun h => by cases h) (Nat.le_of_ble_eq_true rfl) (V_X8_nodeItem_0 _ _ _ _ _ hf)
abbrev rm_X7_writeProof : Room := { frames := 2, cells := 0, slots := 0, locals := 41 }
set_option maxRecDepth 100000 in
def f_X7_writeProof_157 (k_29 : Nat → Nat → Int32 → Int32 → Nat → Int32 → Int32 → Int32 → Int32 → Mm → Option (Unit × Mm)) (v0 : Nat) (v1 : Nat) (v2 : Int32) (v3 : Int32) (v4 : Nat) (v5 : Int32) (v6 : Int32) (v7 : Int32) (v8 : Int32) (σ : Mm) : Option (Unit × Mm) :=
  k_29 v0 v1 v2 v3 v4 v5 v6 v7 (v8 + (1 : Int32)) σ
set_option maxRecDepth 100000 in
set_option maxHeartbeats 4000000 in
theorem V_X7_writeProof_157 {g : GG} (k_29 : Nat → Nat → Int32 → Int32 → Nat → Int32 → Int32 → Int32 → Int32 → Mm → Option (Unit × Mm)) (hk_29 : ∀ (v0 : Nat) (v1 : Nat) (v2 : Int32) (v3 : Int32) (v4 : Nat) (v5 : Int32) (v6 : Int32) (v7 : Int32) (v8 : Int32) (σ : Mm) (r : Unit) (σ' : Mm), k_29 v0 v1 v2 v3 v4 v5 v6 v7 v8 σ = some (r, σ') → VJ g RX7 cX7_writeProof 9 none false rm_X7_writeProof none σ' (0) (0) 29 [(0, .ref (gB g + v0)), (1, .ref (gB g + v1)), (2, .int v2), (3, .int v3), (4, .ref (gB g + v4)), (5, .int v5), (6, .int v6), (7, .int v7), (8, .int v8)] [] σ) (v0 : Nat) (v1 : Nat) (v2 : Int32) (v3 : Int32) (v4 : Nat) (v5 : Int32) (v6 : Int32) (v7 : Int32) (v8 : Int32) (σ : Mm) (r : Unit) (σ' : Mm) (hf : f_X7_writeProof_157 k_29 v0 v1 v2 v3 v4 v5 v6 v7 v8 σ = some (r, σ')) : VJ g RX7 cX7_writeProof 9 none false rm_X7_writeProof none σ' (0) (0) 157 [(0, .ref (gB g + v0)), (1, .ref (gB g + v1)), (2, .int v2), (3, .int v3), (4, .ref (gB g + v4)), (5, .int v5), (6, .int v6), (7, .int v7), (8, .int v8)] [] σ := by
  intro p e s m args below meth c H locs cells slots ls E hR hS hl hc hs
  obtain ⟨hx, hb, hml, hr, hlocks, hown, hts, hin, hT⟩ := id E
  unfold f_X7_writeProof_157 at hf
  refine lv_iinc (v := (v8 + (1 : Int32))) (lv' := [(8, .int (v8 + (1 : Int32))), (0, .ref (gB g + v0)), (1, .ref (gB g + v1)), (2, .int v2), (3, .int v3), (4, .ref (gB g + v4)), (5, .int v5), (6, .int v6), (7, .int v7)]) hx hb dX7_writeProof_157 hl (k := 8) rfl rfl (Nat.le_of_ble_eq_true rfl) rfl (fun ls hl => ?_)
  refine lv_goto (tgt := 29) hx hb dX7_writeProof_160 (by decide) ?_
  exact hk_29 _ _ _ _ _ _ _ _ _ _ _ _ hf p e s m args below meth c _ _ _ _ _ E hR hS (lv_sub hl [1, 2, 3, 4, 5, 6, 7, 8, 0] rfl) hc hs
set_option maxRecDepth 100000 in
def f_X7_writeProof_100 (k_29 : Nat → Nat → Int32 → Int32 → Nat → Int32 → Int32 → Int32 → Int32 → Mm → Option (Unit × Mm)) (v0 : Nat) (v1 : Nat) (v2 : Int32) (v3 : Int32) (v4 : Nat) (v5 : Int32) (v8 : Int32) (σ : Mm) : Option (Unit × Mm) :=
  zck (kO σ v0 7) (zcb (f_X7_digestOf v0 v5 σ) (fun r2 σ3 => zck (kO σ3 v4 1) (zcb (f_X1_add v4 r2 σ3) (fun r5 σ6 => zck (kO σ6 v0 7) (zrb (mR σ6 v0 7) (fun b8 => zck (kO σ6 b8 3) (zcb (f_X3_pop b8 σ6) (fun r10 σ11 => if r10 = 0 then (some ((), σ11)) else (zck (kO σ11 v0 7) (zrb (mR σ11 v0 7) (fun b14 => zck (kO σ11 b14 3) (zcb (f_X3_key b14 σ11) (fun r16 σ17 => zck (kO σ17 v0 7) (zcb (f_X7_rightOf v0 r16 σ17) (fun r19 σ20 => zck (kO σ20 v0 7) (zrb (mR σ20 v0 7) (fun b22 => zck (kO σ20 b22 3) (zcb (f_X3_key b22 σ20) (fun r24 σ25 => zck (kO σ25 v0 7) (zrb (mR σ25 v0 7) (fun b27 => zck (kO σ25 b27 3) (zcb (f_X3_hi b27 σ25) (fun r29 σ30 => f_X7_writeProof_157 k_29 v0 v1 v2 v3 v4 r19 (r24 + (1 : Int32)) r29 v8 σ30)))))))))))))))))))))))
set_option maxRecDepth 100000 in
set_option maxHeartbeats 4000000 in
theorem V_X7_writeProof_100 {g : GG} (k_29 : Nat → Nat → Int32 → Int32 → Nat → Int32 → Int32 → Int32 → Int32 → Mm → Option (Unit × Mm)) (hk_29 : ∀ (v0 : Nat) (v1 : Nat) (v2 : Int32) (v3 : Int32) (v4 : Nat) (v5 : Int32) (v6 : Int32) (v7 : Int32) (v8 : Int32) (σ : Mm) (r : Unit) (σ' : Mm), k_29 v0 v1 v2 v3 v4 v5 v6 v7 v8 σ = some (r, σ') → VJ g RX7 cX7_writeProof 9 none false rm_X7_writeProof none σ' (0) (0) 29 [(0, .ref (gB g + v0)), (1, .ref (gB g + v1)), (2, .int v2), (3, .int v3), (4, .ref (gB g + v4)), (5, .int v5), (6, .int v6), (7, .int v7), (8, .int v8)] [] σ) (v0 : Nat) (v1 : Nat) (v2 : Int32) (v3 : Int32) (v4 : Nat) (v5 : Int32) (v8 : Int32) (σ : Mm) (r : Unit) (σ' : Mm) (hf : f_X7_writeProof_100 k_29 v0 v1 v2 v3 v4 v5 v8 σ = some (r, σ')) : VJ g RX7 cX7_writeProof 9 none false rm_X7_writeProof none σ' (0) (0) 100 [(0, .ref (gB g + v0)), (1, .ref (gB g + v1)), (2, .int v2), (3, .int v3), (4, .ref (gB g + v4)), (5, .int v5), (8, .int v8)] [] σ := by
  intro p e s m args below meth c H locs cells slots ls E hR hS hl hc hs
  obtain ⟨hx, hb, hml, hr, hlocks, hown, hts, hin, hT⟩ := id E
  unfold f_X7_writeProof_100 at hf
  refine lv_aload hx hb dX7_writeProof_100 (lv_at hl 4 rfl) ?_
  refine lv_aload_n hx hb dX7_writeProof_102 rfl (lv_at hl 0 rfl) ?_
  refine lv_iload hx hb dX7_writeProof_103 (lv_at hl 5 rfl) ?_
  obtain ⟨hk1, hf⟩ := zc_s hf
  obtain ⟨r2, σ3, hcr2, hf⟩ := zq_s hf
  refine xV (As := [.int v5]) (rest := [.ref (gB g + v4)]) (st1 := [.int r2, .ref (gB g + v4)]) E hR hS hl (C_X7_digestOf hcr2) hk1 ok7 lb_X7_digestOf lv_X7_digestOf ml_X7_98 ⟨Nat.le_of_ble_eq_true rfl, Nat.le_of_ble_eq_true rfl⟩ rfl rfl rfl (Nat.le_of_ble_eq_true rfl) dX7_writeProof_105 ⟨hc, hs⟩ (fun H locs hR hS => ?_)
  obtain ⟨hk4, hf⟩ := zc_s hf
  obtain ⟨r5, σ6, hcr5, hf⟩ := zq_s hf
  refine xV (As := [.int r2]) (rest := []) (st1 := []) E hR hS hl (C_X1_add hcr5) hk4 ok1 lb_X1_add lv_X1_add ml_X7_117 ⟨Nat.le_of_ble_eq_true rfl, Nat.le_of_ble_eq_true rfl⟩ rfl rfl rfl (Nat.le_of_ble_eq_true rfl) dX7_writeProof_108 ⟨hc, hs⟩ (fun H locs hR hS => ?_)
  refine lv_aload_n hx hb dX7_writeProof_111 rfl (lv_at hl 0 rfl) ?_
  obtain ⟨hk7, hf⟩ := zc_s hf
  obtain ⟨b8, hb8, hf⟩ := zr_s hf
  refine x_getR E hR hk7 hb8 ok7 (Nat.le_of_ble_eq_true rfl) rfl fl_X7_34 dX7_writeProof_112 ?_
  obtain ⟨hk9, hf⟩ := zc_s hf
  obtain ⟨r10, σ11, hcr10, hf⟩ := zq_s hf
  refine xV (As := []) (rest := []) (st1 := [.int r10]) E hR hS hl (C_X3_pop hcr10) hk9 ok3 lb_X3_pop lv_X3_pop ml_X7_124 ⟨Nat.le_of_ble_eq_true rfl, Nat.le_of_ble_eq_true rfl⟩ rfl rfl rfl (Nat.le_of_ble_eq_true rfl) dX7_writeProof_115 ⟨hc, hs⟩ (fun H locs hR hS => ?_)
  refine lv_if_ne (tgt := 124) hx hb dX7_writeProof_118 (by decide) (fun hq12 => ?_) (fun hq12 => ?_)
  · have hf := ite_n hq12 hf
    refine lv_aload_n hx hb dX7_writeProof_124 rfl (lv_at hl 0 rfl) ?_
    refine lv_aload_n hx hb dX7_writeProof_125 rfl (lv_at hl 0 rfl) ?_
    obtain ⟨hk13, hf⟩ := zc_s hf
    obtain ⟨b14, hb14, hf⟩ := zr_s hf
    refine x_getR E hR hk13 hb14 ok7 (Nat.le_of_ble_eq_true rfl) rfl fl_X7_34 dX7_writeProof_126 ?_
    obtain ⟨hk15, hf⟩ := zc_s hf
    obtain ⟨r16, σ17, hcr16, hf⟩ := zq_s hf
    refine xV (As := []) (rest := [.ref (gB g + v0)]) (st1 := [.int r16, .ref (gB g + v0)]) E hR hS hl (C_X3_key hcr16) hk15 ok3 lb_X3_key lv_X3_key ml_X7_128 ⟨Nat.le_of_ble_eq_true rfl, Nat.le_of_ble_eq_true rfl⟩ rfl rfl rfl (Nat.le_of_ble_eq_true rfl) dX7_writeProof_129 ⟨hc, hs⟩ (fun H locs hR hS => ?_)
    obtain ⟨hk18, hf⟩ := zc_s hf
    obtain ⟨r19, σ20, hcr19, hf⟩ := zq_s hf
    refine xV (As := [.int r16]) (rest := []) (st1 := [.int r19]) E hR hS hl (C_X7_rightOf hcr19) hk18 ok7 lb_X7_rightOf lv_X7_rightOf ml_X7_79 ⟨Nat.le_of_ble_eq_true rfl, Nat.le_of_ble_eq_true rfl⟩ rfl rfl rfl (Nat.le_of_ble_eq_true rfl) dX7_writeProof_132 ⟨hc, hs⟩ (fun H locs hR hS => ?_)
    refine lv_istore (lv' := [(5, .int r19), (0, .ref (gB g + v0)), (1, .ref (gB g + v1)), (2, .int v2), (3, .int v3), (4, .ref (gB g + v4)), (8, .int v8)]) hx hb dX7_writeProof_135 hl (Nat.le_of_ble_eq_true rfl) rfl (fun ls hl => ?_)
    refine lv_aload_n hx hb dX7_writeProof_137 rfl (lv_at hl 1 rfl) ?_
    obtain ⟨hk21, hf⟩ := zc_s hf
    obtain ⟨b22, hb22, hf⟩ := zr_s hf
    refine x_getR E hR hk21 hb22 ok7 (Nat.le_of_ble_eq_true rfl) rfl fl_X7_34 dX7_writeProof_138 ?_
    obtain ⟨hk23, hf⟩ := zc_s hf
    obtain ⟨r24, σ25, hcr24, hf⟩ := zq_s hf
    refine xV (As := []) (rest := []) (st1 := [.int r24]) E hR hS hl (C_X3_key hcr24) hk23 ok3 lb_X3_key lv_X3_key ml_X7_128 ⟨Nat.le_of_ble_eq_true rfl, Nat.le_of_ble_eq_true rfl⟩ rfl rfl rfl (Nat.le_of_ble_eq_true rfl) dX7_writeProof_141 ⟨hc, hs⟩ (fun H locs hR hS => ?_)
    refine lv_iconst (v := (1 : Int32)) hx hb dX7_writeProof_144 rfl ?_
    refine lv_iadd hx hb dX7_writeProof_145 ?_
    refine lv_istore (lv' := [(6, .int (r24 + (1 : Int32))), (5, .int r19), (0, .ref (gB g + v0)), (1, .ref (gB g + v1)), (2, .int v2), (3, .int v3), (4, .ref (gB g + v4)), (8, .int v8)]) hx hb dX7_writeProof_146 hl (Nat.le_of_ble_eq_true rfl) rfl (fun ls hl => ?_)
    refine lv_aload_n hx hb dX7_writeProof_148 rfl (lv_at hl 2 rfl) ?_
    obtain ⟨hk26, hf⟩ := zc_s hf
    obtain ⟨b27, hb27, hf⟩ := zr_s hf
    refine x_getR E hR hk26 hb27 ok7 (Nat.le_of_ble_eq_true rfl) rfl fl_X7_34 dX7_writeProof_149 ?_
    obtain ⟨hk28, hf⟩ := zc_s hf
    obtain ⟨r29, σ30, hcr29, hf⟩ := zq_s hf
    refine xV (As := []) (rest := []) (st1 := [.int r29]) E hR hS hl (C_X3_hi hcr29) hk28 ok3 lb_X3_hi lv_X3_hi ml_X7_132 ⟨Nat.le_of_ble_eq_true rfl, Nat.le_of_ble_eq_true rfl⟩ rfl rfl rfl (Nat.le_of_ble_eq_true rfl) dX7_writeProof_152 ⟨hc, hs⟩ (fun H locs hR hS => ?_)
    refine lv_istore (lv' := [(7, .int r29), (6, .int (r24 + (1 : Int32))), (5, .int r19), (0, .ref (gB g + v0)), (1, .ref (gB g + v1)), (2, .int v2), (3, .int v3), (4, .ref (gB g + v4)), (8, .int v8)]) hx hb dX7_writeProof_155 hl (Nat.le_of_ble_eq_true rfl) rfl (fun ls hl => ?_)
    exact V_X7_writeProof_157 _ hk_29 _ _ _ _ _ _ _ _ _ _ _ _ hf p e s m args below meth c _ _ _ _ _ E hR hS (lv_sub hl [3, 4, 5, 6, 7, 2, 1, 0, 8] rfl) hc hs
  · have hf := ite_p hq12 hf
    refine lv_goto (tgt := 163) hx hb dX7_writeProof_121 (by decide) ?_
    obtain ⟨hr1, hs1⟩ := Prod.mk.inj (Option.some.inj hf)
    exact xr_v E hR hS rfl rfl hs1.symm hc hs dX7_writeProof_163
set_option maxRecDepth 100000 in
def f_X7_writeProof_29 : Nat → Nat → Nat → Int32 → Int32 → Nat → Int32 → Int32 → Int32 → Int32 → Mm → Option (Unit × Mm)
  | 0, _, _, _, _, _, _, _, _, _, _ => none
  | n + 1, v0, v1, v2, v3, v4, v5, v6, v7, v8, σ =>
    if (100 : Int32) ≤ v8 then (some ((), σ)) else (zcb (f_X8_isNumber v5 σ) (fun r32 σ33 => if r32 = 0 then (f_X7_writeProof_100 (f_X7_writeProof_29 n) v0 v1 v2 v3 v4 v5 v8 σ33) else (if v3 < v6 then (f_X7_writeProof_100 (f_X7_writeProof_29 n) v0 v1 v2 v3 v4 v5 v8 σ33) else (if v7 < v2 then (f_X7_writeProof_100 (f_X7_writeProof_29 n) v0 v1 v2 v3 v4 v5 v8 σ33) else (zck (kO σ33 v1 2) (zcb (f_X2_valueOf v1 v5 σ33) (fun r38 σ39 => zcb (f_X8_nodeItem v5 r38 σ39) (fun r40 σ41 => zck (kO σ41 v4 1) (zcb (f_X1_add v4 r40 σ41) (fun r43 σ44 => zck (kO σ44 v0 7) (zrb (mR σ44 v0 7) (fun b46 => zck (kO σ44 b46 3) (zcb (f_X3_push b46 v5 v7 σ44) (fun r48 σ49 => zck (kO σ49 v0 7) (zcb (f_X7_leftOf v0 v5 σ49) (fun r51 σ52 => f_X7_writeProof_157 (f_X7_writeProof_29 n) v0 v1 v2 v3 v4 r51 v6 (v5 - (1 : Int32)) v8 σ52))))))))))))))))
set_option maxRecDepth 100000 in
set_option maxHeartbeats 4000000 in
theorem V_X7_writeProof_29 {g : GG} : ∀ (n : Nat) (v0 : Nat) (v1 : Nat) (v2 : Int32) (v3 : Int32) (v4 : Nat) (v5 : Int32) (v6 : Int32) (v7 : Int32) (v8 : Int32) (σ : Mm) (r : Unit) (σ' : Mm), f_X7_writeProof_29 n v0 v1 v2 v3 v4 v5 v6 v7 v8 σ = some (r, σ') → VJ g RX7 cX7_writeProof 9 none false rm_X7_writeProof none σ' (0) (0) 29 [(0, .ref (gB g + v0)), (1, .ref (gB g + v1)), (2, .int v2), (3, .int v3), (4, .ref (gB g + v4)), (5, .int v5), (6, .int v6), (7, .int v7), (8, .int v8)] [] σ := by
  intro n
  induction n with
  | zero =>
    intro v0 v1 v2 v3 v4 v5 v6 v7 v8 σ r σ' hf
    unfold f_X7_writeProof_29 at hf
    cases hf
  | succ n ih =>
    intro v0 v1 v2 v3 v4 v5 v6 v7 v8 σ r σ' hf p e s m args below meth c H locs cells slots ls E hR hS hl hc hs
    obtain ⟨hx, hb, hml, hr, hlocks, hown, hts, hin, hT⟩ := id E
    unfold f_X7_writeProof_29 at hf
    refine lv_iload hx hb dX7_writeProof_29 (lv_at hl 8 rfl) ?_
    refine lv_bipush (v := (100 : Int32)) hx hb dX7_writeProof_31 rfl ?_
    refine lv_icmp_ge (tgt := 163) hx hb dX7_writeProof_33 (by decide) (fun hq31 => ?_) (fun hq31 => ?_)
    · have hf := ite_p hq31 hf
      obtain ⟨hr1, hs1⟩ := Prod.mk.inj (Option.some.inj hf)
      exact xr_v E hR hS rfl rfl hs1.symm hc hs dX7_writeProof_163
    · have hf := ite_n hq31 hf
      refine lv_iload hx hb dX7_writeProof_36 (lv_at hl 5 rfl) ?_
      obtain ⟨r32, σ33, hcr32, hf⟩ := zq_s hf
      refine xSN (As := [.int v5]) (rest := []) (st1 := [.int r32]) E hR hS hl (C_X8_isNumber hcr32) lb_X8_isNumber ls_X8_isNumber nl_X7_42 ⟨Nat.le_of_ble_eq_true rfl, Nat.le_of_ble_eq_true rfl⟩ rfl rfl rfl (Nat.le_of_ble_eq_true rfl) dX7_writeProof_38 ⟨hc, hs⟩ (fun H locs hR hS => ?_)
      refine lv_if_eq (tgt := 100) hx hb dX7_writeProof_41 (by decide) (fun hq34 => ?_) (fun hq34 => ?_)
      · have hf := ite_p hq34 hf
        exact V_X7_writeProof_100 _ ih _ _ _ _ _ _ _ _ _ _ hf p e s m args below meth c _ _ _ _ _ E hR hS (lv_sub hl [0, 1, 2, 3, 4, 5, 8] rfl) hc hs
      · have hf := ite_n hq34 hf
        refine lv_iload hx hb dX7_writeProof_44 (lv_at hl 6 rfl) ?_
        refine lv_iload_n hx hb dX7_writeProof_46 rfl (lv_at hl 3 rfl) ?_
        refine lv_icmp_gt (tgt := 100) hx hb dX7_writeProof_47 (by decide) (fun hq35 => ?_) (fun hq35 => ?_)
        · have hf := ite_p hq35 hf
          exact V_X7_writeProof_100 _ ih _ _ _ _ _ _ _ _ _ _ hf p e s m args below meth c _ _ _ _ _ E hR hS (lv_sub hl [0, 1, 2, 3, 4, 5, 8] rfl) hc hs
        · have hf := ite_n hq35 hf
          refine lv_iload_n hx hb dX7_writeProof_50 rfl (lv_at hl 2 rfl) ?_
          refine lv_iload hx hb dX7_writeProof_51 (lv_at hl 7 rfl) ?_
          refine lv_icmp_gt (tgt := 100) hx hb dX7_writeProof_53 (by decide) (fun hq36 => ?_) (fun hq36 => ?_)
          · have hf := ite_p hq36 hf
            exact V_X7_writeProof_100 _ ih _ _ _ _ _ _ _ _ _ _ hf p e s m args below meth c _ _ _ _ _ E hR hS (lv_sub hl [0, 1, 2, 3, 4, 5, 8] rfl) hc hs
          · have hf := ite_n hq36 hf
            refine lv_aload hx hb dX7_writeProof_56 (lv_at hl 4 rfl) ?_
            refine lv_iload hx hb dX7_writeProof_58 (lv_at hl 5 rfl) ?_
            refine lv_aload_n hx hb dX7_writeProof_60 rfl (lv_at hl 1 rfl) ?_
            refine lv_iload hx hb dX7_writeProof_61 (lv_at hl 5 rfl) ?_
            obtain ⟨hk37, hf⟩ := zc_s hf
            obtain ⟨r38, σ39, hcr38, hf⟩ := zq_s hf
            refine xV (As := [.int v5]) (rest := [.int v5, .ref (gB g + v4)]) (st1 := [.int r38, .int v5, .ref (gB g + v4)]) E hR hS hl (C_X2_valueOf hcr38) hk37 ok2 lb_X2_valueOf lv_X2_valueOf ml_X7_68 ⟨Nat.le_of_ble_eq_true rfl, Nat.le_of_ble_eq_true rfl⟩ rfl rfl rfl (Nat.le_of_ble_eq_true rfl) dX7_writeProof_63 ⟨hc, hs⟩ (fun H locs hR hS => ?_)
            obtain ⟨r40, σ41, hcr40, hf⟩ := zq_s hf
            refine xSN (As := [.int v5, .int r38]) (rest := [.ref (gB g + v4)]) (st1 := [.int r40, .ref (gB g + v4)]) E hR hS hl (C_X8_nodeItem hcr40) lb_X8_nodeItem ls_X8_nodeItem nl_X7_114 ⟨Nat.le_of_ble_eq_true rfl, Nat.le_of_ble_eq_true rfl⟩ rfl rfl rfl (Nat.le_of_ble_eq_true rfl) dX7_writeProof_66 ⟨hc, hs⟩ (fun H locs hR hS => ?_)
            obtain ⟨hk42, hf⟩ := zc_s hf
            obtain ⟨r43, σ44, hcr43, hf⟩ := zq_s hf
            refine xV (As := [.int r40]) (rest := []) (st1 := []) E hR hS hl (C_X1_add hcr43) hk42 ok1 lb_X1_add lv_X1_add ml_X7_117 ⟨Nat.le_of_ble_eq_true rfl, Nat.le_of_ble_eq_true rfl⟩ rfl rfl rfl (Nat.le_of_ble_eq_true rfl) dX7_writeProof_69 ⟨hc, hs⟩ (fun H locs hR hS => ?_)
            refine lv_aload_n hx hb dX7_writeProof_72 rfl (lv_at hl 0 rfl) ?_
            obtain ⟨hk45, hf⟩ := zc_s hf
            obtain ⟨b46, hb46, hf⟩ := zr_s hf
            refine x_getR E hR hk45 hb46 ok7 (Nat.le_of_ble_eq_true rfl) rfl fl_X7_34 dX7_writeProof_73 ?_
            refine lv_iload hx hb dX7_writeProof_76 (lv_at hl 5 rfl) ?_
            refine lv_iload hx hb dX7_writeProof_78 (lv_at hl 7 rfl) ?_
            obtain ⟨hk47, hf⟩ := zc_s hf
            obtain ⟨r48, σ49, hcr48, hf⟩ := zq_s hf
            refine xV (As := [.int v5, .int v7]) (rest := []) (st1 := []) E hR hS hl (C_X3_push hcr48) hk47 ok3 lb_X3_push lv_X3_push ml_X7_120 ⟨Nat.le_of_ble_eq_true rfl, Nat.le_of_ble_eq_true rfl⟩ rfl rfl rfl (Nat.le_of_ble_eq_true rfl) dX7_writeProof_80 ⟨hc, hs⟩ (fun H locs hR hS => ?_)
            refine lv_iload hx hb dX7_writeProof_83 (lv_at hl 5 rfl) ?_
            refine lv_iconst (v := (1 : Int32)) hx hb dX7_writeProof_85 rfl ?_
            refine lv_isub hx hb dX7_writeProof_86 ?_
            refine lv_istore (lv' := [(7, .int (v5 - (1 : Int32))), (0, .ref (gB g + v0)), (1, .ref (gB g + v1)), (2, .int v2), (3, .int v3), (4, .ref (gB g + v4)), (5, .int v5), (6, .int v6), (8, .int v8)]) hx hb dX7_writeProof_87 hl (Nat.le_of_ble_eq_true rfl) rfl (fun ls hl => ?_)
            refine lv_aload_n hx hb dX7_writeProof_89 rfl (lv_at hl 1 rfl) ?_
            refine lv_iload hx hb dX7_writeProof_90 (lv_at hl 6 rfl) ?_
            obtain ⟨hk50, hf⟩ := zc_s hf
            obtain ⟨r51, σ52, hcr51, hf⟩ := zq_s hf
            refine xV (As := [.int v5]) (rest := []) (st1 := [.int r51]) E hR hS hl (C_X7_leftOf hcr51) hk50 ok7 lb_X7_leftOf lv_X7_leftOf ml_X7_76 ⟨Nat.le_of_ble_eq_true rfl, Nat.le_of_ble_eq_true rfl⟩ rfl rfl rfl (Nat.le_of_ble_eq_true rfl) dX7_writeProof_92 ⟨hc, hs⟩ (fun H locs hR hS => ?_)
            refine lv_istore (lv' := [(5, .int r51), (7, .int (v5 - (1 : Int32))), (0, .ref (gB g + v0)), (1, .ref (gB g + v1)), (2, .int v2), (3, .int v3), (4, .ref (gB g + v4)), (6, .int v6), (8, .int v8)]) hx hb dX7_writeProof_95 hl (Nat.le_of_ble_eq_true rfl) rfl (fun ls hl => ?_)
            refine lv_goto (tgt := 157) hx hb dX7_writeProof_97 (by decide) ?_
            exact V_X7_writeProof_157 _ ih _ _ _ _ _ _ _ _ _ _ _ _ hf p e s m args below meth c _ _ _ _ _ E hR hS (lv_sub hl [2, 3, 4, 5, 6, 0, 7, 1, 8] rfl) hc hs
set_option maxRecDepth 100000 in
def f_X7_writeProof (v0 : Nat) (v1 : Nat) (v2 : Int32) (v3 : Int32) (v4 : Nat) (σ : Mm) : Option (Unit × Mm) :=
  zck (kO σ v4 1) (zcb (f_X1_shorten v4 (0 : Int32) σ) (fun r54 σ55 => zck (kO σ55 v0 7) (zrb (mR σ55 v0 7) (fun b57 => zck (kO σ55 b57 3) (zcb (f_X3_clear b57 σ55) (fun r59 σ60 => zck (kO σ60 v0 7) (f_X7_writeProof_29 1000 v0 v1 v2 v3 v4 (mD σ60 v0 6) (0 : Int32) (99 : Int32) (0 : Int32) σ60)))))))
set_option maxRecDepth 100000 in
set_option maxHeartbeats 4000000 in
theorem V_X7_writeProof_0 {g : GG} (v0 : Nat) (v1 : Nat) (v2 : Int32) (v3 : Int32) (v4 : Nat) (σ : Mm) (r : Unit) (σ' : Mm) (hf : f_X7_writeProof v0 v1 v2 v3 v4 σ = some (r, σ')) : VJ g RX7 cX7_writeProof 9 none false rm_X7_writeProof none σ' (0) (0) 0 [(0, .ref (gB g + v0)), (1, .ref (gB g + v1)), (2, .int v2), (3, .int v3), (4, .ref (gB g + v4))] [] σ := by
  intro p e s m args below meth c H locs cells slots ls E hR hS hl hc hs
  obtain ⟨hx, hb, hml, hr, hlocks, hown, hts, hin, hT⟩ := id E
  unfold f_X7_writeProof at hf
  refine lv_aload hx hb dX7_writeProof_0 (lv_at hl 4 rfl) ?_
  refine lv_iconst (v := (0 : Int32)) hx hb dX7_writeProof_2 rfl ?_
  obtain ⟨hk53, hf⟩ := zc_s hf
  obtain ⟨r54, σ55, hcr54, hf⟩ := zq_s hf
  refine xV (As := [.int (0 : Int32)]) (rest := []) (st1 := []) E hR hS hl (C_X1_shorten hcr54) hk53 ok1 lb_X1_shorten lv_X1_shorten ml_X7_105 ⟨Nat.le_of_ble_eq_true rfl, Nat.le_of_ble_eq_true rfl⟩ rfl rfl rfl (Nat.le_of_ble_eq_true rfl) dX7_writeProof_3 ⟨hc, hs⟩ (fun H locs hR hS => ?_)
  refine lv_aload_n hx hb dX7_writeProof_6 rfl (lv_at hl 0 rfl) ?_
  obtain ⟨hk56, hf⟩ := zc_s hf
  obtain ⟨b57, hb57, hf⟩ := zr_s hf
  refine x_getR E hR hk56 hb57 ok7 (Nat.le_of_ble_eq_true rfl) rfl fl_X7_34 dX7_writeProof_7 ?_
  obtain ⟨hk58, hf⟩ := zc_s hf
  obtain ⟨r59, σ60, hcr59, hf⟩ := zq_s hf
  refine xV (As := []) (rest := []) (st1 := []) E hR hS hl (C_X3_clear hcr59) hk58 ok3 lb_X3_clear lv_X3_clear ml_X7_111 ⟨Nat.le_of_ble_eq_true rfl, Nat.le_of_ble_eq_true rfl⟩ rfl rfl rfl (Nat.le_of_ble_eq_true rfl) dX7_writeProof_10 ⟨hc, hs⟩ (fun H locs hR hS => ?_)
  refine lv_aload_n hx hb dX7_writeProof_13 rfl (lv_at hl 0 rfl) ?_
  obtain ⟨hk61, hf⟩ := zc_s hf
  refine x_getI E hR hk61 ok7 6 (Nat.le_of_ble_eq_true rfl) rfl fl_X7_27 dX7_writeProof_14 ?_
  refine lv_istore (lv' := [(5, .int (mD σ60 v0 6)), (0, .ref (gB g + v0)), (1, .ref (gB g + v1)), (2, .int v2), (3, .int v3), (4, .ref (gB g + v4))]) hx hb dX7_writeProof_17 hl (Nat.le_of_ble_eq_true rfl) rfl (fun ls hl => ?_)
  refine lv_iconst (v := (0 : Int32)) hx hb dX7_writeProof_19 rfl ?_
  refine lv_istore (lv' := [(6, .int (0 : Int32)), (5, .int (mD σ60 v0 6)), (0, .ref (gB g + v0)), (1, .ref (gB g + v1)), (2, .int v2), (3, .int v3), (4, .ref (gB g + v4))]) hx hb dX7_writeProof_20 hl (Nat.le_of_ble_eq_true rfl) rfl (fun ls hl => ?_)
  refine lv_bipush (v := (99 : Int32)) hx hb dX7_writeProof_22 rfl ?_
  refine lv_istore (lv' := [(7, .int (99 : Int32)), (6, .int (0 : Int32)), (5, .int (mD σ60 v0 6)), (0, .ref (gB g + v0)), (1, .ref (gB g + v1)), (2, .int v2), (3, .int v3), (4, .ref (gB g + v4))]) hx hb dX7_writeProof_24 hl (Nat.le_of_ble_eq_true rfl) rfl (fun ls hl => ?_)
  refine lv_iconst (v := (0 : Int32)) hx hb dX7_writeProof_26 rfl ?_
  refine lv_istore (lv' := [(8, .int (0 : Int32)), (7, .int (99 : Int32)), (6, .int (0 : Int32)), (5, .int (mD σ60 v0 6)), (0, .ref (gB g + v0)), (1, .ref (gB g + v1)), (2, .int v2), (3, .int v3), (4, .ref (gB g + v4))]) hx hb dX7_writeProof_27 hl (Nat.le_of_ble_eq_true rfl) rfl (fun ls hl => ?_)
  exact V_X7_writeProof_29  1000 _ _ _ _ _ _ _ _ _ _ _ _ hf p e s m args below meth c _ _ _ _ _ E hR hS (lv_sub hl [4, 5, 6, 7, 8, 3, 2, 1, 0] rfl) hc hs
theorem C_X7_writeProof {g : GG} {v0 : Nat} {v1 : Nat} {v2 : Int32} {v3 : Int32} {v4 : Nat} {σ : Mm} {r : Unit} {σ' : Mm} (hf : f_X7_writeProof v0 v1 v2 v3 v4 σ = some (r, σ')) : Ct g yX7_writeProof cX7_writeProof 9 none rm_X7_writeProof [.ref (gB g + v0), .ref (gB g + v1), .int v2, .int v3, .ref (gB g + v4)] σ none σ' :=
  Ct.of false (by decide +kernel) (fun h => by cases h) (Nat.le_of_ble_eq_true rfl) (V_X7_writeProof_0 _ _ _ _ _ _ _ _ hf)
abbrev rm_X8_init : Room := { frames := 4, cells := 84, slots := 4733, locals := 72 }
set_option maxRecDepth 100000 in
def f_X8_init_91 : Nat → Nat → Int32 → Mm → Option (Unit × Mm)
  | 0, _, _, _ => none
  | n + 1, v0, v1, σ =>
    if (2 : Int32) ≤ v1 then (some ((), σ)) else (zck (kO σ v0 8) (zrb (mR σ v0 4) (fun b3 => zlt (nw σ (0, 6)) (fun σ4 => zcb (f_X6_init (mN σ) σ4) (fun r5 σ6 => zck (kA σ6 4 b3 v1) (zck (kO σ6 (mN σ) 6) (zlt (sR σ6 b3 (ix v1) (mN σ)) (fun σ9 => f_X8_init_91 n v0 (v1 + (1 : Int32)) σ9))))))))
set_option maxRecDepth 100000 in
set_option maxHeartbeats 4000000 in
theorem V_X8_init_91 {g : GG} : ∀ (n : Nat) (v0 : Nat) (v1 : Int32) (σ : Mm) (r : Unit) (σ' : Mm), f_X8_init_91 n v0 v1 σ = some (r, σ') → VJ g RX8 cX8_init 2 none true rm_X8_init none σ' (n * 3 + 0) (n * 104 + 0) 91 [(0, .ref (gB g + v0)), (1, .int v1)] [] σ := by
  intro n
  induction n with
  | zero =>
    intro v0 v1 σ r σ' hf
    unfold f_X8_init_91 at hf
    cases hf
  | succ n ih =>
    intro v0 v1 σ r σ' hf p e s m args below meth c H locs cells slots ls E hR hS hl hc hs
    have hc : cells + ((n + 1) * 3 + 0) ≤ 84 := hc
    have hs : slots + ((n + 1) * 104 + 0) ≤ 4733 := hs
    obtain ⟨hx, hb, hml, hr, hlocks, hown, hts, hin, hT⟩ := id E
    unfold f_X8_init_91 at hf
    refine lv_iload_n hx hb dX8_init_91 rfl (lv_at hl 1 rfl) ?_
    refine lv_iconst (v := (2 : Int32)) hx hb dX8_init_92 rfl ?_
    refine lv_icmp_ge (tgt := 115) hx hb dX8_init_93 (by decide) (fun hq1 => ?_) (fun hq1 => ?_)
    · have hf := ite_p hq1 hf
      obtain ⟨hr1, hs1⟩ := Prod.mk.inj (Option.some.inj hf)
      exact xr_v E hR hS rfl rfl hs1.symm (show cells ≤ 84 by omega) (show slots ≤ 4733 by omega) dX8_init_115
    · have hf := ite_n hq1 hf
      refine lv_aload_n hx hb dX8_init_96 rfl (lv_at hl 0 rfl) ?_
      obtain ⟨hk2, hf⟩ := zc_s hf
      obtain ⟨b3, hb3, hf⟩ := zr_s hf
      refine x_getR E hR hk2 hb3 ok8 (Nat.le_of_ble_eq_true rfl) rfl fl_X8_39 dX8_init_97 ?_
      refine lv_iload_n hx hb dX8_init_100 rfl (lv_at hl 1 rfl) ?_
      obtain ⟨σ4, eσ4, hf⟩ := zl_s hf
      refine x_new E hR hS ok6 cd6 cl_X8_37 cn6 ci6 (show cells + 1 ≤ 84 by omega) (show slots + 2 ≤ 4733 by omega) dX8_init_101 (fun H hR hS => ?_)
      rw [← eσ4] at hR
      refine lv_dup hx hb dX8_init_104 rfl ?_
      obtain ⟨r5, σ6, hcr5, hf⟩ := zq_s hf
      refine xIN (As := []) (rest := [.ref (gB g + (mN σ)), .int v1, .ref (gB g + b3)]) (st1 := [.ref (gB g + (mN σ)), .int v1, .ref (gB g + b3)]) E hR hS hl (C_X6_init hcr5) lb_X6_init li_X6_init nl_X8_56 ⟨Nat.le_of_ble_eq_true rfl, Nat.le_of_ble_eq_true rfl⟩ rfl rfl rfl (Nat.le_of_ble_eq_true rfl) dX8_init_105 ⟨show cells + 1 + 2 ≤ 84 by omega, show slots + 2 + 102 ≤ 4733 by omega⟩ (fun H locs hR hS => ?_)
      obtain ⟨hk7, hf⟩ := zc_s hf
      obtain ⟨hk8, hf⟩ := zc_s hf
      obtain ⟨σ9, eσ9, hf⟩ := zl_s hf
      refine x_ast E hR hS (Or.inr ⟨rfl, rfl⟩) hk7 hk8 dX8_init_108 (fun H locs hR hS => ?_)
      rw [← eσ9] at hR
      refine lv_iinc (v := (v1 + (1 : Int32))) (lv' := [(1, .int (v1 + (1 : Int32))), (0, .ref (gB g + v0))]) hx hb dX8_init_109 hl (k := 1) rfl rfl (Nat.le_of_ble_eq_true rfl) rfl (fun ls hl => ?_)
      refine lv_goto (tgt := 91) hx hb dX8_init_112 (by decide) ?_
      exact ih _ _ _ _ _ hf p e s m args below meth c _ _ _ _ _ E hR hS (lv_sub hl [1, 0] rfl) (show cells + 1 + 2 + (n * 3 + 0) ≤ 84 by omega) (show slots + 2 + 102 + (n * 104 + 0) ≤ 4733 by omega)
set_option maxRecDepth 100000 in
def f_X8_init (v0 : Nat) (σ : Mm) : Option (Unit × Mm) :=
  zlt (nw σ (0, 2)) (fun σ10 => zcb (f_X2_init (mN σ) σ10) (fun r11 σ12 => zck (kO σ12 v0 8) (zlt (sR σ12 v0 0 (mN σ)) (fun σ14 => zlt (nw σ14 (0, 7)) (fun σ15 => zcb (f_X7_init (mN σ14) σ15) (fun r16 σ17 => zck (kO σ17 v0 8) (zlt (sR σ17 v0 1 (mN σ14)) (fun σ19 => zlt (nw σ19 (0, 0)) (fun σ20 => zcb (f_X0_init (mN σ19) σ20) (fun r21 σ22 => zck (kO σ22 v0 8) (zlt (sR σ22 v0 2 (mN σ19)) (fun σ24 => zlt (nw σ24 (0, 5)) (fun σ25 => zcb (f_X5_init (mN σ24) σ25) (fun r26 σ27 => zck (kO σ27 v0 8) (zlt (sR σ27 v0 3 (mN σ24)) (fun σ29 => zlt (nw σ29 (4, 2)) (fun σ30 => zck (kO σ30 v0 8) (zlt (sR σ30 v0 4 (mN σ29)) (fun σ32 => zlt (nw σ32 (0, 2)) (fun σ33 => zcb (f_X2_init (mN σ32) σ33) (fun r34 σ35 => zck (kO σ35 v0 8) (zlt (sR σ35 v0 5 (mN σ32)) (fun σ37 => zlt (nw σ37 (0, 7)) (fun σ38 => zcb (f_X7_init (mN σ37) σ38) (fun r39 σ40 => zck (kO σ40 v0 8) (zlt (sR σ40 v0 6 (mN σ37)) (fun σ42 => zlt (nw σ42 (0, 1)) (fun σ43 => zcb (f_X1_init (mN σ42) σ43) (fun r44 σ45 => zck (kO σ45 v0 8) (zlt (sR σ45 v0 7 (mN σ42)) (fun σ47 => f_X8_init_91 3 v0 (0 : Int32) σ47)))))))))))))))))))))))))))))))
set_option maxRecDepth 100000 in
set_option maxHeartbeats 4000000 in
theorem V_X8_init_0 {g : GG} (v0 : Nat) (σ : Mm) (r : Unit) (σ' : Mm) (hf : f_X8_init v0 σ = some (r, σ')) (kc ks : Nat) (hqe : 84 ≤ kc ∧ 4733 ≤ ks) : VJ g RX8 cX8_init 2 none true rm_X8_init none σ' (kc) (ks) 0 [(0, .ref (gB g + v0))] [] σ := by
  intro p e s m args below meth c H locs cells slots ls E hR hS hl hc hs
  have hc : cells + kc ≤ 84 := hc
  have hs : slots + ks ≤ 4733 := hs
  obtain ⟨hx, hb, hml, hr, hlocks, hown, hts, hin, hT⟩ := id E
  unfold f_X8_init at hf
  refine lv_aload_n hx hb dX8_init_0 rfl (lv_at hl 0 rfl) ?_
  refine x_obj (rest := []) E hl ob_X8_3 obI obC (Nat.le_of_ble_eq_true rfl) (Nat.le_of_ble_eq_true rfl) dX8_init_1 ?_
  refine lv_aload_n hx hb dX8_init_4 rfl (lv_at hl 0 rfl) ?_
  obtain ⟨σ10, eσ10, hf⟩ := zl_s hf
  refine x_new E hR hS ok2 cd2 cl_X8_9 cn2 ci2 (show cells + 1 ≤ 84 by omega) (show slots + 2 ≤ 4733 by omega) dX8_init_5 (fun H hR hS => ?_)
  rw [← eσ10] at hR
  refine lv_dup hx hb dX8_init_8 rfl ?_
  obtain ⟨r11, σ12, hcr11, hf⟩ := zq_s hf
  refine xI (As := []) (rest := [.ref (gB g + (mN σ)), .ref (gB g + v0)]) (st1 := [.ref (gB g + (mN σ)), .ref (gB g + v0)]) E hR hS hl (C_X2_init hcr11) lb_X2_init li_X2_init ml_X8_11 ⟨Nat.le_of_ble_eq_true rfl, Nat.le_of_ble_eq_true rfl⟩ rfl rfl rfl (Nat.le_of_ble_eq_true rfl) dX8_init_9 ⟨show cells + 1 + 1 ≤ 84 by omega, show slots + 2 + 100 ≤ 4733 by omega⟩ (fun H locs hR hS => ?_)
  obtain ⟨hk13, hf⟩ := zc_s hf
  obtain ⟨σ14, eσ14, hf⟩ := zl_s hf
  refine x_putR E hR hS hk13 ok8 0 (Nat.le_of_ble_eq_true rfl) rfl fl_X8_12 (Or.inr ⟨rfl, rfl, rfl⟩) (fun _ => rfl) (fun _ => rfl) dX8_init_12 (fun H locs hR hS => ?_)
  rw [← eσ14] at hR
  refine lv_aload_n hx hb dX8_init_15 rfl (lv_at hl 0 rfl) ?_
  obtain ⟨σ15, eσ15, hf⟩ := zl_s hf
  refine x_new E hR hS ok7 cd7 cl_X8_16 cn7 ci7 (show cells + 1 + 1 + 1 ≤ 84 by omega) (show slots + 2 + 100 + 8 ≤ 4733 by omega) dX8_init_16 (fun H hR hS => ?_)
  rw [← eσ15] at hR
  refine lv_dup hx hb dX8_init_19 rfl ?_
  obtain ⟨r16, σ17, hcr16, hf⟩ := zq_s hf
  refine xIN (As := []) (rest := [.ref (gB g + (mN σ14)), .ref (gB g + v0)]) (st1 := [.ref (gB g + (mN σ14)), .ref (gB g + v0)]) E hR hS hl (C_X7_init hcr16) lb_X7_init li_X7_init nl_X8_18 ⟨Nat.le_of_ble_eq_true rfl, Nat.le_of_ble_eq_true rfl⟩ rfl rfl rfl (Nat.le_of_ble_eq_true rfl) dX8_init_20 ⟨show cells + 1 + 1 + 1 + 8 ≤ 84 by omega, show slots + 2 + 100 + 8 + 706 ≤ 4733 by omega⟩ (fun H locs hR hS => ?_)
  obtain ⟨hk18, hf⟩ := zc_s hf
  obtain ⟨σ19, eσ19, hf⟩ := zl_s hf
  refine x_putR E hR hS hk18 ok8 1 (Nat.le_of_ble_eq_true rfl) rfl fl_X8_19 (Or.inr ⟨rfl, rfl, rfl⟩) (fun _ => rfl) (fun _ => rfl) dX8_init_23 (fun H locs hR hS => ?_)
  rw [← eσ19] at hR
  refine lv_aload_n hx hb dX8_init_26 rfl (lv_at hl 0 rfl) ?_
  obtain ⟨σ20, eσ20, hf⟩ := zl_s hf
  refine x_new E hR hS ok0 cd0 cl_X8_23 cn0 ci0 (show cells + 1 + 1 + 1 + 8 + 1 ≤ 84 by omega) (show slots + 2 + 100 + 8 + 706 + 3 ≤ 4733 by omega) dX8_init_27 (fun H hR hS => ?_)
  rw [← eσ20] at hR
  refine lv_dup hx hb dX8_init_30 rfl ?_
  obtain ⟨r21, σ22, hcr21, hf⟩ := zq_s hf
  refine xI (As := []) (rest := [.ref (gB g + (mN σ19)), .ref (gB g + v0)]) (st1 := [.ref (gB g + (mN σ19)), .ref (gB g + v0)]) E hR hS hl (C_X0_init hcr21) lb_X0_init li_X0_init ml_X8_25 ⟨Nat.le_of_ble_eq_true rfl, Nat.le_of_ble_eq_true rfl⟩ rfl rfl rfl (Nat.le_of_ble_eq_true rfl) dX8_init_31 ⟨show cells + 1 + 1 + 1 + 8 + 1 + 31 ≤ 84 by omega, show slots + 2 + 100 + 8 + 706 + 3 + 1544 ≤ 4733 by omega⟩ (fun H locs hR hS => ?_)
  obtain ⟨hk23, hf⟩ := zc_s hf
  obtain ⟨σ24, eσ24, hf⟩ := zl_s hf
  refine x_putR E hR hS hk23 ok8 2 (Nat.le_of_ble_eq_true rfl) rfl fl_X8_26 (Or.inr ⟨rfl, rfl, rfl⟩) (fun _ => rfl) (fun _ => rfl) dX8_init_34 (fun H locs hR hS => ?_)
  rw [← eσ24] at hR
  refine lv_aload_n hx hb dX8_init_37 rfl (lv_at hl 0 rfl) ?_
  obtain ⟨σ25, eσ25, hf⟩ := zl_s hf
  refine x_new E hR hS ok5 cd5 cl_X8_30 cn5 ci5 (show cells + 1 + 1 + 1 + 8 + 1 + 31 + 1 ≤ 84 by omega) (show slots + 2 + 100 + 8 + 706 + 3 + 1544 + 7 ≤ 4733 by omega) dX8_init_38 (fun H hR hS => ?_)
  rw [← eσ25] at hR
  refine lv_dup hx hb dX8_init_41 rfl ?_
  obtain ⟨r26, σ27, hcr26, hf⟩ := zq_s hf
  refine xIN (As := []) (rest := [.ref (gB g + (mN σ24)), .ref (gB g + v0)]) (st1 := [.ref (gB g + (mN σ24)), .ref (gB g + v0)]) E hR hS hl (C_X5_init hcr26) lb_X5_init li_X5_init nl_X8_32 ⟨Nat.le_of_ble_eq_true rfl, Nat.le_of_ble_eq_true rfl⟩ rfl rfl rfl (Nat.le_of_ble_eq_true rfl) dX8_init_42 ⟨show cells + 1 + 1 + 1 + 8 + 1 + 31 + 1 + 17 ≤ 84 by omega, show slots + 2 + 100 + 8 + 706 + 3 + 1544 + 7 + 1131 ≤ 4733 by omega⟩ (fun H locs hR hS => ?_)
  obtain ⟨hk28, hf⟩ := zc_s hf
  obtain ⟨σ29, eσ29, hf⟩ := zl_s hf
  refine x_putR E hR hS hk28 ok8 3 (Nat.le_of_ble_eq_true rfl) rfl fl_X8_33 (Or.inr ⟨rfl, rfl, rfl⟩) (fun _ => rfl) (fun _ => rfl) dX8_init_45 (fun H locs hR hS => ?_)
  rw [← eσ29] at hR
  refine lv_aload_n hx hb dX8_init_48 rfl (lv_at hl 0 rfl) ?_
  refine lv_iconst (v := (2 : Int32)) hx hb dX8_init_49 rfl ?_
  obtain ⟨σ30, eσ30, hf⟩ := zl_s hf
  refine x_newq (L := 2) (C := "BorderProofs$Slot") E hR hS (Or.inr ⟨rfl, rfl⟩) cl_X8_37 (by decide) (by decide) (Nat.le_of_ble_eq_true rfl) (show cells + 1 + 1 + 1 + 8 + 1 + 31 + 1 + 17 + 1 ≤ 84 by omega) (show slots + 2 + 100 + 8 + 706 + 3 + 1544 + 7 + 1131 + 2 ≤ 4733 by omega) dX8_init_50 (fun H hR hS => ?_)
  rw [← eσ30] at hR
  obtain ⟨hk31, hf⟩ := zc_s hf
  obtain ⟨σ32, eσ32, hf⟩ := zl_s hf
  refine x_putR E hR hS hk31 ok8 4 (Nat.le_of_ble_eq_true rfl) rfl fl_X8_39 (Or.inr ⟨rfl, rfl, rfl⟩) (fun _ => rfl) (fun _ => rfl) dX8_init_53 (fun H locs hR hS => ?_)
  rw [← eσ32] at hR
  refine lv_aload_n hx hb dX8_init_56 rfl (lv_at hl 0 rfl) ?_
  obtain ⟨σ33, eσ33, hf⟩ := zl_s hf
  refine x_new E hR hS ok2 cd2 cl_X8_9 cn2 ci2 (show cells + 1 + 1 + 1 + 8 + 1 + 31 + 1 + 17 + 1 + 1 ≤ 84 by omega) (show slots + 2 + 100 + 8 + 706 + 3 + 1544 + 7 + 1131 + 2 + 2 ≤ 4733 by omega) dX8_init_57 (fun H hR hS => ?_)
  rw [← eσ33] at hR
  refine lv_dup hx hb dX8_init_60 rfl ?_
  obtain ⟨r34, σ35, hcr34, hf⟩ := zq_s hf
  refine xI (As := []) (rest := [.ref (gB g + (mN σ32)), .ref (gB g + v0)]) (st1 := [.ref (gB g + (mN σ32)), .ref (gB g + v0)]) E hR hS hl (C_X2_init hcr34) lb_X2_init li_X2_init ml_X8_11 ⟨Nat.le_of_ble_eq_true rfl, Nat.le_of_ble_eq_true rfl⟩ rfl rfl rfl (Nat.le_of_ble_eq_true rfl) dX8_init_61 ⟨show cells + 1 + 1 + 1 + 8 + 1 + 31 + 1 + 17 + 1 + 1 + 1 ≤ 84 by omega, show slots + 2 + 100 + 8 + 706 + 3 + 1544 + 7 + 1131 + 2 + 2 + 100 ≤ 4733 by omega⟩ (fun H locs hR hS => ?_)
  obtain ⟨hk36, hf⟩ := zc_s hf
  obtain ⟨σ37, eσ37, hf⟩ := zl_s hf
  refine x_putR E hR hS hk36 ok8 5 (Nat.le_of_ble_eq_true rfl) rfl fl_X8_43 (Or.inr ⟨rfl, rfl, rfl⟩) (fun _ => rfl) (fun _ => rfl) dX8_init_64 (fun H locs hR hS => ?_)
  rw [← eσ37] at hR
  refine lv_aload_n hx hb dX8_init_67 rfl (lv_at hl 0 rfl) ?_
  obtain ⟨σ38, eσ38, hf⟩ := zl_s hf
  refine x_new E hR hS ok7 cd7 cl_X8_16 cn7 ci7 (show cells + 1 + 1 + 1 + 8 + 1 + 31 + 1 + 17 + 1 + 1 + 1 + 1 ≤ 84 by omega) (show slots + 2 + 100 + 8 + 706 + 3 + 1544 + 7 + 1131 + 2 + 2 + 100 + 8 ≤ 4733 by omega) dX8_init_68 (fun H hR hS => ?_)
  rw [← eσ38] at hR
  refine lv_dup hx hb dX8_init_71 rfl ?_
  obtain ⟨r39, σ40, hcr39, hf⟩ := zq_s hf
  refine xIN (As := []) (rest := [.ref (gB g + (mN σ37)), .ref (gB g + v0)]) (st1 := [.ref (gB g + (mN σ37)), .ref (gB g + v0)]) E hR hS hl (C_X7_init hcr39) lb_X7_init li_X7_init nl_X8_18 ⟨Nat.le_of_ble_eq_true rfl, Nat.le_of_ble_eq_true rfl⟩ rfl rfl rfl (Nat.le_of_ble_eq_true rfl) dX8_init_72 ⟨show cells + 1 + 1 + 1 + 8 + 1 + 31 + 1 + 17 + 1 + 1 + 1 + 1 + 8 ≤ 84 by omega, show slots + 2 + 100 + 8 + 706 + 3 + 1544 + 7 + 1131 + 2 + 2 + 100 + 8 + 706 ≤ 4733 by omega⟩ (fun H locs hR hS => ?_)
  obtain ⟨hk41, hf⟩ := zc_s hf
  obtain ⟨σ42, eσ42, hf⟩ := zl_s hf
  refine x_putR E hR hS hk41 ok8 6 (Nat.le_of_ble_eq_true rfl) rfl fl_X8_46 (Or.inr ⟨rfl, rfl, rfl⟩) (fun _ => rfl) (fun _ => rfl) dX8_init_75 (fun H locs hR hS => ?_)
  rw [← eσ42] at hR
  refine lv_aload_n hx hb dX8_init_78 rfl (lv_at hl 0 rfl) ?_
  obtain ⟨σ43, eσ43, hf⟩ := zl_s hf
  refine x_new E hR hS ok1 cd1 cl_X8_49 cn1 ci1 (show cells + 1 + 1 + 1 + 8 + 1 + 31 + 1 + 17 + 1 + 1 + 1 + 1 + 8 + 1 ≤ 84 by omega) (show slots + 2 + 100 + 8 + 706 + 3 + 1544 + 7 + 1131 + 2 + 2 + 100 + 8 + 706 + 2 ≤ 4733 by omega) dX8_init_79 (fun H hR hS => ?_)
  rw [← eσ43] at hR
  refine lv_dup hx hb dX8_init_82 rfl ?_
  obtain ⟨r44, σ45, hcr44, hf⟩ := zq_s hf
  refine xIN (As := []) (rest := [.ref (gB g + (mN σ42)), .ref (gB g + v0)]) (st1 := [.ref (gB g + (mN σ42)), .ref (gB g + v0)]) E hR hS hl (C_X1_init hcr44) lb_X1_init li_X1_init nl_X8_51 ⟨Nat.le_of_ble_eq_true rfl, Nat.le_of_ble_eq_true rfl⟩ rfl rfl rfl (Nat.le_of_ble_eq_true rfl) dX8_init_83 ⟨show cells + 1 + 1 + 1 + 8 + 1 + 31 + 1 + 17 + 1 + 1 + 1 + 1 + 8 + 1 + 1 ≤ 84 by omega, show slots + 2 + 100 + 8 + 706 + 3 + 1544 + 7 + 1131 + 2 + 2 + 100 + 8 + 706 + 2 + 100 ≤ 4733 by omega⟩ (fun H locs hR hS => ?_)
  obtain ⟨hk46, hf⟩ := zc_s hf
  obtain ⟨σ47, eσ47, hf⟩ := zl_s hf
  refine x_putR E hR hS hk46 ok8 7 (Nat.le_of_ble_eq_true rfl) rfl fl_X8_52 (Or.inr ⟨rfl, rfl, rfl⟩) (fun _ => rfl) (fun _ => rfl) dX8_init_86 (fun H locs hR hS => ?_)
  rw [← eσ47] at hR
  refine lv_iconst (v := (0 : Int32)) hx hb dX8_init_89 rfl ?_
  refine lv_istore_n (lv' := [(1, .int (0 : Int32)), (0, .ref (gB g + v0))]) hx hb dX8_init_90 rfl hl (Nat.le_of_ble_eq_true rfl) rfl (fun ls hl => ?_)
  exact V_X8_init_91  3 _ _ _ _ _ hf p e s m args below meth c _ _ _ _ _ E hR hS (lv_sub hl [1, 0] rfl) (show cells + 1 + 1 + 1 + 8 + 1 + 31 + 1 + 17 + 1 + 1 + 1 + 1 + 8 + 1 + 1 + (3 * 3 + 0) ≤ 84 by omega) (show slots + 2 + 100 + 8 + 706 + 3 + 1544 + 7 + 1131 + 2 + 2 + 100 + 8 + 706 + 2 + 100 + (3 * 104 + 0) ≤ 4733 by omega)
theorem C_X8_init {g : GG} {v0 : Nat} {σ : Mm} {r : Unit} {σ' : Mm} (hf : f_X8_init v0 σ = some (r, σ')) : Ct g yX8_init cX8_init 2 none rm_X8_init [.ref (gB g + v0)] σ none σ' :=
  Ct.of true (by decide +kernel) (fun _ => rfl) (Nat.le_of_ble_eq_true rfl) (V_X8_init_0 _ _ _ _ hf 84 4733 ⟨Nat.le_of_ble_eq_true rfl, Nat.le_of_ble_eq_true rfl⟩)
abbrev rm_X8_put : Room := { frames := 4, cells := 0, slots := 0, locals := 94 }
set_option maxRecDepth 100000 in
def f_X8_put (v0 : Nat) (v1 : Int32) (v2 : Int32) (σ : Mm) : Option (Int32 × Mm) :=
  zcb (f_X8_isNumber v1 σ) (fun r1 σ2 => if r1 = 0 then (some ((-2 : Int32), σ2)) else (zcb (f_X8_isNumber v2 σ2) (fun r4 σ5 => if r4 = 0 then (some ((-2 : Int32), σ5)) else (zck (kO σ5 v0 8) (zrb (mR σ5 v0 0) (fun b8 => zck (kO σ5 b8 2) (zcb (f_X2_hasRoomFor b8 v1 σ5) (fun r10 σ11 => if r10 = 0 then (some ((-4 : Int32), σ11)) else (zck (kO σ11 v0 8) (zrb (mR σ11 v0 0) (fun b14 => zck (kO σ11 b14 2) (zcb (f_X2_valueOf b14 v1 σ11) (fun r16 σ17 => zck (kO σ17 v0 8) (zrb (mR σ17 v0 2) (fun b19 => zrb (mR σ17 v0 0) (fun b20 => zck (kO σ17 b19 0) (zcb (f_X0_note b19 b20 σ17) (fun r22 σ23 => zck (kO σ23 v0 8) (zrb (mR σ23 v0 0) (fun b25 => zck (kO σ23 b25 2) (zcb (f_X2_give b25 v1 v2 σ23) (fun r27 σ28 => zck (kO σ28 v0 8) (zrb (mR σ28 v0 1) (fun b30 => zrb (mR σ28 v0 0) (fun b31 => zck (kO σ28 b30 7) (zcb (f_X7_grow b30 b31 σ28) (fun r33 σ34 => some (r16, σ34))))))))))))))))))))))))))))
set_option maxRecDepth 100000 in
set_option maxHeartbeats 4000000 in
theorem V_X8_put_0 {g : GG} (v0 : Nat) (v1 : Int32) (v2 : Int32) (σ : Mm) (r : Int32) (σ' : Mm) (hf : f_X8_put v0 v1 v2 σ = some (r, σ')) : VJ g RX8 cX8_put 4 (some .int) false rm_X8_put (some (.int r)) σ' (0) (0) 0 [(0, .ref (gB g + v0)), (1, .int v1), (2, .int v2)] [] σ := by
  intro p e s m args below meth c H locs cells slots ls E hR hS hl hc hs
  obtain ⟨hx, hb, hml, hr, hlocks, hown, hts, hin, hT⟩ := id E
  unfold f_X8_put at hf
  refine lv_iload_n hx hb dX8_put_0 rfl (lv_at hl 1 rfl) ?_
  obtain ⟨r1, σ2, hcr1, hf⟩ := zq_s hf
  refine xS (As := [.int v1]) (rest := []) (st1 := [.int r1]) E hR hS hl (C_X8_isNumber hcr1) lb_X8_isNumber ls_X8_isNumber ml_X8_57 ⟨Nat.le_of_ble_eq_true rfl, Nat.le_of_ble_eq_true rfl⟩ rfl rfl rfl (Nat.le_of_ble_eq_true rfl) dX8_put_1 ⟨hc, hs⟩ (fun H locs hR hS => ?_)
  refine lv_if_eq (tgt := 14) hx hb dX8_put_4 (by decide) (fun hq3 => ?_) (fun hq3 => ?_)
  · have hf := ite_p hq3 hf
    refine lv_bipush (v := (-2 : Int32)) hx hb dX8_put_14 rfl ?_
    obtain ⟨hr1, hs1⟩ := Prod.mk.inj (Option.some.inj hf)
    exact xr_i E hR hS rfl (by rw [hr1]) hs1.symm hc hs dX8_put_16
  · have hf := ite_n hq3 hf
    refine lv_iload_n hx hb dX8_put_7 rfl (lv_at hl 2 rfl) ?_
    obtain ⟨r4, σ5, hcr4, hf⟩ := zq_s hf
    refine xS (As := [.int v2]) (rest := []) (st1 := [.int r4]) E hR hS hl (C_X8_isNumber hcr4) lb_X8_isNumber ls_X8_isNumber ml_X8_57 ⟨Nat.le_of_ble_eq_true rfl, Nat.le_of_ble_eq_true rfl⟩ rfl rfl rfl (Nat.le_of_ble_eq_true rfl) dX8_put_8 ⟨hc, hs⟩ (fun H locs hR hS => ?_)
    refine lv_if_ne (tgt := 17) hx hb dX8_put_11 (by decide) (fun hq6 => ?_) (fun hq6 => ?_)
    · have hf := ite_n hq6 hf
      refine lv_aload_n hx hb dX8_put_17 rfl (lv_at hl 0 rfl) ?_
      obtain ⟨hk7, hf⟩ := zc_s hf
      obtain ⟨b8, hb8, hf⟩ := zr_s hf
      refine x_getR E hR hk7 hb8 ok8 (Nat.le_of_ble_eq_true rfl) rfl fl_X8_12 dX8_put_18 ?_
      refine lv_iload_n hx hb dX8_put_21 rfl (lv_at hl 1 rfl) ?_
      obtain ⟨hk9, hf⟩ := zc_s hf
      obtain ⟨r10, σ11, hcr10, hf⟩ := zq_s hf
      refine xV (As := [.int v1]) (rest := []) (st1 := [.int r10]) E hR hS hl (C_X2_hasRoomFor hcr10) hk9 ok2 lb_X2_hasRoomFor lv_X2_hasRoomFor ml_X8_61 ⟨Nat.le_of_ble_eq_true rfl, Nat.le_of_ble_eq_true rfl⟩ rfl rfl rfl (Nat.le_of_ble_eq_true rfl) dX8_put_22 ⟨hc, hs⟩ (fun H locs hR hS => ?_)
      refine lv_if_ne (tgt := 31) hx hb dX8_put_25 (by decide) (fun hq12 => ?_) (fun hq12 => ?_)
      · have hf := ite_n hq12 hf
        refine lv_aload_n hx hb dX8_put_31 rfl (lv_at hl 0 rfl) ?_
        obtain ⟨hk13, hf⟩ := zc_s hf
        obtain ⟨b14, hb14, hf⟩ := zr_s hf
        refine x_getR E hR hk13 hb14 ok8 (Nat.le_of_ble_eq_true rfl) rfl fl_X8_12 dX8_put_32 ?_
        refine lv_iload_n hx hb dX8_put_35 rfl (lv_at hl 1 rfl) ?_
        obtain ⟨hk15, hf⟩ := zc_s hf
        obtain ⟨r16, σ17, hcr16, hf⟩ := zq_s hf
        refine xV (As := [.int v1]) (rest := []) (st1 := [.int r16]) E hR hS hl (C_X2_valueOf hcr16) hk15 ok2 lb_X2_valueOf lv_X2_valueOf ml_X8_64 ⟨Nat.le_of_ble_eq_true rfl, Nat.le_of_ble_eq_true rfl⟩ rfl rfl rfl (Nat.le_of_ble_eq_true rfl) dX8_put_36 ⟨hc, hs⟩ (fun H locs hR hS => ?_)
        refine lv_istore_n (lv' := [(3, .int r16), (0, .ref (gB g + v0)), (1, .int v1), (2, .int v2)]) hx hb dX8_put_39 rfl hl (Nat.le_of_ble_eq_true rfl) rfl (fun ls hl => ?_)
        refine lv_aload_n hx hb dX8_put_40 rfl (lv_at hl 1 rfl) ?_
        obtain ⟨hk18, hf⟩ := zc_s hf
        obtain ⟨b19, hb19, hf⟩ := zr_s hf
        refine x_getR E hR hk18 hb19 ok8 (Nat.le_of_ble_eq_true rfl) rfl fl_X8_26 dX8_put_41 ?_
        refine lv_aload_n hx hb dX8_put_44 rfl (lv_at hl 1 rfl) ?_
        obtain ⟨b20, hb20, hf⟩ := zr_s hf
        refine x_getR E hR hk18 hb20 ok8 (Nat.le_of_ble_eq_true rfl) rfl fl_X8_12 dX8_put_45 ?_
        obtain ⟨hk21, hf⟩ := zc_s hf
        obtain ⟨r22, σ23, hcr22, hf⟩ := zq_s hf
        refine xV (As := [.ref (gB g + b20)]) (rest := []) (st1 := []) E hR hS hl (C_X0_note hcr22) hk21 ok0 lb_X0_note lv_X0_note ml_X8_68 ⟨Nat.le_of_ble_eq_true rfl, Nat.le_of_ble_eq_true rfl⟩ rfl rfl rfl (Nat.le_of_ble_eq_true rfl) dX8_put_48 ⟨hc, hs⟩ (fun H locs hR hS => ?_)
        refine lv_aload_n hx hb dX8_put_51 rfl (lv_at hl 1 rfl) ?_
        obtain ⟨hk24, hf⟩ := zc_s hf
        obtain ⟨b25, hb25, hf⟩ := zr_s hf
        refine x_getR E hR hk24 hb25 ok8 (Nat.le_of_ble_eq_true rfl) rfl fl_X8_12 dX8_put_52 ?_
        refine lv_iload_n hx hb dX8_put_55 rfl (lv_at hl 2 rfl) ?_
        refine lv_iload_n hx hb dX8_put_56 rfl (lv_at hl 3 rfl) ?_
        obtain ⟨hk26, hf⟩ := zc_s hf
        obtain ⟨r27, σ28, hcr27, hf⟩ := zq_s hf
        refine xV (As := [.int v1, .int v2]) (rest := []) (st1 := []) E hR hS hl (C_X2_give hcr27) hk26 ok2 lb_X2_give lv_X2_give ml_X8_72 ⟨Nat.le_of_ble_eq_true rfl, Nat.le_of_ble_eq_true rfl⟩ rfl rfl rfl (Nat.le_of_ble_eq_true rfl) dX8_put_57 ⟨hc, hs⟩ (fun H locs hR hS => ?_)
        refine lv_aload_n hx hb dX8_put_60 rfl (lv_at hl 1 rfl) ?_
        obtain ⟨hk29, hf⟩ := zc_s hf
        obtain ⟨b30, hb30, hf⟩ := zr_s hf
        refine x_getR E hR hk29 hb30 ok8 (Nat.le_of_ble_eq_true rfl) rfl fl_X8_19 dX8_put_61 ?_
        refine lv_aload_n hx hb dX8_put_64 rfl (lv_at hl 1 rfl) ?_
        obtain ⟨b31, hb31, hf⟩ := zr_s hf
        refine x_getR E hR hk29 hb31 ok8 (Nat.le_of_ble_eq_true rfl) rfl fl_X8_12 dX8_put_65 ?_
        obtain ⟨hk32, hf⟩ := zc_s hf
        obtain ⟨r33, σ34, hcr33, hf⟩ := zq_s hf
        refine xV (As := [.ref (gB g + b31)]) (rest := []) (st1 := []) E hR hS hl (C_X7_grow hcr33) hk32 ok7 lb_X7_grow lv_X7_grow ml_X8_76 ⟨Nat.le_of_ble_eq_true rfl, Nat.le_of_ble_eq_true rfl⟩ rfl rfl rfl (Nat.le_of_ble_eq_true rfl) dX8_put_68 ⟨hc, hs⟩ (fun H locs hR hS => ?_)
        refine lv_iload_n hx hb dX8_put_71 rfl (lv_at hl 0 rfl) ?_
        obtain ⟨hr1, hs1⟩ := Prod.mk.inj (Option.some.inj hf)
        exact xr_i E hR hS rfl (by rw [hr1]) hs1.symm hc hs dX8_put_72
      · have hf := ite_p hq12 hf
        refine lv_bipush (v := (-4 : Int32)) hx hb dX8_put_28 rfl ?_
        obtain ⟨hr1, hs1⟩ := Prod.mk.inj (Option.some.inj hf)
        exact xr_i E hR hS rfl (by rw [hr1]) hs1.symm hc hs dX8_put_30
    · have hf := ite_p hq6 hf
      refine lv_bipush (v := (-2 : Int32)) hx hb dX8_put_14 rfl ?_
      obtain ⟨hr1, hs1⟩ := Prod.mk.inj (Option.some.inj hf)
      exact xr_i E hR hS rfl (by rw [hr1]) hs1.symm hc hs dX8_put_16
theorem C_X8_put {g : GG} {v0 : Nat} {v1 : Int32} {v2 : Int32} {σ : Mm} {r : Int32} {σ' : Mm} (hf : f_X8_put v0 v1 v2 σ = some (r, σ')) : Ct g yX8_put cX8_put 4 (some .int) rm_X8_put [.ref (gB g + v0), .int v1, .int v2] σ (some (.int r)) σ' :=
  Ct.of false (by decide +kernel) (fun h => by cases h) (Nat.le_of_ble_eq_true rfl) (V_X8_put_0 _ _ _ _ _ _ hf)
abbrev rm_X8_remove : Room := { frames := 4, cells := 0, slots := 0, locals := 94 }
set_option maxRecDepth 100000 in
def f_X8_remove (v0 : Nat) (v1 : Int32) (σ : Mm) : Option (Int32 × Mm) :=
  zcb (f_X8_isNumber v1 σ) (fun r1 σ2 => if r1 = 0 then (some ((-2 : Int32), σ2)) else (zck (kO σ2 v0 8) (zrb (mR σ2 v0 0) (fun b5 => zck (kO σ2 b5 2) (zcb (f_X2_has b5 v1 σ2) (fun r7 σ8 => if r7 = 0 then (some ((-1 : Int32), σ8)) else (zck (kO σ8 v0 8) (zrb (mR σ8 v0 0) (fun b11 => zck (kO σ8 b11 2) (zcb (f_X2_valueOf b11 v1 σ8) (fun r13 σ14 => zck (kO σ14 v0 8) (zrb (mR σ14 v0 2) (fun b16 => zrb (mR σ14 v0 0) (fun b17 => zck (kO σ14 b16 0) (zcb (f_X0_note b16 b17 σ14) (fun r19 σ20 => zck (kO σ20 v0 8) (zrb (mR σ20 v0 0) (fun b22 => zck (kO σ20 b22 2) (zcb (f_X2_drop b22 v1 σ20) (fun r24 σ25 => zck (kO σ25 v0 8) (zrb (mR σ25 v0 1) (fun b27 => zrb (mR σ25 v0 0) (fun b28 => zck (kO σ25 b27 7) (zcb (f_X7_grow b27 b28 σ25) (fun r30 σ31 => some (r13, σ31))))))))))))))))))))))))))
set_option maxRecDepth 100000 in
set_option maxHeartbeats 4000000 in
theorem V_X8_remove_0 {g : GG} (v0 : Nat) (v1 : Int32) (σ : Mm) (r : Int32) (σ' : Mm) (hf : f_X8_remove v0 v1 σ = some (r, σ')) : VJ g RX8 cX8_remove 3 (some .int) false rm_X8_remove (some (.int r)) σ' (0) (0) 0 [(0, .ref (gB g + v0)), (1, .int v1)] [] σ := by
  intro p e s m args below meth c H locs cells slots ls E hR hS hl hc hs
  obtain ⟨hx, hb, hml, hr, hlocks, hown, hts, hin, hT⟩ := id E
  unfold f_X8_remove at hf
  refine lv_iload_n hx hb dX8_remove_0 rfl (lv_at hl 1 rfl) ?_
  obtain ⟨r1, σ2, hcr1, hf⟩ := zq_s hf
  refine xS (As := [.int v1]) (rest := []) (st1 := [.int r1]) E hR hS hl (C_X8_isNumber hcr1) lb_X8_isNumber ls_X8_isNumber ml_X8_57 ⟨Nat.le_of_ble_eq_true rfl, Nat.le_of_ble_eq_true rfl⟩ rfl rfl rfl (Nat.le_of_ble_eq_true rfl) dX8_remove_1 ⟨hc, hs⟩ (fun H locs hR hS => ?_)
  refine lv_if_ne (tgt := 10) hx hb dX8_remove_4 (by decide) (fun hq3 => ?_) (fun hq3 => ?_)
  · have hf := ite_n hq3 hf
    refine lv_aload_n hx hb dX8_remove_10 rfl (lv_at hl 0 rfl) ?_
    obtain ⟨hk4, hf⟩ := zc_s hf
    obtain ⟨b5, hb5, hf⟩ := zr_s hf
    refine x_getR E hR hk4 hb5 ok8 (Nat.le_of_ble_eq_true rfl) rfl fl_X8_12 dX8_remove_11 ?_
    refine lv_iload_n hx hb dX8_remove_14 rfl (lv_at hl 1 rfl) ?_
    obtain ⟨hk6, hf⟩ := zc_s hf
    obtain ⟨r7, σ8, hcr7, hf⟩ := zq_s hf
    refine xV (As := [.int v1]) (rest := []) (st1 := [.int r7]) E hR hS hl (C_X2_has hcr7) hk6 ok2 lb_X2_has lv_X2_has ml_X8_79 ⟨Nat.le_of_ble_eq_true rfl, Nat.le_of_ble_eq_true rfl⟩ rfl rfl rfl (Nat.le_of_ble_eq_true rfl) dX8_remove_15 ⟨hc, hs⟩ (fun H locs hR hS => ?_)
    refine lv_if_ne (tgt := 23) hx hb dX8_remove_18 (by decide) (fun hq9 => ?_) (fun hq9 => ?_)
    · have hf := ite_n hq9 hf
      refine lv_aload_n hx hb dX8_remove_23 rfl (lv_at hl 0 rfl) ?_
      obtain ⟨hk10, hf⟩ := zc_s hf
      obtain ⟨b11, hb11, hf⟩ := zr_s hf
      refine x_getR E hR hk10 hb11 ok8 (Nat.le_of_ble_eq_true rfl) rfl fl_X8_12 dX8_remove_24 ?_
      refine lv_iload_n hx hb dX8_remove_27 rfl (lv_at hl 1 rfl) ?_
      obtain ⟨hk12, hf⟩ := zc_s hf
      obtain ⟨r13, σ14, hcr13, hf⟩ := zq_s hf
      refine xV (As := [.int v1]) (rest := []) (st1 := [.int r13]) E hR hS hl (C_X2_valueOf hcr13) hk12 ok2 lb_X2_valueOf lv_X2_valueOf ml_X8_64 ⟨Nat.le_of_ble_eq_true rfl, Nat.le_of_ble_eq_true rfl⟩ rfl rfl rfl (Nat.le_of_ble_eq_true rfl) dX8_remove_28 ⟨hc, hs⟩ (fun H locs hR hS => ?_)
      refine lv_istore_n (lv' := [(2, .int r13), (0, .ref (gB g + v0)), (1, .int v1)]) hx hb dX8_remove_31 rfl hl (Nat.le_of_ble_eq_true rfl) rfl (fun ls hl => ?_)
      refine lv_aload_n hx hb dX8_remove_32 rfl (lv_at hl 1 rfl) ?_
      obtain ⟨hk15, hf⟩ := zc_s hf
      obtain ⟨b16, hb16, hf⟩ := zr_s hf
      refine x_getR E hR hk15 hb16 ok8 (Nat.le_of_ble_eq_true rfl) rfl fl_X8_26 dX8_remove_33 ?_
      refine lv_aload_n hx hb dX8_remove_36 rfl (lv_at hl 1 rfl) ?_
      obtain ⟨b17, hb17, hf⟩ := zr_s hf
      refine x_getR E hR hk15 hb17 ok8 (Nat.le_of_ble_eq_true rfl) rfl fl_X8_12 dX8_remove_37 ?_
      obtain ⟨hk18, hf⟩ := zc_s hf
      obtain ⟨r19, σ20, hcr19, hf⟩ := zq_s hf
      refine xV (As := [.ref (gB g + b17)]) (rest := []) (st1 := []) E hR hS hl (C_X0_note hcr19) hk18 ok0 lb_X0_note lv_X0_note ml_X8_68 ⟨Nat.le_of_ble_eq_true rfl, Nat.le_of_ble_eq_true rfl⟩ rfl rfl rfl (Nat.le_of_ble_eq_true rfl) dX8_remove_40 ⟨hc, hs⟩ (fun H locs hR hS => ?_)
      refine lv_aload_n hx hb dX8_remove_43 rfl (lv_at hl 1 rfl) ?_
      obtain ⟨hk21, hf⟩ := zc_s hf
      obtain ⟨b22, hb22, hf⟩ := zr_s hf
      refine x_getR E hR hk21 hb22 ok8 (Nat.le_of_ble_eq_true rfl) rfl fl_X8_12 dX8_remove_44 ?_
      refine lv_iload_n hx hb dX8_remove_47 rfl (lv_at hl 2 rfl) ?_
      obtain ⟨hk23, hf⟩ := zc_s hf
      obtain ⟨r24, σ25, hcr24, hf⟩ := zq_s hf
      refine xV (As := [.int v1]) (rest := []) (st1 := []) E hR hS hl (C_X2_drop hcr24) hk23 ok2 lb_X2_drop lv_X2_drop ml_X8_82 ⟨Nat.le_of_ble_eq_true rfl, Nat.le_of_ble_eq_true rfl⟩ rfl rfl rfl (Nat.le_of_ble_eq_true rfl) dX8_remove_48 ⟨hc, hs⟩ (fun H locs hR hS => ?_)
      refine lv_aload_n hx hb dX8_remove_51 rfl (lv_at hl 1 rfl) ?_
      obtain ⟨hk26, hf⟩ := zc_s hf
      obtain ⟨b27, hb27, hf⟩ := zr_s hf
      refine x_getR E hR hk26 hb27 ok8 (Nat.le_of_ble_eq_true rfl) rfl fl_X8_19 dX8_remove_52 ?_
      refine lv_aload_n hx hb dX8_remove_55 rfl (lv_at hl 1 rfl) ?_
      obtain ⟨b28, hb28, hf⟩ := zr_s hf
      refine x_getR E hR hk26 hb28 ok8 (Nat.le_of_ble_eq_true rfl) rfl fl_X8_12 dX8_remove_56 ?_
      obtain ⟨hk29, hf⟩ := zc_s hf
      obtain ⟨r30, σ31, hcr30, hf⟩ := zq_s hf
      refine xV (As := [.ref (gB g + b28)]) (rest := []) (st1 := []) E hR hS hl (C_X7_grow hcr30) hk29 ok7 lb_X7_grow lv_X7_grow ml_X8_76 ⟨Nat.le_of_ble_eq_true rfl, Nat.le_of_ble_eq_true rfl⟩ rfl rfl rfl (Nat.le_of_ble_eq_true rfl) dX8_remove_59 ⟨hc, hs⟩ (fun H locs hR hS => ?_)
      refine lv_iload_n hx hb dX8_remove_62 rfl (lv_at hl 0 rfl) ?_
      obtain ⟨hr1, hs1⟩ := Prod.mk.inj (Option.some.inj hf)
      exact xr_i E hR hS rfl (by rw [hr1]) hs1.symm hc hs dX8_remove_63
    · have hf := ite_p hq9 hf
      refine lv_iconst (v := (-1 : Int32)) hx hb dX8_remove_21 rfl ?_
      obtain ⟨hr1, hs1⟩ := Prod.mk.inj (Option.some.inj hf)
      exact xr_i E hR hS rfl (by rw [hr1]) hs1.symm hc hs dX8_remove_22
  · have hf := ite_p hq3 hf
    refine lv_bipush (v := (-2 : Int32)) hx hb dX8_remove_7 rfl ?_
    obtain ⟨hr1, hs1⟩ := Prod.mk.inj (Option.some.inj hf)
    exact xr_i E hR hS rfl (by rw [hr1]) hs1.symm hc hs dX8_remove_9
theorem C_X8_remove {g : GG} {v0 : Nat} {v1 : Int32} {σ : Mm} {r : Int32} {σ' : Mm} (hf : f_X8_remove v0 v1 σ = some (r, σ')) : Ct g yX8_remove cX8_remove 3 (some .int) rm_X8_remove [.ref (gB g + v0), .int v1] σ (some (.int r)) σ' :=
  Ct.of false (by decide +kernel) (fun h => by cases h) (Nat.le_of_ble_eq_true rfl) (V_X8_remove_0 _ _ _ _ _ hf)
abbrev rm_X8_get : Room := { frames := 2, cells := 0, slots := 0, locals := 41 }
set_option maxRecDepth 100000 in
def f_X8_get (v0 : Nat) (v1 : Int32) (σ : Mm) : Option (Int32 × Mm) :=
  zcb (f_X8_isNumber v1 σ) (fun r1 σ2 => if r1 = 0 then (some ((-2 : Int32), σ2)) else (zck (kO σ2 v0 8) (zrb (mR σ2 v0 0) (fun b5 => zck (kO σ2 b5 2) (zcb (f_X2_valueOf b5 v1 σ2) (fun r7 σ8 => some (r7, σ8)))))))
set_option maxRecDepth 100000 in
set_option maxHeartbeats 4000000 in
theorem V_X8_get_0 {g : GG} (v0 : Nat) (v1 : Int32) (σ : Mm) (r : Int32) (σ' : Mm) (hf : f_X8_get v0 v1 σ = some (r, σ')) : VJ g RX8 cX8_get 2 (some .int) false rm_X8_get (some (.int r)) σ' (0) (0) 0 [(0, .ref (gB g + v0)), (1, .int v1)] [] σ := by
  intro p e s m args below meth c H locs cells slots ls E hR hS hl hc hs
  obtain ⟨hx, hb, hml, hr, hlocks, hown, hts, hin, hT⟩ := id E
  unfold f_X8_get at hf
  refine lv_iload_n hx hb dX8_get_0 rfl (lv_at hl 1 rfl) ?_
  obtain ⟨r1, σ2, hcr1, hf⟩ := zq_s hf
  refine xS (As := [.int v1]) (rest := []) (st1 := [.int r1]) E hR hS hl (C_X8_isNumber hcr1) lb_X8_isNumber ls_X8_isNumber ml_X8_57 ⟨Nat.le_of_ble_eq_true rfl, Nat.le_of_ble_eq_true rfl⟩ rfl rfl rfl (Nat.le_of_ble_eq_true rfl) dX8_get_1 ⟨hc, hs⟩ (fun H locs hR hS => ?_)
  refine lv_if_eq (tgt := 18) hx hb dX8_get_4 (by decide) (fun hq3 => ?_) (fun hq3 => ?_)
  · have hf := ite_p hq3 hf
    refine lv_bipush (v := (-2 : Int32)) hx hb dX8_get_18 rfl ?_
    obtain ⟨hr1, hs1⟩ := Prod.mk.inj (Option.some.inj hf)
    exact xr_i E hR hS rfl (by rw [hr1]) hs1.symm hc hs dX8_get_20
  · have hf := ite_n hq3 hf
    refine lv_aload_n hx hb dX8_get_7 rfl (lv_at hl 0 rfl) ?_
    obtain ⟨hk4, hf⟩ := zc_s hf
    obtain ⟨b5, hb5, hf⟩ := zr_s hf
    refine x_getR E hR hk4 hb5 ok8 (Nat.le_of_ble_eq_true rfl) rfl fl_X8_12 dX8_get_8 ?_
    refine lv_iload_n hx hb dX8_get_11 rfl (lv_at hl 1 rfl) ?_
    obtain ⟨hk6, hf⟩ := zc_s hf
    obtain ⟨r7, σ8, hcr7, hf⟩ := zq_s hf
    refine xV (As := [.int v1]) (rest := []) (st1 := [.int r7]) E hR hS hl (C_X2_valueOf hcr7) hk6 ok2 lb_X2_valueOf lv_X2_valueOf ml_X8_64 ⟨Nat.le_of_ble_eq_true rfl, Nat.le_of_ble_eq_true rfl⟩ rfl rfl rfl (Nat.le_of_ble_eq_true rfl) dX8_get_12 ⟨hc, hs⟩ (fun H locs hR hS => ?_)
    refine lv_goto (tgt := 20) hx hb dX8_get_15 (by decide) ?_
    obtain ⟨hr1, hs1⟩ := Prod.mk.inj (Option.some.inj hf)
    exact xr_i E hR hS rfl (by rw [hr1]) hs1.symm hc hs dX8_get_20
theorem C_X8_get {g : GG} {v0 : Nat} {v1 : Int32} {σ : Mm} {r : Int32} {σ' : Mm} (hf : f_X8_get v0 v1 σ = some (r, σ')) : Ct g yX8_get cX8_get 2 (some .int) rm_X8_get [.ref (gB g + v0), .int v1] σ (some (.int r)) σ' :=
  Ct.of false (by decide +kernel) (fun h => by cases h) (Nat.le_of_ble_eq_true rfl) (V_X8_get_0 _ _ _ _ _ hf)
abbrev rm_X8_scatter : Room := { frames := 4, cells := 0, slots := 0, locals := 94 }
set_option maxRecDepth 100000 in
def f_X8_scatter_94 (k_31 : Nat → Int32 → Int64 → Int32 → Mm → Option (Int32 × Mm)) (v0 : Nat) (v1 : Int32) (v4 : Int64) (v6 : Int32) (σ : Mm) : Option (Int32 × Mm) :=
  k_31 v0 v1 v4 (v6 + (1 : Int32)) σ
set_option maxRecDepth 100000 in
set_option maxHeartbeats 4000000 in
theorem V_X8_scatter_94 {g : GG} (k_31 : Nat → Int32 → Int64 → Int32 → Mm → Option (Int32 × Mm)) (hk_31 : ∀ (v0 : Nat) (v1 : Int32) (v4 : Int64) (v6 : Int32) (σ : Mm) (r : Int32) (σ' : Mm), k_31 v0 v1 v4 v6 σ = some (r, σ') → VJ g RX8 cX8_scatter 9 (some .int) false rm_X8_scatter (some (.int r)) σ' (0) (0) 31 [(0, .ref (gB g + v0)), (1, .int v1), (4, .long v4), (6, .int v6)] [] σ) (v0 : Nat) (v1 : Int32) (v4 : Int64) (v6 : Int32) (σ : Mm) (r : Int32) (σ' : Mm) (hf : f_X8_scatter_94 k_31 v0 v1 v4 v6 σ = some (r, σ')) : VJ g RX8 cX8_scatter 9 (some .int) false rm_X8_scatter (some (.int r)) σ' (0) (0) 94 [(0, .ref (gB g + v0)), (1, .int v1), (4, .long v4), (6, .int v6)] [] σ := by
  intro p e s m args below meth c H locs cells slots ls E hR hS hl hc hs
  obtain ⟨hx, hb, hml, hr, hlocks, hown, hts, hin, hT⟩ := id E
  unfold f_X8_scatter_94 at hf
  refine lv_iinc (v := (v6 + (1 : Int32))) (lv' := [(6, .int (v6 + (1 : Int32))), (0, .ref (gB g + v0)), (1, .int v1), (4, .long v4)]) hx hb dX8_scatter_94 hl (k := 3) rfl rfl (Nat.le_of_ble_eq_true rfl) rfl (fun ls hl => ?_)
  refine lv_goto (tgt := 31) hx hb dX8_scatter_97 (by decide) ?_
  exact hk_31 _ _ _ _ _ _ _ hf p e s m args below meth c _ _ _ _ _ E hR hS (lv_sub hl [1, 2, 3, 0] rfl) hc hs
set_option maxRecDepth 100000 in
def f_X8_scatter_31 : Nat → Nat → Int32 → Int64 → Int32 → Mm → Option (Int32 × Mm)
  | 0, _, _, _, _, _ => none
  | n + 1, v0, v1, v4, v6, σ =>
    if v1 ≤ v6 then (zck (kO σ v0 8) (zrb (mR σ v0 1) (fun b3 => zrb (mR σ v0 0) (fun b4 => zck (kO σ b3 7) (zcb (f_X7_grow b3 b4 σ) (fun r6 σ7 => zck (kO σ7 v0 8) (zrb (mR σ7 v0 0) (fun b9 => zck (kO σ7 b9 2) (zcb (f_X2_count b9 σ7) (fun r11 σ12 => some (r11, σ12))))))))))) else (zck (kO σ v0 8) (zrb (mR σ v0 0) (fun b14 => zck (kO σ b14 2) (zcb (f_X2_hasRoomFor b14 (((((((v4 * (6364136223846793005 : Int64)) + (1442695040888963407 : Int64)).toUInt64 >>> ((33 : Int32).toInt64.toUInt64 &&& Int64.toUInt64 63)).toInt64)).toInt32) - ((((((v4 * (6364136223846793005 : Int64)) + (1442695040888963407 : Int64)).toUInt64 >>> ((33 : Int32).toInt64.toUInt64 &&& Int64.toUInt64 63)).toInt64)).toInt32) / (100 : Int32) * (100 : Int32)) σ) (fun r16 σ17 => if r16 = 0 then (f_X8_scatter_94 (f_X8_scatter_31 n) v0 v1 ((v4 * (6364136223846793005 : Int64)) + (1442695040888963407 : Int64)) v6 σ17) else (zck (kO σ17 v0 8) (zrb (mR σ17 v0 0) (fun b20 => zck (kO σ17 b20 2) (zcb (f_X2_give b20 (((((((v4 * (6364136223846793005 : Int64)) + (1442695040888963407 : Int64)).toUInt64 >>> ((33 : Int32).toInt64.toUInt64 &&& Int64.toUInt64 63)).toInt64)).toInt32) - ((((((v4 * (6364136223846793005 : Int64)) + (1442695040888963407 : Int64)).toUInt64 >>> ((33 : Int32).toInt64.toUInt64 &&& Int64.toUInt64 63)).toInt64)).toInt32) / (100 : Int32) * (100 : Int32)) ((((((((v4 * (6364136223846793005 : Int64)) + (1442695040888963407 : Int64)).toUInt64 >>> ((33 : Int32).toInt64.toUInt64 &&& Int64.toUInt64 63)).toInt64)).toInt32) / (128 : Int32)) - (((((((v4 * (6364136223846793005 : Int64)) + (1442695040888963407 : Int64)).toUInt64 >>> ((33 : Int32).toInt64.toUInt64 &&& Int64.toUInt64 63)).toInt64)).toInt32) / (128 : Int32)) / (100 : Int32) * (100 : Int32)) σ17) (fun r22 σ23 => f_X8_scatter_94 (f_X8_scatter_31 n) v0 v1 ((v4 * (6364136223846793005 : Int64)) + (1442695040888963407 : Int64)) v6 σ23))))))))))
set_option maxRecDepth 100000 in
set_option maxHeartbeats 4000000 in
theorem V_X8_scatter_31 {g : GG} : ∀ (n : Nat) (v0 : Nat) (v1 : Int32) (v4 : Int64) (v6 : Int32) (σ : Mm) (r : Int32) (σ' : Mm), f_X8_scatter_31 n v0 v1 v4 v6 σ = some (r, σ') → VJ g RX8 cX8_scatter 9 (some .int) false rm_X8_scatter (some (.int r)) σ' (0) (0) 31 [(0, .ref (gB g + v0)), (1, .int v1), (4, .long v4), (6, .int v6)] [] σ := by
  intro n
  induction n with
  | zero =>
    intro v0 v1 v4 v6 σ r σ' hf
    unfold f_X8_scatter_31 at hf
    cases hf
  | succ n ih =>
    intro v0 v1 v4 v6 σ r σ' hf p e s m args below meth c H locs cells slots ls E hR hS hl hc hs
    obtain ⟨hx, hb, hml, hr, hlocks, hown, hts, hin, hT⟩ := id E
    unfold f_X8_scatter_31 at hf
    refine lv_iload hx hb dX8_scatter_31 (lv_at hl 3 rfl) ?_
    refine lv_iload_n hx hb dX8_scatter_33 rfl (lv_at hl 1 rfl) ?_
    refine lv_icmp_ge (tgt := 100) hx hb dX8_scatter_34 (by decide) (fun hq1 => ?_) (fun hq1 => ?_)
    · have hf := ite_p hq1 hf
      refine lv_aload_n hx hb dX8_scatter_100 rfl (lv_at hl 0 rfl) ?_
      obtain ⟨hk2, hf⟩ := zc_s hf
      obtain ⟨b3, hb3, hf⟩ := zr_s hf
      refine x_getR E hR hk2 hb3 ok8 (Nat.le_of_ble_eq_true rfl) rfl fl_X8_19 dX8_scatter_101 ?_
      refine lv_aload_n hx hb dX8_scatter_104 rfl (lv_at hl 0 rfl) ?_
      obtain ⟨b4, hb4, hf⟩ := zr_s hf
      refine x_getR E hR hk2 hb4 ok8 (Nat.le_of_ble_eq_true rfl) rfl fl_X8_12 dX8_scatter_105 ?_
      obtain ⟨hk5, hf⟩ := zc_s hf
      obtain ⟨r6, σ7, hcr6, hf⟩ := zq_s hf
      refine xV (As := [.ref (gB g + b4)]) (rest := []) (st1 := []) E hR hS hl (C_X7_grow hcr6) hk5 ok7 lb_X7_grow lv_X7_grow ml_X8_76 ⟨Nat.le_of_ble_eq_true rfl, Nat.le_of_ble_eq_true rfl⟩ rfl rfl rfl (Nat.le_of_ble_eq_true rfl) dX8_scatter_108 ⟨hc, hs⟩ (fun H locs hR hS => ?_)
      refine lv_aload_n hx hb dX8_scatter_111 rfl (lv_at hl 0 rfl) ?_
      obtain ⟨hk8, hf⟩ := zc_s hf
      obtain ⟨b9, hb9, hf⟩ := zr_s hf
      refine x_getR E hR hk8 hb9 ok8 (Nat.le_of_ble_eq_true rfl) rfl fl_X8_12 dX8_scatter_112 ?_
      obtain ⟨hk10, hf⟩ := zc_s hf
      obtain ⟨r11, σ12, hcr11, hf⟩ := zq_s hf
      refine xV (As := []) (rest := []) (st1 := [.int r11]) E hR hS hl (C_X2_count hcr11) hk10 ok2 lb_X2_count lv_X2_count ml_X8_90 ⟨Nat.le_of_ble_eq_true rfl, Nat.le_of_ble_eq_true rfl⟩ rfl rfl rfl (Nat.le_of_ble_eq_true rfl) dX8_scatter_115 ⟨hc, hs⟩ (fun H locs hR hS => ?_)
      obtain ⟨hr1, hs1⟩ := Prod.mk.inj (Option.some.inj hf)
      exact xr_i E hR hS rfl (by rw [hr1]) hs1.symm hc hs dX8_scatter_118
    · have hf := ite_n hq1 hf
      refine lv_lload hx hb dX8_scatter_37 (lv_at hl 2 rfl) ?_
      refine lv_ldc2 (v := (6364136223846793005 : Int64)) hx hb hown (hts _ kl_X8_86) dX8_scatter_39 ?_
      refine lv_lmul hx hb dX8_scatter_42 ?_
      refine lv_ldc2 (v := (1442695040888963407 : Int64)) hx hb hown (hts _ kl_X8_88) dX8_scatter_43 ?_
      refine lv_ladd hx hb dX8_scatter_46 ?_
      refine lv_lstore (lv' := [(4, .long ((v4 * (6364136223846793005 : Int64)) + (1442695040888963407 : Int64))), (0, .ref (gB g + v0)), (1, .int v1), (6, .int v6)]) hx hb dX8_scatter_47 hl (Nat.le_of_ble_eq_true rfl) rfl (fun ls hl => ?_)
      refine lv_lload hx hb dX8_scatter_49 (lv_at hl 0 rfl) ?_
      refine lv_bipush (v := (33 : Int32)) hx hb dX8_scatter_51 rfl ?_
      refine lv_lushr (v := (((v4 * (6364136223846793005 : Int64)) + (1442695040888963407 : Int64)).toUInt64 >>> ((33 : Int32).toInt64.toUInt64 &&& Int64.toUInt64 63)).toInt64) hx hb dX8_scatter_53 rfl ?_
      refine lv_l2i (v := (((((v4 * (6364136223846793005 : Int64)) + (1442695040888963407 : Int64)).toUInt64 >>> ((33 : Int32).toInt64.toUInt64 &&& Int64.toUInt64 63)).toInt64)).toInt32) hx hb dX8_scatter_54 rfl ?_
      refine lv_istore (lv' := [(7, .int ((((((v4 * (6364136223846793005 : Int64)) + (1442695040888963407 : Int64)).toUInt64 >>> ((33 : Int32).toInt64.toUInt64 &&& Int64.toUInt64 63)).toInt64)).toInt32)), (4, .long ((v4 * (6364136223846793005 : Int64)) + (1442695040888963407 : Int64))), (0, .ref (gB g + v0)), (1, .int v1), (6, .int v6)]) hx hb dX8_scatter_55 hl (Nat.le_of_ble_eq_true rfl) rfl (fun ls hl => ?_)
      refine lv_iload hx hb dX8_scatter_57 (lv_at hl 0 rfl) ?_
      refine lv_bipush (v := (100 : Int32)) hx hb dX8_scatter_59 rfl ?_
      refine lv_irem hx hb dX8_scatter_61 (by decide) ?_
      refine lv_istore (lv' := [(8, .int (((((((v4 * (6364136223846793005 : Int64)) + (1442695040888963407 : Int64)).toUInt64 >>> ((33 : Int32).toInt64.toUInt64 &&& Int64.toUInt64 63)).toInt64)).toInt32) - ((((((v4 * (6364136223846793005 : Int64)) + (1442695040888963407 : Int64)).toUInt64 >>> ((33 : Int32).toInt64.toUInt64 &&& Int64.toUInt64 63)).toInt64)).toInt32) / (100 : Int32) * (100 : Int32))), (7, .int ((((((v4 * (6364136223846793005 : Int64)) + (1442695040888963407 : Int64)).toUInt64 >>> ((33 : Int32).toInt64.toUInt64 &&& Int64.toUInt64 63)).toInt64)).toInt32)), (4, .long ((v4 * (6364136223846793005 : Int64)) + (1442695040888963407 : Int64))), (0, .ref (gB g + v0)), (1, .int v1), (6, .int v6)]) hx hb dX8_scatter_62 hl (Nat.le_of_ble_eq_true rfl) rfl (fun ls hl => ?_)
      refine lv_aload_n hx hb dX8_scatter_64 rfl (lv_at hl 3 rfl) ?_
      obtain ⟨hk13, hf⟩ := zc_s hf
      obtain ⟨b14, hb14, hf⟩ := zr_s hf
      refine x_getR E hR hk13 hb14 ok8 (Nat.le_of_ble_eq_true rfl) rfl fl_X8_12 dX8_scatter_65 ?_
      refine lv_iload hx hb dX8_scatter_68 (lv_at hl 0 rfl) ?_
      obtain ⟨hk15, hf⟩ := zc_s hf
      obtain ⟨r16, σ17, hcr16, hf⟩ := zq_s hf
      refine xV (As := [.int (((((((v4 * (6364136223846793005 : Int64)) + (1442695040888963407 : Int64)).toUInt64 >>> ((33 : Int32).toInt64.toUInt64 &&& Int64.toUInt64 63)).toInt64)).toInt32) - ((((((v4 * (6364136223846793005 : Int64)) + (1442695040888963407 : Int64)).toUInt64 >>> ((33 : Int32).toInt64.toUInt64 &&& Int64.toUInt64 63)).toInt64)).toInt32) / (100 : Int32) * (100 : Int32))]) (rest := []) (st1 := [.int r16]) E hR hS hl (C_X2_hasRoomFor hcr16) hk15 ok2 lb_X2_hasRoomFor lv_X2_hasRoomFor ml_X8_61 ⟨Nat.le_of_ble_eq_true rfl, Nat.le_of_ble_eq_true rfl⟩ rfl rfl rfl (Nat.le_of_ble_eq_true rfl) dX8_scatter_70 ⟨hc, hs⟩ (fun H locs hR hS => ?_)
      refine lv_if_eq (tgt := 94) hx hb dX8_scatter_73 (by decide) (fun hq18 => ?_) (fun hq18 => ?_)
      · have hf := ite_p hq18 hf
        exact V_X8_scatter_94 _ ih _ _ _ _ _ _ _ hf p e s m args below meth c _ _ _ _ _ E hR hS (lv_sub hl [3, 4, 2, 5] rfl) hc hs
      · have hf := ite_n hq18 hf
        refine lv_aload_n hx hb dX8_scatter_76 rfl (lv_at hl 3 rfl) ?_
        obtain ⟨hk19, hf⟩ := zc_s hf
        obtain ⟨b20, hb20, hf⟩ := zr_s hf
        refine x_getR E hR hk19 hb20 ok8 (Nat.le_of_ble_eq_true rfl) rfl fl_X8_12 dX8_scatter_77 ?_
        refine lv_iload hx hb dX8_scatter_80 (lv_at hl 0 rfl) ?_
        refine lv_iload hx hb dX8_scatter_82 (lv_at hl 1 rfl) ?_
        refine lv_sipush (v := (128 : Int32)) hx hb dX8_scatter_84 rfl ?_
        refine lv_idiv hx hb dX8_scatter_87 (by decide) ?_
        refine lv_bipush (v := (100 : Int32)) hx hb dX8_scatter_88 rfl ?_
        refine lv_irem hx hb dX8_scatter_90 (by decide) ?_
        obtain ⟨hk21, hf⟩ := zc_s hf
        obtain ⟨r22, σ23, hcr22, hf⟩ := zq_s hf
        refine xV (As := [.int (((((((v4 * (6364136223846793005 : Int64)) + (1442695040888963407 : Int64)).toUInt64 >>> ((33 : Int32).toInt64.toUInt64 &&& Int64.toUInt64 63)).toInt64)).toInt32) - ((((((v4 * (6364136223846793005 : Int64)) + (1442695040888963407 : Int64)).toUInt64 >>> ((33 : Int32).toInt64.toUInt64 &&& Int64.toUInt64 63)).toInt64)).toInt32) / (100 : Int32) * (100 : Int32)), .int ((((((((v4 * (6364136223846793005 : Int64)) + (1442695040888963407 : Int64)).toUInt64 >>> ((33 : Int32).toInt64.toUInt64 &&& Int64.toUInt64 63)).toInt64)).toInt32) / (128 : Int32)) - (((((((v4 * (6364136223846793005 : Int64)) + (1442695040888963407 : Int64)).toUInt64 >>> ((33 : Int32).toInt64.toUInt64 &&& Int64.toUInt64 63)).toInt64)).toInt32) / (128 : Int32)) / (100 : Int32) * (100 : Int32))]) (rest := []) (st1 := []) E hR hS hl (C_X2_give hcr22) hk21 ok2 lb_X2_give lv_X2_give ml_X8_72 ⟨Nat.le_of_ble_eq_true rfl, Nat.le_of_ble_eq_true rfl⟩ rfl rfl rfl (Nat.le_of_ble_eq_true rfl) dX8_scatter_91 ⟨hc, hs⟩ (fun H locs hR hS => ?_)
        exact V_X8_scatter_94 _ ih _ _ _ _ _ _ _ hf p e s m args below meth c _ _ _ _ _ E hR hS (lv_sub hl [3, 4, 2, 5] rfl) hc hs
set_option maxRecDepth 100000 in
def f_X8_scatter (v0 : Nat) (v1 : Int32) (v2 : Int64) (σ : Mm) : Option (Int32 × Mm) :=
  if v1 < (1 : Int32) then (some ((-2 : Int32), σ)) else (if v1 ≤ (20 : Int32) then (zck (kO σ v0 8) (zrb (mR σ v0 2) (fun b27 => zrb (mR σ v0 0) (fun b28 => zck (kO σ b27 0) (zcb (f_X0_note b27 b28 σ) (fun r30 σ31 => f_X8_scatter_31 1000 v0 v1 v2 (0 : Int32) σ31)))))) else (some ((-2 : Int32), σ)))
set_option maxRecDepth 100000 in
set_option maxHeartbeats 4000000 in
theorem V_X8_scatter_0 {g : GG} (v0 : Nat) (v1 : Int32) (v2 : Int64) (σ : Mm) (r : Int32) (σ' : Mm) (hf : f_X8_scatter v0 v1 v2 σ = some (r, σ')) : VJ g RX8 cX8_scatter 9 (some .int) false rm_X8_scatter (some (.int r)) σ' (0) (0) 0 [(0, .ref (gB g + v0)), (1, .int v1), (2, .long v2)] [] σ := by
  intro p e s m args below meth c H locs cells slots ls E hR hS hl hc hs
  obtain ⟨hx, hb, hml, hr, hlocks, hown, hts, hin, hT⟩ := id E
  unfold f_X8_scatter at hf
  refine lv_iload_n hx hb dX8_scatter_0 rfl (lv_at hl 1 rfl) ?_
  refine lv_iconst (v := (1 : Int32)) hx hb dX8_scatter_1 rfl ?_
  refine lv_icmp_lt (tgt := 11) hx hb dX8_scatter_2 (by decide) (fun hq24 => ?_) (fun hq24 => ?_)
  · have hf := ite_p hq24 hf
    refine lv_bipush (v := (-2 : Int32)) hx hb dX8_scatter_11 rfl ?_
    obtain ⟨hr1, hs1⟩ := Prod.mk.inj (Option.some.inj hf)
    exact xr_i E hR hS rfl (by rw [hr1]) hs1.symm hc hs dX8_scatter_13
  · have hf := ite_n hq24 hf
    refine lv_iload_n hx hb dX8_scatter_5 rfl (lv_at hl 1 rfl) ?_
    refine lv_bipush (v := (20 : Int32)) hx hb dX8_scatter_6 rfl ?_
    refine lv_icmp_le (tgt := 14) hx hb dX8_scatter_8 (by decide) (fun hq25 => ?_) (fun hq25 => ?_)
    · have hf := ite_p hq25 hf
      refine lv_aload_n hx hb dX8_scatter_14 rfl (lv_at hl 0 rfl) ?_
      obtain ⟨hk26, hf⟩ := zc_s hf
      obtain ⟨b27, hb27, hf⟩ := zr_s hf
      refine x_getR E hR hk26 hb27 ok8 (Nat.le_of_ble_eq_true rfl) rfl fl_X8_26 dX8_scatter_15 ?_
      refine lv_aload_n hx hb dX8_scatter_18 rfl (lv_at hl 0 rfl) ?_
      obtain ⟨b28, hb28, hf⟩ := zr_s hf
      refine x_getR E hR hk26 hb28 ok8 (Nat.le_of_ble_eq_true rfl) rfl fl_X8_12 dX8_scatter_19 ?_
      obtain ⟨hk29, hf⟩ := zc_s hf
      obtain ⟨r30, σ31, hcr30, hf⟩ := zq_s hf
      refine xV (As := [.ref (gB g + b28)]) (rest := []) (st1 := []) E hR hS hl (C_X0_note hcr30) hk29 ok0 lb_X0_note lv_X0_note ml_X8_68 ⟨Nat.le_of_ble_eq_true rfl, Nat.le_of_ble_eq_true rfl⟩ rfl rfl rfl (Nat.le_of_ble_eq_true rfl) dX8_scatter_22 ⟨hc, hs⟩ (fun H locs hR hS => ?_)
      refine lv_lload_n hx hb dX8_scatter_25 rfl (lv_at hl 2 rfl) ?_
      refine lv_lstore (lv' := [(4, .long v2), (0, .ref (gB g + v0)), (1, .int v1), (2, .long v2)]) hx hb dX8_scatter_26 hl (Nat.le_of_ble_eq_true rfl) rfl (fun ls hl => ?_)
      refine lv_iconst (v := (0 : Int32)) hx hb dX8_scatter_28 rfl ?_
      refine lv_istore (lv' := [(6, .int (0 : Int32)), (4, .long v2), (0, .ref (gB g + v0)), (1, .int v1), (2, .long v2)]) hx hb dX8_scatter_29 hl (Nat.le_of_ble_eq_true rfl) rfl (fun ls hl => ?_)
      exact V_X8_scatter_31  1000 _ _ _ _ _ _ _ hf p e s m args below meth c _ _ _ _ _ E hR hS (lv_sub hl [2, 3, 1, 0] rfl) hc hs
    · have hf := ite_n hq25 hf
      refine lv_bipush (v := (-2 : Int32)) hx hb dX8_scatter_11 rfl ?_
      obtain ⟨hr1, hs1⟩ := Prod.mk.inj (Option.some.inj hf)
      exact xr_i E hR hS rfl (by rw [hr1]) hs1.symm hc hs dX8_scatter_13
theorem C_X8_scatter {g : GG} {v0 : Nat} {v1 : Int32} {v2 : Int64} {σ : Mm} {r : Int32} {σ' : Mm} (hf : f_X8_scatter v0 v1 v2 σ = some (r, σ')) : Ct g yX8_scatter cX8_scatter 9 (some .int) rm_X8_scatter [.ref (gB g + v0), .int v1, .long v2] σ (some (.int r)) σ' :=
  Ct.of false (by decide +kernel) (fun h => by cases h) (Nat.le_of_ble_eq_true rfl) (V_X8_scatter_0 _ _ _ _ _ _ hf)
abbrev rm_X8_undo : Room := { frames := 4, cells := 0, slots := 0, locals := 94 }
set_option maxRecDepth 100000 in
def f_X8_undo (v0 : Nat) (σ : Mm) : Option (Int32 × Mm) :=
  zck (kO σ v0 8) (zrb (mR σ v0 2) (fun b2 => zck (kO σ b2 0) (zcb (f_X0_count b2 σ) (fun r4 σ5 => if r4 = 0 then (some ((-3 : Int32), σ5)) else (zck (kO σ5 v0 8) (zrb (mR σ5 v0 2) (fun b8 => zrb (mR σ5 v0 0) (fun b9 => zck (kO σ5 b8 0) (zcb (f_X0_takeBack b8 b9 σ5) (fun r11 σ12 => zck (kO σ12 v0 8) (zrb (mR σ12 v0 1) (fun b14 => zrb (mR σ12 v0 0) (fun b15 => zck (kO σ12 b14 7) (zcb (f_X7_grow b14 b15 σ12) (fun r17 σ18 => zck (kO σ18 v0 8) (zrb (mR σ18 v0 2) (fun b20 => zck (kO σ18 b20 0) (zcb (f_X0_count b20 σ18) (fun r22 σ23 => some (r22, σ23))))))))))))))))))))
set_option maxRecDepth 100000 in
set_option maxHeartbeats 4000000 in
theorem V_X8_undo_0 {g : GG} (v0 : Nat) (σ : Mm) (r : Int32) (σ' : Mm) (hf : f_X8_undo v0 σ = some (r, σ')) : VJ g RX8 cX8_undo 1 (some .int) false rm_X8_undo (some (.int r)) σ' (0) (0) 0 [(0, .ref (gB g + v0))] [] σ := by
  intro p e s m args below meth c H locs cells slots ls E hR hS hl hc hs
  obtain ⟨hx, hb, hml, hr, hlocks, hown, hts, hin, hT⟩ := id E
  unfold f_X8_undo at hf
  refine lv_aload_n hx hb dX8_undo_0 rfl (lv_at hl 0 rfl) ?_
  obtain ⟨hk1, hf⟩ := zc_s hf
  obtain ⟨b2, hb2, hf⟩ := zr_s hf
  refine x_getR E hR hk1 hb2 ok8 (Nat.le_of_ble_eq_true rfl) rfl fl_X8_26 dX8_undo_1 ?_
  obtain ⟨hk3, hf⟩ := zc_s hf
  obtain ⟨r4, σ5, hcr4, hf⟩ := zq_s hf
  refine xV (As := []) (rest := []) (st1 := [.int r4]) E hR hS hl (C_X0_count hcr4) hk3 ok0 lb_X0_count lv_X0_count ml_X8_94 ⟨Nat.le_of_ble_eq_true rfl, Nat.le_of_ble_eq_true rfl⟩ rfl rfl rfl (Nat.le_of_ble_eq_true rfl) dX8_undo_4 ⟨hc, hs⟩ (fun H locs hR hS => ?_)
  refine lv_if_ne (tgt := 13) hx hb dX8_undo_7 (by decide) (fun hq6 => ?_) (fun hq6 => ?_)
  · have hf := ite_n hq6 hf
    refine lv_aload_n hx hb dX8_undo_13 rfl (lv_at hl 0 rfl) ?_
    obtain ⟨hk7, hf⟩ := zc_s hf
    obtain ⟨b8, hb8, hf⟩ := zr_s hf
    refine x_getR E hR hk7 hb8 ok8 (Nat.le_of_ble_eq_true rfl) rfl fl_X8_26 dX8_undo_14 ?_
    refine lv_aload_n hx hb dX8_undo_17 rfl (lv_at hl 0 rfl) ?_
    obtain ⟨b9, hb9, hf⟩ := zr_s hf
    refine x_getR E hR hk7 hb9 ok8 (Nat.le_of_ble_eq_true rfl) rfl fl_X8_12 dX8_undo_18 ?_
    obtain ⟨hk10, hf⟩ := zc_s hf
    obtain ⟨r11, σ12, hcr11, hf⟩ := zq_s hf
    refine xV (As := [.ref (gB g + b9)]) (rest := []) (st1 := []) E hR hS hl (C_X0_takeBack hcr11) hk10 ok0 lb_X0_takeBack lv_X0_takeBack ml_X8_95 ⟨Nat.le_of_ble_eq_true rfl, Nat.le_of_ble_eq_true rfl⟩ rfl rfl rfl (Nat.le_of_ble_eq_true rfl) dX8_undo_21 ⟨hc, hs⟩ (fun H locs hR hS => ?_)
    refine lv_aload_n hx hb dX8_undo_24 rfl (lv_at hl 0 rfl) ?_
    obtain ⟨hk13, hf⟩ := zc_s hf
    obtain ⟨b14, hb14, hf⟩ := zr_s hf
    refine x_getR E hR hk13 hb14 ok8 (Nat.le_of_ble_eq_true rfl) rfl fl_X8_19 dX8_undo_25 ?_
    refine lv_aload_n hx hb dX8_undo_28 rfl (lv_at hl 0 rfl) ?_
    obtain ⟨b15, hb15, hf⟩ := zr_s hf
    refine x_getR E hR hk13 hb15 ok8 (Nat.le_of_ble_eq_true rfl) rfl fl_X8_12 dX8_undo_29 ?_
    obtain ⟨hk16, hf⟩ := zc_s hf
    obtain ⟨r17, σ18, hcr17, hf⟩ := zq_s hf
    refine xV (As := [.ref (gB g + b15)]) (rest := []) (st1 := []) E hR hS hl (C_X7_grow hcr17) hk16 ok7 lb_X7_grow lv_X7_grow ml_X8_76 ⟨Nat.le_of_ble_eq_true rfl, Nat.le_of_ble_eq_true rfl⟩ rfl rfl rfl (Nat.le_of_ble_eq_true rfl) dX8_undo_32 ⟨hc, hs⟩ (fun H locs hR hS => ?_)
    refine lv_aload_n hx hb dX8_undo_35 rfl (lv_at hl 0 rfl) ?_
    obtain ⟨hk19, hf⟩ := zc_s hf
    obtain ⟨b20, hb20, hf⟩ := zr_s hf
    refine x_getR E hR hk19 hb20 ok8 (Nat.le_of_ble_eq_true rfl) rfl fl_X8_26 dX8_undo_36 ?_
    obtain ⟨hk21, hf⟩ := zc_s hf
    obtain ⟨r22, σ23, hcr22, hf⟩ := zq_s hf
    refine xV (As := []) (rest := []) (st1 := [.int r22]) E hR hS hl (C_X0_count hcr22) hk21 ok0 lb_X0_count lv_X0_count ml_X8_94 ⟨Nat.le_of_ble_eq_true rfl, Nat.le_of_ble_eq_true rfl⟩ rfl rfl rfl (Nat.le_of_ble_eq_true rfl) dX8_undo_39 ⟨hc, hs⟩ (fun H locs hR hS => ?_)
    obtain ⟨hr1, hs1⟩ := Prod.mk.inj (Option.some.inj hf)
    exact xr_i E hR hS rfl (by rw [hr1]) hs1.symm hc hs dX8_undo_42
  · have hf := ite_p hq6 hf
    refine lv_bipush (v := (-3 : Int32)) hx hb dX8_undo_10 rfl ?_
    obtain ⟨hr1, hs1⟩ := Prod.mk.inj (Option.some.inj hf)
    exact xr_i E hR hS rfl (by rw [hr1]) hs1.symm hc hs dX8_undo_12
theorem C_X8_undo {g : GG} {v0 : Nat} {σ : Mm} {r : Int32} {σ' : Mm} (hf : f_X8_undo v0 σ = some (r, σ')) : Ct g yX8_undo cX8_undo 1 (some .int) rm_X8_undo [.ref (gB g + v0)] σ (some (.int r)) σ' :=
  Ct.of false (by decide +kernel) (fun h => by cases h) (Nat.le_of_ble_eq_true rfl) (V_X8_undo_0 _ _ _ _ hf)
abbrev rm_X8_about : Room := { frames := 5, cells := 0, slots := 0, locals := 109 }
set_option maxRecDepth 100000 in
def f_X8_about (v0 : Nat) (v1 : Int32) (σ : Mm) : Option (Int32 × Mm) :=
  if v1 = (0 : Int32) then (zck (kO σ v0 8) (zrb (mR σ v0 0) (fun b4 => zck (kO σ b4 2) (zcb (f_X2_count b4 σ) (fun r6 σ7 => some (r6, σ7)))))) else (if v1 = (1 : Int32) then (zck (kO σ v0 8) (zrb (mR σ v0 1) (fun b10 => zck (kO σ b10 7) (zcb (f_X7_rootDigest b10 σ) (fun r12 σ13 => some (r12, σ13)))))) else (if v1 = (2 : Int32) then (zck (kO σ v0 8) (zrb (mR σ v0 1) (fun b16 => zck (kO σ b16 7) (zcb (f_X7_height b16 σ) (fun r18 σ19 => some (r18, σ19)))))) else (if v1 = (3 : Int32) then (zck (kO σ v0 8) (zrb (mR σ v0 0) (fun b22 => zck (kO σ b22 2) (zcb (f_X2_sumWithin b22 (0 : Int32) (99 : Int32) σ) (fun r24 σ25 => some (r24, σ25)))))) else (if v1 = (4 : Int32) then (zck (kO σ v0 8) (zrb (mR σ v0 2) (fun b28 => zck (kO σ b28 0) (zcb (f_X0_count b28 σ) (fun r30 σ31 => some (r30, σ31)))))) else (if v1 = (5 : Int32) then (zck (kO σ v0 8) (zrb (mR σ v0 3) (fun b34 => zck (kO σ b34 5) (zcb (f_X5_row b34 σ) (fun r36 σ37 => zck (kO σ37 r36 1) (zcb (f_X1_count r36 σ37) (fun r39 σ40 => some (r39, σ40)))))))) else (if v1 = (6 : Int32) then (zck (kO σ v0 8) (zrb (mR σ v0 3) (fun b43 => zck (kO σ b43 5) (zcb (f_X5_trusted b43 σ) (fun r45 σ46 => some (r45, σ46)))))) else (if v1 = (7 : Int32) then (zck (kO σ v0 8) (zrb (mR σ v0 3) (fun b49 => zck (kO σ b49 5) (zcb (f_X5_formerCount b49 σ) (fun r51 σ52 => some (r51, σ52)))))) else (some ((-2 : Int32), σ)))))))))
set_option maxRecDepth 100000 in
set_option maxHeartbeats 4000000 in
theorem V_X8_about_0 {g : GG} (v0 : Nat) (v1 : Int32) (σ : Mm) (r : Int32) (σ' : Mm) (hf : f_X8_about v0 v1 σ = some (r, σ')) : VJ g RX8 cX8_about 2 (some .int) false rm_X8_about (some (.int r)) σ' (0) (0) 0 [(0, .ref (gB g + v0)), (1, .int v1)] [] σ := by
  intro p e s m args below meth c H locs cells slots ls E hR hS hl hc hs
  obtain ⟨hx, hb, hml, hr, hlocks, hown, hts, hin, hT⟩ := id E
  unfold f_X8_about at hf
  refine lv_iload_n hx hb dX8_about_0 rfl (lv_at hl 1 rfl) ?_
  refine lv_topi (fun x1 ex => ?_)
  subst ex
  by_cases hq2 : x1 = (0 : Int32)
  · have hf := ite_p hq2 hf
    refine lv_tableIn (tgt := 48) (off := 47) hx hb dX8_about_1 (by rw [hq2]; decide) (by rw [hq2]; decide) (by rw [hq2]; decide) (by decide) ?_
    refine lv_aload_n hx hb dX8_about_48 rfl (lv_at hl 0 rfl) ?_
    obtain ⟨hk3, hf⟩ := zc_s hf
    obtain ⟨b4, hb4, hf⟩ := zr_s hf
    refine x_getR E hR hk3 hb4 ok8 (Nat.le_of_ble_eq_true rfl) rfl fl_X8_12 dX8_about_49 ?_
    obtain ⟨hk5, hf⟩ := zc_s hf
    obtain ⟨r6, σ7, hcr6, hf⟩ := zq_s hf
    refine xV (As := []) (rest := []) (st1 := [.int r6]) E hR hS hl (C_X2_count hcr6) hk5 ok2 lb_X2_count lv_X2_count ml_X8_90 ⟨Nat.le_of_ble_eq_true rfl, Nat.le_of_ble_eq_true rfl⟩ rfl rfl rfl (Nat.le_of_ble_eq_true rfl) dX8_about_52 ⟨hc, hs⟩ (fun H locs hR hS => ?_)
    obtain ⟨hr1, hs1⟩ := Prod.mk.inj (Option.some.inj hf)
    exact xr_i E hR hS rfl (by rw [hr1]) hs1.symm hc hs dX8_about_55
  have hf := ite_n hq2 hf
  by_cases hq8 : x1 = (1 : Int32)
  · have hf := ite_p hq8 hf
    refine lv_tableIn (tgt := 56) (off := 55) hx hb dX8_about_1 (by rw [hq8]; decide) (by rw [hq8]; decide) (by rw [hq8]; decide) (by decide) ?_
    refine lv_aload_n hx hb dX8_about_56 rfl (lv_at hl 0 rfl) ?_
    obtain ⟨hk9, hf⟩ := zc_s hf
    obtain ⟨b10, hb10, hf⟩ := zr_s hf
    refine x_getR E hR hk9 hb10 ok8 (Nat.le_of_ble_eq_true rfl) rfl fl_X8_19 dX8_about_57 ?_
    obtain ⟨hk11, hf⟩ := zc_s hf
    obtain ⟨r12, σ13, hcr12, hf⟩ := zq_s hf
    refine xV (As := []) (rest := []) (st1 := [.int r12]) E hR hS hl (C_X7_rootDigest hcr12) hk11 ok7 lb_X7_rootDigest lv_X7_rootDigest ml_X8_98 ⟨Nat.le_of_ble_eq_true rfl, Nat.le_of_ble_eq_true rfl⟩ rfl rfl rfl (Nat.le_of_ble_eq_true rfl) dX8_about_60 ⟨hc, hs⟩ (fun H locs hR hS => ?_)
    obtain ⟨hr1, hs1⟩ := Prod.mk.inj (Option.some.inj hf)
    exact xr_i E hR hS rfl (by rw [hr1]) hs1.symm hc hs dX8_about_63
  have hf := ite_n hq8 hf
  by_cases hq14 : x1 = (2 : Int32)
  · have hf := ite_p hq14 hf
    refine lv_tableIn (tgt := 64) (off := 63) hx hb dX8_about_1 (by rw [hq14]; decide) (by rw [hq14]; decide) (by rw [hq14]; decide) (by decide) ?_
    refine lv_aload_n hx hb dX8_about_64 rfl (lv_at hl 0 rfl) ?_
    obtain ⟨hk15, hf⟩ := zc_s hf
    obtain ⟨b16, hb16, hf⟩ := zr_s hf
    refine x_getR E hR hk15 hb16 ok8 (Nat.le_of_ble_eq_true rfl) rfl fl_X8_19 dX8_about_65 ?_
    obtain ⟨hk17, hf⟩ := zc_s hf
    obtain ⟨r18, σ19, hcr18, hf⟩ := zq_s hf
    refine xV (As := []) (rest := []) (st1 := [.int r18]) E hR hS hl (C_X7_height hcr18) hk17 ok7 lb_X7_height lv_X7_height ml_X8_101 ⟨Nat.le_of_ble_eq_true rfl, Nat.le_of_ble_eq_true rfl⟩ rfl rfl rfl (Nat.le_of_ble_eq_true rfl) dX8_about_68 ⟨hc, hs⟩ (fun H locs hR hS => ?_)
    obtain ⟨hr1, hs1⟩ := Prod.mk.inj (Option.some.inj hf)
    exact xr_i E hR hS rfl (by rw [hr1]) hs1.symm hc hs dX8_about_71
  have hf := ite_n hq14 hf
  by_cases hq20 : x1 = (3 : Int32)
  · have hf := ite_p hq20 hf
    refine lv_tableIn (tgt := 72) (off := 71) hx hb dX8_about_1 (by rw [hq20]; decide) (by rw [hq20]; decide) (by rw [hq20]; decide) (by decide) ?_
    refine lv_aload_n hx hb dX8_about_72 rfl (lv_at hl 0 rfl) ?_
    obtain ⟨hk21, hf⟩ := zc_s hf
    obtain ⟨b22, hb22, hf⟩ := zr_s hf
    refine x_getR E hR hk21 hb22 ok8 (Nat.le_of_ble_eq_true rfl) rfl fl_X8_12 dX8_about_73 ?_
    refine lv_iconst (v := (0 : Int32)) hx hb dX8_about_76 rfl ?_
    refine lv_bipush (v := (99 : Int32)) hx hb dX8_about_77 rfl ?_
    obtain ⟨hk23, hf⟩ := zc_s hf
    obtain ⟨r24, σ25, hcr24, hf⟩ := zq_s hf
    refine xV (As := [.int (0 : Int32), .int (99 : Int32)]) (rest := []) (st1 := [.int r24]) E hR hS hl (C_X2_sumWithin hcr24) hk23 ok2 lb_X2_sumWithin lv_X2_sumWithin ml_X8_104 ⟨Nat.le_of_ble_eq_true rfl, Nat.le_of_ble_eq_true rfl⟩ rfl rfl rfl (Nat.le_of_ble_eq_true rfl) dX8_about_79 ⟨hc, hs⟩ (fun H locs hR hS => ?_)
    obtain ⟨hr1, hs1⟩ := Prod.mk.inj (Option.some.inj hf)
    exact xr_i E hR hS rfl (by rw [hr1]) hs1.symm hc hs dX8_about_82
  have hf := ite_n hq20 hf
  by_cases hq26 : x1 = (4 : Int32)
  · have hf := ite_p hq26 hf
    refine lv_tableIn (tgt := 83) (off := 82) hx hb dX8_about_1 (by rw [hq26]; decide) (by rw [hq26]; decide) (by rw [hq26]; decide) (by decide) ?_
    refine lv_aload_n hx hb dX8_about_83 rfl (lv_at hl 0 rfl) ?_
    obtain ⟨hk27, hf⟩ := zc_s hf
    obtain ⟨b28, hb28, hf⟩ := zr_s hf
    refine x_getR E hR hk27 hb28 ok8 (Nat.le_of_ble_eq_true rfl) rfl fl_X8_26 dX8_about_84 ?_
    obtain ⟨hk29, hf⟩ := zc_s hf
    obtain ⟨r30, σ31, hcr30, hf⟩ := zq_s hf
    refine xV (As := []) (rest := []) (st1 := [.int r30]) E hR hS hl (C_X0_count hcr30) hk29 ok0 lb_X0_count lv_X0_count ml_X8_94 ⟨Nat.le_of_ble_eq_true rfl, Nat.le_of_ble_eq_true rfl⟩ rfl rfl rfl (Nat.le_of_ble_eq_true rfl) dX8_about_87 ⟨hc, hs⟩ (fun H locs hR hS => ?_)
    obtain ⟨hr1, hs1⟩ := Prod.mk.inj (Option.some.inj hf)
    exact xr_i E hR hS rfl (by rw [hr1]) hs1.symm hc hs dX8_about_90
  have hf := ite_n hq26 hf
  by_cases hq32 : x1 = (5 : Int32)
  · have hf := ite_p hq32 hf
    refine lv_tableIn (tgt := 91) (off := 90) hx hb dX8_about_1 (by rw [hq32]; decide) (by rw [hq32]; decide) (by rw [hq32]; decide) (by decide) ?_
    refine lv_aload_n hx hb dX8_about_91 rfl (lv_at hl 0 rfl) ?_
    obtain ⟨hk33, hf⟩ := zc_s hf
    obtain ⟨b34, hb34, hf⟩ := zr_s hf
    refine x_getR E hR hk33 hb34 ok8 (Nat.le_of_ble_eq_true rfl) rfl fl_X8_33 dX8_about_92 ?_
    obtain ⟨hk35, hf⟩ := zc_s hf
    obtain ⟨r36, σ37, hcr36, hf⟩ := zq_s hf
    refine xV (As := []) (rest := []) (st1 := [.ref (gB g + r36)]) E hR hS hl (C_X5_row hcr36) hk35 ok5 lb_X5_row lv_X5_row ml_X8_108 ⟨Nat.le_of_ble_eq_true rfl, Nat.le_of_ble_eq_true rfl⟩ rfl rfl rfl (Nat.le_of_ble_eq_true rfl) dX8_about_95 ⟨hc, hs⟩ (fun H locs hR hS => ?_)
    obtain ⟨hk38, hf⟩ := zc_s hf
    obtain ⟨r39, σ40, hcr39, hf⟩ := zq_s hf
    refine xV (As := []) (rest := []) (st1 := [.int r39]) E hR hS hl (C_X1_count hcr39) hk38 ok1 lb_X1_count lv_X1_count ml_X8_112 ⟨Nat.le_of_ble_eq_true rfl, Nat.le_of_ble_eq_true rfl⟩ rfl rfl rfl (Nat.le_of_ble_eq_true rfl) dX8_about_98 ⟨hc, hs⟩ (fun H locs hR hS => ?_)
    obtain ⟨hr1, hs1⟩ := Prod.mk.inj (Option.some.inj hf)
    exact xr_i E hR hS rfl (by rw [hr1]) hs1.symm hc hs dX8_about_101
  have hf := ite_n hq32 hf
  by_cases hq41 : x1 = (6 : Int32)
  · have hf := ite_p hq41 hf
    refine lv_tableIn (tgt := 102) (off := 101) hx hb dX8_about_1 (by rw [hq41]; decide) (by rw [hq41]; decide) (by rw [hq41]; decide) (by decide) ?_
    refine lv_aload_n hx hb dX8_about_102 rfl (lv_at hl 0 rfl) ?_
    obtain ⟨hk42, hf⟩ := zc_s hf
    obtain ⟨b43, hb43, hf⟩ := zr_s hf
    refine x_getR E hR hk42 hb43 ok8 (Nat.le_of_ble_eq_true rfl) rfl fl_X8_33 dX8_about_103 ?_
    obtain ⟨hk44, hf⟩ := zc_s hf
    obtain ⟨r45, σ46, hcr45, hf⟩ := zq_s hf
    refine xV (As := []) (rest := []) (st1 := [.int r45]) E hR hS hl (C_X5_trusted hcr45) hk44 ok5 lb_X5_trusted lv_X5_trusted ml_X8_113 ⟨Nat.le_of_ble_eq_true rfl, Nat.le_of_ble_eq_true rfl⟩ rfl rfl rfl (Nat.le_of_ble_eq_true rfl) dX8_about_106 ⟨hc, hs⟩ (fun H locs hR hS => ?_)
    obtain ⟨hr1, hs1⟩ := Prod.mk.inj (Option.some.inj hf)
    exact xr_i E hR hS rfl (by rw [hr1]) hs1.symm hc hs dX8_about_109
  have hf := ite_n hq41 hf
  by_cases hq47 : x1 = (7 : Int32)
  · have hf := ite_p hq47 hf
    refine lv_tableIn (tgt := 110) (off := 109) hx hb dX8_about_1 (by rw [hq47]; decide) (by rw [hq47]; decide) (by rw [hq47]; decide) (by decide) ?_
    refine lv_aload_n hx hb dX8_about_110 rfl (lv_at hl 0 rfl) ?_
    obtain ⟨hk48, hf⟩ := zc_s hf
    obtain ⟨b49, hb49, hf⟩ := zr_s hf
    refine x_getR E hR hk48 hb49 ok8 (Nat.le_of_ble_eq_true rfl) rfl fl_X8_33 dX8_about_111 ?_
    obtain ⟨hk50, hf⟩ := zc_s hf
    obtain ⟨r51, σ52, hcr51, hf⟩ := zq_s hf
    refine xV (As := []) (rest := []) (st1 := [.int r51]) E hR hS hl (C_X5_formerCount hcr51) hk50 ok5 lb_X5_formerCount lv_X5_formerCount ml_X8_116 ⟨Nat.le_of_ble_eq_true rfl, Nat.le_of_ble_eq_true rfl⟩ rfl rfl rfl (Nat.le_of_ble_eq_true rfl) dX8_about_114 ⟨hc, hs⟩ (fun H locs hR hS => ?_)
    obtain ⟨hr1, hs1⟩ := Prod.mk.inj (Option.some.inj hf)
    exact xr_i E hR hS rfl (by rw [hr1]) hs1.symm hc hs dX8_about_117
  have hf := ite_n hq47 hf
  refine lv_tableOut (tgt := 118) hx hb dX8_about_1 (sw_out (fun j h1 h2 => by
      have hj : j = 0 ∨ j = 1 ∨ j = 2 ∨ j = 3 ∨ j = 4 ∨ j = 5 ∨ j = 6 ∨ j = 7 := by omega
      rcases hj with rfl | rfl | rfl | rfl | rfl | rfl | rfl | rfl
      · exact hq2
      · exact hq8
      · exact hq14
      · exact hq20
      · exact hq26
      · exact hq32
      · exact hq41
      · exact hq47
      )) (by decide) ?_
  refine lv_bipush (v := (-2 : Int32)) hx hb dX8_about_118 rfl ?_
  obtain ⟨hr1, hs1⟩ := Prod.mk.inj (Option.some.inj hf)
  exact xr_i E hR hS rfl (by rw [hr1]) hs1.symm hc hs dX8_about_120
theorem C_X8_about {g : GG} {v0 : Nat} {v1 : Int32} {σ : Mm} {r : Int32} {σ' : Mm} (hf : f_X8_about v0 v1 σ = some (r, σ')) : Ct g yX8_about cX8_about 2 (some .int) rm_X8_about [.ref (gB g + v0), .int v1] σ (some (.int r)) σ' :=
  Ct.of false (by decide +kernel) (fun h => by cases h) (Nat.le_of_ble_eq_true rfl) (V_X8_about_0 _ _ _ _ _ hf)
abbrev rm_X8_node : Room := { frames := 4, cells := 1, slots := 4, locals := 90 }
set_option maxRecDepth 100000 in
def f_X8_node (v0 : Nat) (v1 : Int32) (v2 : Int32) (σ : Mm) : Option (Int32 × Mm) :=
  zck (kO σ v0 8) (zrb (mR σ v0 0) (fun b2 => zck (kO σ b2 2) (zcb (f_X2_has b2 v1 σ) (fun r4 σ5 => if r4 = 0 then (some ((-1 : Int32), σ5)) else (zck (kO σ5 v0 8) (zrb (mR σ5 v0 1) (fun b8 => zck (kO σ5 b8 7) (zcb (f_X7_placeOf b8 v1 σ5) (fun r10 σ11 => if v2 = (0 : Int32) then (zck (kO σ11 r10 4) (some ((mD σ11 r10 0), σ11))) else (if v2 = (1 : Int32) then (zck (kO σ11 r10 4) (some ((mD σ11 r10 1), σ11))) else (if v2 = (2 : Int32) then (zck (kO σ11 v0 8) (zrb (mR σ11 v0 1) (fun b19 => zck (kO σ11 b19 7) (zcb (f_X7_leftOf b19 v1 σ11) (fun r21 σ22 => some (r21, σ22)))))) else (if v2 = (3 : Int32) then (zck (kO σ11 v0 8) (zrb (mR σ11 v0 1) (fun b25 => zck (kO σ11 b25 7) (zcb (f_X7_rightOf b25 v1 σ11) (fun r27 σ28 => some (r27, σ28)))))) else (if v2 = (4 : Int32) then (zck (kO σ11 v0 8) (zrb (mR σ11 v0 0) (fun b31 => zck (kO σ11 r10 4) (zck (kO σ11 b31 2) (zcb (f_X2_countWithin b31 (mD σ11 r10 2) (mD σ11 r10 3) σ11) (fun r34 σ35 => some (r34, σ35))))))) else (if v2 = (5 : Int32) then (zck (kO σ11 v0 8) (zrb (mR σ11 v0 1) (fun b38 => zck (kO σ11 b38 7) (zcb (f_X7_digestOf b38 v1 σ11) (fun r40 σ41 => some (r40, σ41)))))) else (if v2 = (6 : Int32) then (zck (kO σ11 r10 4) (some ((mD σ11 r10 2), σ11))) else (if v2 = (7 : Int32) then (zck (kO σ11 r10 4) (some ((mD σ11 r10 3), σ11))) else (some ((-2 : Int32), σ11))))))))))))))))))
set_option maxRecDepth 100000 in
set_option maxHeartbeats 4000000 in
theorem V_X8_node_0 {g : GG} (v0 : Nat) (v1 : Int32) (v2 : Int32) (σ : Mm) (r : Int32) (σ' : Mm) (hf : f_X8_node v0 v1 v2 σ = some (r, σ')) (kc ks : Nat) (hqe : 1 ≤ kc ∧ 4 ≤ ks) : VJ g RX8 cX8_node 4 (some .int) false rm_X8_node (some (.int r)) σ' (kc) (ks) 0 [(0, .ref (gB g + v0)), (1, .int v1), (2, .int v2)] [] σ := by
  intro p e s m args below meth c H locs cells slots ls E hR hS hl hc hs
  have hc : cells + kc ≤ 1 := hc
  have hs : slots + ks ≤ 4 := hs
  obtain ⟨hx, hb, hml, hr, hlocks, hown, hts, hin, hT⟩ := id E
  unfold f_X8_node at hf
  refine lv_aload_n hx hb dX8_node_0 rfl (lv_at hl 0 rfl) ?_
  obtain ⟨hk1, hf⟩ := zc_s hf
  obtain ⟨b2, hb2, hf⟩ := zr_s hf
  refine x_getR E hR hk1 hb2 ok8 (Nat.le_of_ble_eq_true rfl) rfl fl_X8_12 dX8_node_1 ?_
  refine lv_iload_n hx hb dX8_node_4 rfl (lv_at hl 1 rfl) ?_
  obtain ⟨hk3, hf⟩ := zc_s hf
  obtain ⟨r4, σ5, hcr4, hf⟩ := zq_s hf
  refine xV (As := [.int v1]) (rest := []) (st1 := [.int r4]) E hR hS hl (C_X2_has hcr4) hk3 ok2 lb_X2_has lv_X2_has ml_X8_79 ⟨Nat.le_of_ble_eq_true rfl, Nat.le_of_ble_eq_true rfl⟩ rfl rfl rfl (Nat.le_of_ble_eq_true rfl) dX8_node_5 ⟨show cells + 0 ≤ 1 by omega, show slots + 0 ≤ 4 by omega⟩ (fun H locs hR hS => ?_)
  refine lv_if_ne (tgt := 13) hx hb dX8_node_8 (by decide) (fun hq6 => ?_) (fun hq6 => ?_)
  · have hf := ite_n hq6 hf
    refine lv_aload_n hx hb dX8_node_13 rfl (lv_at hl 0 rfl) ?_
    obtain ⟨hk7, hf⟩ := zc_s hf
    obtain ⟨b8, hb8, hf⟩ := zr_s hf
    refine x_getR E hR hk7 hb8 ok8 (Nat.le_of_ble_eq_true rfl) rfl fl_X8_19 dX8_node_14 ?_
    refine lv_iload_n hx hb dX8_node_17 rfl (lv_at hl 1 rfl) ?_
    obtain ⟨hk9, hf⟩ := zc_s hf
    obtain ⟨r10, σ11, hcr10, hf⟩ := zq_s hf
    refine xV (As := [.int v1]) (rest := []) (st1 := [.ref (gB g + r10)]) E hR hS hl (C_X7_placeOf hcr10) hk9 ok7 lb_X7_placeOf lv_X7_placeOf ml_X8_119 ⟨Nat.le_of_ble_eq_true rfl, Nat.le_of_ble_eq_true rfl⟩ rfl rfl rfl (Nat.le_of_ble_eq_true rfl) dX8_node_18 ⟨show cells + 0 + 1 ≤ 1 by omega, show slots + 0 + 4 ≤ 4 by omega⟩ (fun H locs hR hS => ?_)
    refine lv_astore_n (lv' := [(3, .ref (gB g + r10)), (0, .ref (gB g + v0)), (1, .int v1), (2, .int v2)]) hx hb dX8_node_21 rfl hl (Nat.le_of_ble_eq_true rfl) rfl (fun ls hl => ?_)
    refine lv_iload_n hx hb dX8_node_22 rfl (lv_at hl 3 rfl) ?_
    refine lv_topi (fun x12 ex => ?_)
    subst ex
    by_cases hq13 : x12 = (0 : Int32)
    · have hf := ite_p hq13 hf
      refine lv_tableIn (tgt := 68) (off := 45) hx hb dX8_node_23 (by rw [hq13]; decide) (by rw [hq13]; decide) (by rw [hq13]; decide) (by decide) ?_
      refine lv_aload_n hx hb dX8_node_68 rfl (lv_at hl 0 rfl) ?_
      obtain ⟨hk14, hf⟩ := zc_s hf
      refine x_getI E hR hk14 ok4 0 (Nat.le_of_ble_eq_true rfl) rfl fl_X8_123 dX8_node_69 ?_
      obtain ⟨hr1, hs1⟩ := Prod.mk.inj (Option.some.inj hf)
      exact xr_i E hR hS rfl (by rw [hr1]) hs1.symm (show cells + 0 + 1 ≤ 1 by omega) (show slots + 0 + 4 ≤ 4 by omega) dX8_node_72
    have hf := ite_n hq13 hf
    by_cases hq15 : x12 = (1 : Int32)
    · have hf := ite_p hq15 hf
      refine lv_tableIn (tgt := 73) (off := 50) hx hb dX8_node_23 (by rw [hq15]; decide) (by rw [hq15]; decide) (by rw [hq15]; decide) (by decide) ?_
      refine lv_aload_n hx hb dX8_node_73 rfl (lv_at hl 0 rfl) ?_
      obtain ⟨hk16, hf⟩ := zc_s hf
      refine x_getI E hR hk16 ok4 1 (Nat.le_of_ble_eq_true rfl) rfl fl_X8_129 dX8_node_74 ?_
      obtain ⟨hr1, hs1⟩ := Prod.mk.inj (Option.some.inj hf)
      exact xr_i E hR hS rfl (by rw [hr1]) hs1.symm (show cells + 0 + 1 ≤ 1 by omega) (show slots + 0 + 4 ≤ 4 by omega) dX8_node_77
    have hf := ite_n hq15 hf
    by_cases hq17 : x12 = (2 : Int32)
    · have hf := ite_p hq17 hf
      refine lv_tableIn (tgt := 78) (off := 55) hx hb dX8_node_23 (by rw [hq17]; decide) (by rw [hq17]; decide) (by rw [hq17]; decide) (by decide) ?_
      refine lv_aload_n hx hb dX8_node_78 rfl (lv_at hl 1 rfl) ?_
      obtain ⟨hk18, hf⟩ := zc_s hf
      obtain ⟨b19, hb19, hf⟩ := zr_s hf
      refine x_getR E hR hk18 hb19 ok8 (Nat.le_of_ble_eq_true rfl) rfl fl_X8_19 dX8_node_79 ?_
      refine lv_iload_n hx hb dX8_node_82 rfl (lv_at hl 2 rfl) ?_
      obtain ⟨hk20, hf⟩ := zc_s hf
      obtain ⟨r21, σ22, hcr21, hf⟩ := zq_s hf
      refine xV (As := [.int v1]) (rest := []) (st1 := [.int r21]) E hR hS hl (C_X7_leftOf hcr21) hk20 ok7 lb_X7_leftOf lv_X7_leftOf ml_X8_132 ⟨Nat.le_of_ble_eq_true rfl, Nat.le_of_ble_eq_true rfl⟩ rfl rfl rfl (Nat.le_of_ble_eq_true rfl) dX8_node_83 ⟨show cells + 0 + 1 + 0 ≤ 1 by omega, show slots + 0 + 4 + 0 ≤ 4 by omega⟩ (fun H locs hR hS => ?_)
      obtain ⟨hr1, hs1⟩ := Prod.mk.inj (Option.some.inj hf)
      exact xr_i E hR hS rfl (by rw [hr1]) hs1.symm (show cells + 0 + 1 + 0 ≤ 1 by omega) (show slots + 0 + 4 + 0 ≤ 4 by omega) dX8_node_86
    have hf := ite_n hq17 hf
    by_cases hq23 : x12 = (3 : Int32)
    · have hf := ite_p hq23 hf
      refine lv_tableIn (tgt := 87) (off := 64) hx hb dX8_node_23 (by rw [hq23]; decide) (by rw [hq23]; decide) (by rw [hq23]; decide) (by decide) ?_
      refine lv_aload_n hx hb dX8_node_87 rfl (lv_at hl 1 rfl) ?_
      obtain ⟨hk24, hf⟩ := zc_s hf
      obtain ⟨b25, hb25, hf⟩ := zr_s hf
      refine x_getR E hR hk24 hb25 ok8 (Nat.le_of_ble_eq_true rfl) rfl fl_X8_19 dX8_node_88 ?_
      refine lv_iload_n hx hb dX8_node_91 rfl (lv_at hl 2 rfl) ?_
      obtain ⟨hk26, hf⟩ := zc_s hf
      obtain ⟨r27, σ28, hcr27, hf⟩ := zq_s hf
      refine xV (As := [.int v1]) (rest := []) (st1 := [.int r27]) E hR hS hl (C_X7_rightOf hcr27) hk26 ok7 lb_X7_rightOf lv_X7_rightOf ml_X8_135 ⟨Nat.le_of_ble_eq_true rfl, Nat.le_of_ble_eq_true rfl⟩ rfl rfl rfl (Nat.le_of_ble_eq_true rfl) dX8_node_92 ⟨show cells + 0 + 1 + 0 ≤ 1 by omega, show slots + 0 + 4 + 0 ≤ 4 by omega⟩ (fun H locs hR hS => ?_)
      obtain ⟨hr1, hs1⟩ := Prod.mk.inj (Option.some.inj hf)
      exact xr_i E hR hS rfl (by rw [hr1]) hs1.symm (show cells + 0 + 1 + 0 ≤ 1 by omega) (show slots + 0 + 4 + 0 ≤ 4 by omega) dX8_node_95
    have hf := ite_n hq23 hf
    by_cases hq29 : x12 = (4 : Int32)
    · have hf := ite_p hq29 hf
      refine lv_tableIn (tgt := 96) (off := 73) hx hb dX8_node_23 (by rw [hq29]; decide) (by rw [hq29]; decide) (by rw [hq29]; decide) (by decide) ?_
      refine lv_aload_n hx hb dX8_node_96 rfl (lv_at hl 1 rfl) ?_
      obtain ⟨hk30, hf⟩ := zc_s hf
      obtain ⟨b31, hb31, hf⟩ := zr_s hf
      refine x_getR E hR hk30 hb31 ok8 (Nat.le_of_ble_eq_true rfl) rfl fl_X8_12 dX8_node_97 ?_
      refine lv_aload_n hx hb dX8_node_100 rfl (lv_at hl 0 rfl) ?_
      obtain ⟨hk32, hf⟩ := zc_s hf
      refine x_getI E hR hk32 ok4 2 (Nat.le_of_ble_eq_true rfl) rfl fl_X8_138 dX8_node_101 ?_
      refine lv_aload_n hx hb dX8_node_104 rfl (lv_at hl 0 rfl) ?_
      refine x_getI E hR hk32 ok4 3 (Nat.le_of_ble_eq_true rfl) rfl fl_X8_141 dX8_node_105 ?_
      obtain ⟨hk33, hf⟩ := zc_s hf
      obtain ⟨r34, σ35, hcr34, hf⟩ := zq_s hf
      refine xV (As := [.int (mD σ11 r10 2), .int (mD σ11 r10 3)]) (rest := []) (st1 := [.int r34]) E hR hS hl (C_X2_countWithin hcr34) hk33 ok2 lb_X2_countWithin lv_X2_countWithin ml_X8_144 ⟨Nat.le_of_ble_eq_true rfl, Nat.le_of_ble_eq_true rfl⟩ rfl rfl rfl (Nat.le_of_ble_eq_true rfl) dX8_node_108 ⟨show cells + 0 + 1 + 0 ≤ 1 by omega, show slots + 0 + 4 + 0 ≤ 4 by omega⟩ (fun H locs hR hS => ?_)
      obtain ⟨hr1, hs1⟩ := Prod.mk.inj (Option.some.inj hf)
      exact xr_i E hR hS rfl (by rw [hr1]) hs1.symm (show cells + 0 + 1 + 0 ≤ 1 by omega) (show slots + 0 + 4 + 0 ≤ 4 by omega) dX8_node_111
    have hf := ite_n hq29 hf
    by_cases hq36 : x12 = (5 : Int32)
    · have hf := ite_p hq36 hf
      refine lv_tableIn (tgt := 112) (off := 89) hx hb dX8_node_23 (by rw [hq36]; decide) (by rw [hq36]; decide) (by rw [hq36]; decide) (by decide) ?_
      refine lv_aload_n hx hb dX8_node_112 rfl (lv_at hl 1 rfl) ?_
      obtain ⟨hk37, hf⟩ := zc_s hf
      obtain ⟨b38, hb38, hf⟩ := zr_s hf
      refine x_getR E hR hk37 hb38 ok8 (Nat.le_of_ble_eq_true rfl) rfl fl_X8_19 dX8_node_113 ?_
      refine lv_iload_n hx hb dX8_node_116 rfl (lv_at hl 2 rfl) ?_
      obtain ⟨hk39, hf⟩ := zc_s hf
      obtain ⟨r40, σ41, hcr40, hf⟩ := zq_s hf
      refine xV (As := [.int v1]) (rest := []) (st1 := [.int r40]) E hR hS hl (C_X7_digestOf hcr40) hk39 ok7 lb_X7_digestOf lv_X7_digestOf ml_X8_147 ⟨Nat.le_of_ble_eq_true rfl, Nat.le_of_ble_eq_true rfl⟩ rfl rfl rfl (Nat.le_of_ble_eq_true rfl) dX8_node_117 ⟨show cells + 0 + 1 + 0 ≤ 1 by omega, show slots + 0 + 4 + 0 ≤ 4 by omega⟩ (fun H locs hR hS => ?_)
      obtain ⟨hr1, hs1⟩ := Prod.mk.inj (Option.some.inj hf)
      exact xr_i E hR hS rfl (by rw [hr1]) hs1.symm (show cells + 0 + 1 + 0 ≤ 1 by omega) (show slots + 0 + 4 + 0 ≤ 4 by omega) dX8_node_120
    have hf := ite_n hq36 hf
    by_cases hq42 : x12 = (6 : Int32)
    · have hf := ite_p hq42 hf
      refine lv_tableIn (tgt := 121) (off := 98) hx hb dX8_node_23 (by rw [hq42]; decide) (by rw [hq42]; decide) (by rw [hq42]; decide) (by decide) ?_
      refine lv_aload_n hx hb dX8_node_121 rfl (lv_at hl 0 rfl) ?_
      obtain ⟨hk43, hf⟩ := zc_s hf
      refine x_getI E hR hk43 ok4 2 (Nat.le_of_ble_eq_true rfl) rfl fl_X8_138 dX8_node_122 ?_
      obtain ⟨hr1, hs1⟩ := Prod.mk.inj (Option.some.inj hf)
      exact xr_i E hR hS rfl (by rw [hr1]) hs1.symm (show cells + 0 + 1 ≤ 1 by omega) (show slots + 0 + 4 ≤ 4 by omega) dX8_node_125
    have hf := ite_n hq42 hf
    by_cases hq44 : x12 = (7 : Int32)
    · have hf := ite_p hq44 hf
      refine lv_tableIn (tgt := 126) (off := 103) hx hb dX8_node_23 (by rw [hq44]; decide) (by rw [hq44]; decide) (by rw [hq44]; decide) (by decide) ?_
      refine lv_aload_n hx hb dX8_node_126 rfl (lv_at hl 0 rfl) ?_
      obtain ⟨hk45, hf⟩ := zc_s hf
      refine x_getI E hR hk45 ok4 3 (Nat.le_of_ble_eq_true rfl) rfl fl_X8_141 dX8_node_127 ?_
      obtain ⟨hr1, hs1⟩ := Prod.mk.inj (Option.some.inj hf)
      exact xr_i E hR hS rfl (by rw [hr1]) hs1.symm (show cells + 0 + 1 ≤ 1 by omega) (show slots + 0 + 4 ≤ 4 by omega) dX8_node_130
    have hf := ite_n hq44 hf
    refine lv_tableOut (tgt := 131) hx hb dX8_node_23 (sw_out (fun j h1 h2 => by
        have hj : j = 0 ∨ j = 1 ∨ j = 2 ∨ j = 3 ∨ j = 4 ∨ j = 5 ∨ j = 6 ∨ j = 7 := by omega
        rcases hj with rfl | rfl | rfl | rfl | rfl | rfl | rfl | rfl
        · exact hq13
        · exact hq15
        · exact hq17
        · exact hq23
        · exact hq29
        · exact hq36
        · exact hq42
        · exact hq44
        )) (by decide) ?_
    refine lv_bipush (v := (-2 : Int32)) hx hb dX8_node_131 rfl ?_
    obtain ⟨hr1, hs1⟩ := Prod.mk.inj (Option.some.inj hf)
    exact xr_i E hR hS rfl (by rw [hr1]) hs1.symm (show cells + 0 + 1 ≤ 1 by omega) (show slots + 0 + 4 ≤ 4 by omega) dX8_node_133
  · have hf := ite_p hq6 hf
    refine lv_iconst (v := (-1 : Int32)) hx hb dX8_node_11 rfl ?_
    obtain ⟨hr1, hs1⟩ := Prod.mk.inj (Option.some.inj hf)
    exact xr_i E hR hS rfl (by rw [hr1]) hs1.symm (show cells + 0 ≤ 1 by omega) (show slots + 0 ≤ 4 by omega) dX8_node_12
theorem C_X8_node {g : GG} {v0 : Nat} {v1 : Int32} {v2 : Int32} {σ : Mm} {r : Int32} {σ' : Mm} (hf : f_X8_node v0 v1 v2 σ = some (r, σ')) : Ct g yX8_node cX8_node 4 (some .int) rm_X8_node [.ref (gB g + v0), .int v1, .int v2] σ (some (.int r)) σ' :=
  Ct.of false (by decide +kernel) (fun h => by cases h) (Nat.le_of_ble_eq_true rfl) (V_X8_node_0 _ _ _ _ _ _ hf 1 4 ⟨Nat.le_of_ble_eq_true rfl, Nat.le_of_ble_eq_true rfl⟩)
abbrev rm_X8_rank : Room := { frames := 1, cells := 0, slots := 0, locals := 22 }
set_option maxRecDepth 100000 in
def f_X8_rank (v0 : Nat) (v1 : Int32) (σ : Mm) : Option (Int32 × Mm) :=
  zcb (f_X8_isNumber v1 σ) (fun r1 σ2 => if r1 = 0 then (some ((-2 : Int32), σ2)) else (zcb (f_X8_rankOf v1 σ2) (fun r4 σ5 => some (r4, σ5))))
set_option maxRecDepth 100000 in
set_option maxHeartbeats 4000000 in
theorem V_X8_rank_0 {g : GG} (v0 : Nat) (v1 : Int32) (σ : Mm) (r : Int32) (σ' : Mm) (hf : f_X8_rank v0 v1 σ = some (r, σ')) : VJ g RX8 cX8_rank 2 (some .int) false rm_X8_rank (some (.int r)) σ' (0) (0) 0 [(0, .ref (gB g + v0)), (1, .int v1)] [] σ := by
  intro p e s m args below meth c H locs cells slots ls E hR hS hl hc hs
  obtain ⟨hx, hb, hml, hr, hlocks, hown, hts, hin, hT⟩ := id E
  unfold f_X8_rank at hf
  refine lv_iload_n hx hb dX8_rank_0 rfl (lv_at hl 1 rfl) ?_
  obtain ⟨r1, σ2, hcr1, hf⟩ := zq_s hf
  refine xS (As := [.int v1]) (rest := []) (st1 := [.int r1]) E hR hS hl (C_X8_isNumber hcr1) lb_X8_isNumber ls_X8_isNumber ml_X8_57 ⟨Nat.le_of_ble_eq_true rfl, Nat.le_of_ble_eq_true rfl⟩ rfl rfl rfl (Nat.le_of_ble_eq_true rfl) dX8_rank_1 ⟨hc, hs⟩ (fun H locs hR hS => ?_)
  refine lv_if_eq (tgt := 14) hx hb dX8_rank_4 (by decide) (fun hq3 => ?_) (fun hq3 => ?_)
  · have hf := ite_p hq3 hf
    refine lv_bipush (v := (-2 : Int32)) hx hb dX8_rank_14 rfl ?_
    obtain ⟨hr1, hs1⟩ := Prod.mk.inj (Option.some.inj hf)
    exact xr_i E hR hS rfl (by rw [hr1]) hs1.symm hc hs dX8_rank_16
  · have hf := ite_n hq3 hf
    refine lv_iload_n hx hb dX8_rank_7 rfl (lv_at hl 1 rfl) ?_
    obtain ⟨r4, σ5, hcr4, hf⟩ := zq_s hf
    refine xS (As := [.int v1]) (rest := []) (st1 := [.int r4]) E hR hS hl (C_X8_rankOf hcr4) lb_X8_rankOf ls_X8_rankOf ml_X8_150 ⟨Nat.le_of_ble_eq_true rfl, Nat.le_of_ble_eq_true rfl⟩ rfl rfl rfl (Nat.le_of_ble_eq_true rfl) dX8_rank_8 ⟨hc, hs⟩ (fun H locs hR hS => ?_)
    refine lv_goto (tgt := 16) hx hb dX8_rank_11 (by decide) ?_
    obtain ⟨hr1, hs1⟩ := Prod.mk.inj (Option.some.inj hf)
    exact xr_i E hR hS rfl (by rw [hr1]) hs1.symm hc hs dX8_rank_16
theorem C_X8_rank {g : GG} {v0 : Nat} {v1 : Int32} {σ : Mm} {r : Int32} {σ' : Mm} (hf : f_X8_rank v0 v1 σ = some (r, σ')) : Ct g yX8_rank cX8_rank 2 (some .int) rm_X8_rank [.ref (gB g + v0), .int v1] σ (some (.int r)) σ' :=
  Ct.of false (by decide +kernel) (fun h => by cases h) (Nat.le_of_ble_eq_true rfl) (V_X8_rank_0 _ _ _ _ _ hf)
abbrev rm_X8_isRange : Room := { frames := 0, cells := 0, slots := 0, locals := 0 }
set_option maxRecDepth 100000 in
def f_X8_isRange (v0 : Int32) (v1 : Int32) (σ : Mm) : Option (Int32 × Mm) :=
  if v0 < (0 : Int32) then (some ((0 : Int32), σ)) else (if v1 < v0 then (some ((0 : Int32), σ)) else (if (100 : Int32) ≤ v1 then (some ((0 : Int32), σ)) else (some ((1 : Int32), σ))))
set_option maxRecDepth 100000 in
set_option maxHeartbeats 4000000 in
theorem V_X8_isRange_0 {g : GG} (v0 : Int32) (v1 : Int32) (σ : Mm) (r : Int32) (σ' : Mm) (hf : f_X8_isRange v0 v1 σ = some (r, σ')) : VJ g RX8 cX8_isRange 2 (some .boolean) false rm_X8_isRange (some (.int r)) σ' (0) (0) 0 [(0, .int v0), (1, .int v1)] [] σ := by
  intro p e s m args below meth c H locs cells slots ls E hR hS hl hc hs
  obtain ⟨hx, hb, hml, hr, hlocks, hown, hts, hin, hT⟩ := id E
  unfold f_X8_isRange at hf
  refine lv_iconst (v := (0 : Int32)) hx hb dX8_isRange_0 rfl ?_
  refine lv_iload_n hx hb dX8_isRange_1 rfl (lv_at hl 0 rfl) ?_
  refine lv_icmp_gt (tgt := 20) hx hb dX8_isRange_2 (by decide) (fun hq1 => ?_) (fun hq1 => ?_)
  · have hf := ite_p hq1 hf
    refine lv_iconst (v := (0 : Int32)) hx hb dX8_isRange_20 rfl ?_
    obtain ⟨hr1, hs1⟩ := Prod.mk.inj (Option.some.inj hf)
    exact xr_z E hR hS rfl rfl (by rw [hr1]) hs1.symm hc hs dX8_isRange_21
  · have hf := ite_n hq1 hf
    refine lv_iload_n hx hb dX8_isRange_5 rfl (lv_at hl 0 rfl) ?_
    refine lv_iload_n hx hb dX8_isRange_6 rfl (lv_at hl 1 rfl) ?_
    refine lv_icmp_gt (tgt := 20) hx hb dX8_isRange_7 (by decide) (fun hq2 => ?_) (fun hq2 => ?_)
    · have hf := ite_p hq2 hf
      refine lv_iconst (v := (0 : Int32)) hx hb dX8_isRange_20 rfl ?_
      obtain ⟨hr1, hs1⟩ := Prod.mk.inj (Option.some.inj hf)
      exact xr_z E hR hS rfl rfl (by rw [hr1]) hs1.symm hc hs dX8_isRange_21
    · have hf := ite_n hq2 hf
      refine lv_iload_n hx hb dX8_isRange_10 rfl (lv_at hl 1 rfl) ?_
      refine lv_bipush (v := (100 : Int32)) hx hb dX8_isRange_11 rfl ?_
      refine lv_icmp_ge (tgt := 20) hx hb dX8_isRange_13 (by decide) (fun hq3 => ?_) (fun hq3 => ?_)
      · have hf := ite_p hq3 hf
        refine lv_iconst (v := (0 : Int32)) hx hb dX8_isRange_20 rfl ?_
        obtain ⟨hr1, hs1⟩ := Prod.mk.inj (Option.some.inj hf)
        exact xr_z E hR hS rfl rfl (by rw [hr1]) hs1.symm hc hs dX8_isRange_21
      · have hf := ite_n hq3 hf
        refine lv_iconst (v := (1 : Int32)) hx hb dX8_isRange_16 rfl ?_
        refine lv_goto (tgt := 21) hx hb dX8_isRange_17 (by decide) ?_
        obtain ⟨hr1, hs1⟩ := Prod.mk.inj (Option.some.inj hf)
        exact xr_z E hR hS rfl rfl (by rw [hr1]) hs1.symm hc hs dX8_isRange_21
theorem C_X8_isRange {g : GG} {v0 : Int32} {v1 : Int32} {σ : Mm} {r : Int32} {σ' : Mm} (hf : f_X8_isRange v0 v1 σ = some (r, σ')) : Ct g yX8_isRange cX8_isRange 2 (some .boolean) rm_X8_isRange [.int v0, .int v1] σ (some (.int r)) σ' :=
  Ct.of false (by decide +kernel) (fun h => by cases h) (Nat.le_of_ble_eq_true rfl) (V_X8_isRange_0 _ _ _ _ _ hf)
abbrev rm_X8_proof : Room := { frames := 3, cells := 0, slots := 0, locals := 69 }
set_option maxRecDepth 100000 in
def f_X8_proof (v0 : Nat) (v1 : Int32) (v2 : Int32) (v3 : Int32) (σ : Mm) : Option (Int32 × Mm) :=
  zcb (f_X8_isRange v1 v2 σ) (fun r1 σ2 => if r1 = 0 then (some ((-2 : Int32), σ2)) else (if v3 < 0 then (some ((-2 : Int32), σ2)) else (if v3 ≤ (2 : Int32) then (zck (kO σ2 v0 8) (zrb (mR σ2 v0 1) (fun b7 => zrb (mR σ2 v0 0) (fun b8 => zrb (mR σ2 v0 7) (fun b9 => zck (kO σ2 b7 7) (zcb (f_X7_writeProof b7 b8 v1 v2 b9 σ2) (fun r11 σ12 => if v3 = 0 then (zck (kO σ12 v0 8) (zrb (mR σ12 v0 7) (fun b26 => zck (kO σ12 b26 1) (zcb (f_X1_count b26 σ12) (fun r28 σ29 => some (r28, σ29)))))) else (if v3 = (1 : Int32) then (zck (kO σ12 v0 8) (zrb (mR σ12 v0 7) (fun b21 => zck (kO σ12 b21 1) (zcb (f_X1_countDigests b21 σ12) (fun r23 σ24 => some (r23, σ24)))))) else (zck (kO σ12 v0 8) (zrb (mR σ12 v0 7) (fun b16 => zck (kO σ12 b16 1) (zcb (f_X1_countNodes b16 σ12) (fun r18 σ19 => some (r18, σ19)))))))))))))) else (some ((-2 : Int32), σ2)))))
set_option maxRecDepth 100000 in
set_option maxHeartbeats 4000000 in
theorem V_X8_proof_0 {g : GG} (v0 : Nat) (v1 : Int32) (v2 : Int32) (v3 : Int32) (σ : Mm) (r : Int32) (σ' : Mm) (hf : f_X8_proof v0 v1 v2 v3 σ = some (r, σ')) : VJ g RX8 cX8_proof 4 (some .int) false rm_X8_proof (some (.int r)) σ' (0) (0) 0 [(0, .ref (gB g + v0)), (1, .int v1), (2, .int v2), (3, .int v3)] [] σ := by
  intro p e s m args below meth c H locs cells slots ls E hR hS hl hc hs
  obtain ⟨hx, hb, hml, hr, hlocks, hown, hts, hin, hT⟩ := id E
  unfold f_X8_proof at hf
  refine lv_iload_n hx hb dX8_proof_0 rfl (lv_at hl 1 rfl) ?_
  refine lv_iload_n hx hb dX8_proof_1 rfl (lv_at hl 2 rfl) ?_
  obtain ⟨r1, σ2, hcr1, hf⟩ := zq_s hf
  refine xS (As := [.int v1, .int v2]) (rest := []) (st1 := [.int r1]) E hR hS hl (C_X8_isRange hcr1) lb_X8_isRange ls_X8_isRange ml_X8_153 ⟨Nat.le_of_ble_eq_true rfl, Nat.le_of_ble_eq_true rfl⟩ rfl rfl rfl (Nat.le_of_ble_eq_true rfl) dX8_proof_2 ⟨hc, hs⟩ (fun H locs hR hS => ?_)
  refine lv_if_eq (tgt := 17) hx hb dX8_proof_5 (by decide) (fun hq3 => ?_) (fun hq3 => ?_)
  · have hf := ite_p hq3 hf
    refine lv_bipush (v := (-2 : Int32)) hx hb dX8_proof_17 rfl ?_
    obtain ⟨hr1, hs1⟩ := Prod.mk.inj (Option.some.inj hf)
    exact xr_i E hR hS rfl (by rw [hr1]) hs1.symm hc hs dX8_proof_19
  · have hf := ite_n hq3 hf
    refine lv_iload_n hx hb dX8_proof_8 rfl (lv_at hl 3 rfl) ?_
    refine lv_if_lt (tgt := 17) hx hb dX8_proof_9 (by decide) (fun hq4 => ?_) (fun hq4 => ?_)
    · have hf := ite_p hq4 hf
      refine lv_bipush (v := (-2 : Int32)) hx hb dX8_proof_17 rfl ?_
      obtain ⟨hr1, hs1⟩ := Prod.mk.inj (Option.some.inj hf)
      exact xr_i E hR hS rfl (by rw [hr1]) hs1.symm hc hs dX8_proof_19
    · have hf := ite_n hq4 hf
      refine lv_iload_n hx hb dX8_proof_12 rfl (lv_at hl 3 rfl) ?_
      refine lv_iconst (v := (2 : Int32)) hx hb dX8_proof_13 rfl ?_
      refine lv_icmp_le (tgt := 20) hx hb dX8_proof_14 (by decide) (fun hq5 => ?_) (fun hq5 => ?_)
      · have hf := ite_p hq5 hf
        refine lv_aload_n hx hb dX8_proof_20 rfl (lv_at hl 0 rfl) ?_
        obtain ⟨hk6, hf⟩ := zc_s hf
        obtain ⟨b7, hb7, hf⟩ := zr_s hf
        refine x_getR E hR hk6 hb7 ok8 (Nat.le_of_ble_eq_true rfl) rfl fl_X8_19 dX8_proof_21 ?_
        refine lv_aload_n hx hb dX8_proof_24 rfl (lv_at hl 0 rfl) ?_
        obtain ⟨b8, hb8, hf⟩ := zr_s hf
        refine x_getR E hR hk6 hb8 ok8 (Nat.le_of_ble_eq_true rfl) rfl fl_X8_12 dX8_proof_25 ?_
        refine lv_iload_n hx hb dX8_proof_28 rfl (lv_at hl 1 rfl) ?_
        refine lv_iload_n hx hb dX8_proof_29 rfl (lv_at hl 2 rfl) ?_
        refine lv_aload_n hx hb dX8_proof_30 rfl (lv_at hl 0 rfl) ?_
        obtain ⟨b9, hb9, hf⟩ := zr_s hf
        refine x_getR E hR hk6 hb9 ok8 (Nat.le_of_ble_eq_true rfl) rfl fl_X8_52 dX8_proof_31 ?_
        obtain ⟨hk10, hf⟩ := zc_s hf
        obtain ⟨r11, σ12, hcr11, hf⟩ := zq_s hf
        refine xV (As := [.ref (gB g + b8), .int v1, .int v2, .ref (gB g + b9)]) (rest := []) (st1 := []) E hR hS hl (C_X7_writeProof hcr11) hk10 ok7 lb_X7_writeProof lv_X7_writeProof ml_X8_157 ⟨Nat.le_of_ble_eq_true rfl, Nat.le_of_ble_eq_true rfl⟩ rfl rfl rfl (Nat.le_of_ble_eq_true rfl) dX8_proof_34 ⟨hc, hs⟩ (fun H locs hR hS => ?_)
        refine lv_iload_n hx hb dX8_proof_37 rfl (lv_at hl 3 rfl) ?_
        refine lv_if_ne (tgt := 49) hx hb dX8_proof_38 (by decide) (fun hq13 => ?_) (fun hq13 => ?_)
        · have hf := ite_n hq13 hf
          refine lv_iload_n hx hb dX8_proof_49 rfl (lv_at hl 3 rfl) ?_
          refine lv_iconst (v := (1 : Int32)) hx hb dX8_proof_50 rfl ?_
          refine lv_icmp_ne (tgt := 64) hx hb dX8_proof_51 (by decide) (fun hq14 => ?_) (fun hq14 => ?_)
          · have hf := ite_n hq14 hf
            refine lv_aload_n hx hb dX8_proof_64 rfl (lv_at hl 0 rfl) ?_
            obtain ⟨hk15, hf⟩ := zc_s hf
            obtain ⟨b16, hb16, hf⟩ := zr_s hf
            refine x_getR E hR hk15 hb16 ok8 (Nat.le_of_ble_eq_true rfl) rfl fl_X8_52 dX8_proof_65 ?_
            obtain ⟨hk17, hf⟩ := zc_s hf
            obtain ⟨r18, σ19, hcr18, hf⟩ := zq_s hf
            refine xV (As := []) (rest := []) (st1 := [.int r18]) E hR hS hl (C_X1_countNodes hcr18) hk17 ok1 lb_X1_countNodes lv_X1_countNodes ml_X8_164 ⟨Nat.le_of_ble_eq_true rfl, Nat.le_of_ble_eq_true rfl⟩ rfl rfl rfl (Nat.le_of_ble_eq_true rfl) dX8_proof_68 ⟨hc, hs⟩ (fun H locs hR hS => ?_)
            obtain ⟨hr1, hs1⟩ := Prod.mk.inj (Option.some.inj hf)
            exact xr_i E hR hS rfl (by rw [hr1]) hs1.symm hc hs dX8_proof_71
          · have hf := ite_p hq14 hf
            refine lv_aload_n hx hb dX8_proof_54 rfl (lv_at hl 0 rfl) ?_
            obtain ⟨hk20, hf⟩ := zc_s hf
            obtain ⟨b21, hb21, hf⟩ := zr_s hf
            refine x_getR E hR hk20 hb21 ok8 (Nat.le_of_ble_eq_true rfl) rfl fl_X8_52 dX8_proof_55 ?_
            obtain ⟨hk22, hf⟩ := zc_s hf
            obtain ⟨r23, σ24, hcr23, hf⟩ := zq_s hf
            refine xV (As := []) (rest := []) (st1 := [.int r23]) E hR hS hl (C_X1_countDigests hcr23) hk22 ok1 lb_X1_countDigests lv_X1_countDigests ml_X8_161 ⟨Nat.le_of_ble_eq_true rfl, Nat.le_of_ble_eq_true rfl⟩ rfl rfl rfl (Nat.le_of_ble_eq_true rfl) dX8_proof_58 ⟨hc, hs⟩ (fun H locs hR hS => ?_)
            refine lv_goto (tgt := 71) hx hb dX8_proof_61 (by decide) ?_
            obtain ⟨hr1, hs1⟩ := Prod.mk.inj (Option.some.inj hf)
            exact xr_i E hR hS rfl (by rw [hr1]) hs1.symm hc hs dX8_proof_71
        · have hf := ite_p hq13 hf
          refine lv_aload_n hx hb dX8_proof_41 rfl (lv_at hl 0 rfl) ?_
          obtain ⟨hk25, hf⟩ := zc_s hf
          obtain ⟨b26, hb26, hf⟩ := zr_s hf
          refine x_getR E hR hk25 hb26 ok8 (Nat.le_of_ble_eq_true rfl) rfl fl_X8_52 dX8_proof_42 ?_
          obtain ⟨hk27, hf⟩ := zc_s hf
          obtain ⟨r28, σ29, hcr28, hf⟩ := zq_s hf
          refine xV (As := []) (rest := []) (st1 := [.int r28]) E hR hS hl (C_X1_count hcr28) hk27 ok1 lb_X1_count lv_X1_count ml_X8_112 ⟨Nat.le_of_ble_eq_true rfl, Nat.le_of_ble_eq_true rfl⟩ rfl rfl rfl (Nat.le_of_ble_eq_true rfl) dX8_proof_45 ⟨hc, hs⟩ (fun H locs hR hS => ?_)
          obtain ⟨hr1, hs1⟩ := Prod.mk.inj (Option.some.inj hf)
          exact xr_i E hR hS rfl (by rw [hr1]) hs1.symm hc hs dX8_proof_48
      · have hf := ite_n hq5 hf
        refine lv_bipush (v := (-2 : Int32)) hx hb dX8_proof_17 rfl ?_
        obtain ⟨hr1, hs1⟩ := Prod.mk.inj (Option.some.inj hf)
        exact xr_i E hR hS rfl (by rw [hr1]) hs1.symm hc hs dX8_proof_19
theorem C_X8_proof {g : GG} {v0 : Nat} {v1 : Int32} {v2 : Int32} {v3 : Int32} {σ : Mm} {r : Int32} {σ' : Mm} (hf : f_X8_proof v0 v1 v2 v3 σ = some (r, σ')) : Ct g yX8_proof cX8_proof 4 (some .int) rm_X8_proof [.ref (gB g + v0), .int v1, .int v2, .int v3] σ (some (.int r)) σ' :=
  Ct.of false (by decide +kernel) (fun h => by cases h) (Nat.le_of_ble_eq_true rfl) (V_X8_proof_0 _ _ _ _ _ _ _ hf)
abbrev rm_X8_item : Room := { frames := 3, cells := 0, slots := 0, locals := 69 }
set_option maxRecDepth 100000 in
def f_X8_item (v0 : Nat) (v1 : Int32) (v2 : Int32) (v3 : Int32) (σ : Mm) : Option (Int32 × Mm) :=
  zcb (f_X8_isRange v1 v2 σ) (fun r1 σ2 => if r1 = 0 then (some ((-2 : Int32), σ2)) else (zck (kO σ2 v0 8) (zrb (mR σ2 v0 1) (fun b5 => zrb (mR σ2 v0 0) (fun b6 => zrb (mR σ2 v0 7) (fun b7 => zck (kO σ2 b5 7) (zcb (f_X7_writeProof b5 b6 v1 v2 b7 σ2) (fun r9 σ10 => zck (kO σ10 v0 8) (zrb (mR σ10 v0 7) (fun b12 => zck (kO σ10 b12 1) (zcb (f_X1_hasPlace b12 v3 σ10) (fun r14 σ15 => if r14 = 0 then (some ((-1 : Int32), σ15)) else (zck (kO σ15 v0 8) (zrb (mR σ15 v0 7) (fun b18 => zck (kO σ15 b18 1) (zcb (f_X1_itemAt b18 v3 σ15) (fun r20 σ21 => some (r20, σ21))))))))))))))))))
set_option maxRecDepth 100000 in
set_option maxHeartbeats 4000000 in
theorem V_X8_item_0 {g : GG} (v0 : Nat) (v1 : Int32) (v2 : Int32) (v3 : Int32) (σ : Mm) (r : Int32) (σ' : Mm) (hf : f_X8_item v0 v1 v2 v3 σ = some (r, σ')) : VJ g RX8 cX8_item 4 (some .int) false rm_X8_item (some (.int r)) σ' (0) (0) 0 [(0, .ref (gB g + v0)), (1, .int v1), (2, .int v2), (3, .int v3)] [] σ := by
  intro p e s m args below meth c H locs cells slots ls E hR hS hl hc hs
  obtain ⟨hx, hb, hml, hr, hlocks, hown, hts, hin, hT⟩ := id E
  unfold f_X8_item at hf
  refine lv_iload_n hx hb dX8_item_0 rfl (lv_at hl 1 rfl) ?_
  refine lv_iload_n hx hb dX8_item_1 rfl (lv_at hl 2 rfl) ?_
  obtain ⟨r1, σ2, hcr1, hf⟩ := zq_s hf
  refine xS (As := [.int v1, .int v2]) (rest := []) (st1 := [.int r1]) E hR hS hl (C_X8_isRange hcr1) lb_X8_isRange ls_X8_isRange ml_X8_153 ⟨Nat.le_of_ble_eq_true rfl, Nat.le_of_ble_eq_true rfl⟩ rfl rfl rfl (Nat.le_of_ble_eq_true rfl) dX8_item_2 ⟨hc, hs⟩ (fun H locs hR hS => ?_)
  refine lv_if_ne (tgt := 11) hx hb dX8_item_5 (by decide) (fun hq3 => ?_) (fun hq3 => ?_)
  · have hf := ite_n hq3 hf
    refine lv_aload_n hx hb dX8_item_11 rfl (lv_at hl 0 rfl) ?_
    obtain ⟨hk4, hf⟩ := zc_s hf
    obtain ⟨b5, hb5, hf⟩ := zr_s hf
    refine x_getR E hR hk4 hb5 ok8 (Nat.le_of_ble_eq_true rfl) rfl fl_X8_19 dX8_item_12 ?_
    refine lv_aload_n hx hb dX8_item_15 rfl (lv_at hl 0 rfl) ?_
    obtain ⟨b6, hb6, hf⟩ := zr_s hf
    refine x_getR E hR hk4 hb6 ok8 (Nat.le_of_ble_eq_true rfl) rfl fl_X8_12 dX8_item_16 ?_
    refine lv_iload_n hx hb dX8_item_19 rfl (lv_at hl 1 rfl) ?_
    refine lv_iload_n hx hb dX8_item_20 rfl (lv_at hl 2 rfl) ?_
    refine lv_aload_n hx hb dX8_item_21 rfl (lv_at hl 0 rfl) ?_
    obtain ⟨b7, hb7, hf⟩ := zr_s hf
    refine x_getR E hR hk4 hb7 ok8 (Nat.le_of_ble_eq_true rfl) rfl fl_X8_52 dX8_item_22 ?_
    obtain ⟨hk8, hf⟩ := zc_s hf
    obtain ⟨r9, σ10, hcr9, hf⟩ := zq_s hf
    refine xV (As := [.ref (gB g + b6), .int v1, .int v2, .ref (gB g + b7)]) (rest := []) (st1 := []) E hR hS hl (C_X7_writeProof hcr9) hk8 ok7 lb_X7_writeProof lv_X7_writeProof ml_X8_157 ⟨Nat.le_of_ble_eq_true rfl, Nat.le_of_ble_eq_true rfl⟩ rfl rfl rfl (Nat.le_of_ble_eq_true rfl) dX8_item_25 ⟨hc, hs⟩ (fun H locs hR hS => ?_)
    refine lv_aload_n hx hb dX8_item_28 rfl (lv_at hl 0 rfl) ?_
    obtain ⟨hk11, hf⟩ := zc_s hf
    obtain ⟨b12, hb12, hf⟩ := zr_s hf
    refine x_getR E hR hk11 hb12 ok8 (Nat.le_of_ble_eq_true rfl) rfl fl_X8_52 dX8_item_29 ?_
    refine lv_iload_n hx hb dX8_item_32 rfl (lv_at hl 3 rfl) ?_
    obtain ⟨hk13, hf⟩ := zc_s hf
    obtain ⟨r14, σ15, hcr14, hf⟩ := zq_s hf
    refine xV (As := [.int v3]) (rest := []) (st1 := [.int r14]) E hR hS hl (C_X1_hasPlace hcr14) hk13 ok1 lb_X1_hasPlace lv_X1_hasPlace ml_X8_167 ⟨Nat.le_of_ble_eq_true rfl, Nat.le_of_ble_eq_true rfl⟩ rfl rfl rfl (Nat.le_of_ble_eq_true rfl) dX8_item_33 ⟨hc, hs⟩ (fun H locs hR hS => ?_)
    refine lv_if_eq (tgt := 50) hx hb dX8_item_36 (by decide) (fun hq16 => ?_) (fun hq16 => ?_)
    · have hf := ite_p hq16 hf
      refine lv_iconst (v := (-1 : Int32)) hx hb dX8_item_50 rfl ?_
      obtain ⟨hr1, hs1⟩ := Prod.mk.inj (Option.some.inj hf)
      exact xr_i E hR hS rfl (by rw [hr1]) hs1.symm hc hs dX8_item_51
    · have hf := ite_n hq16 hf
      refine lv_aload_n hx hb dX8_item_39 rfl (lv_at hl 0 rfl) ?_
      obtain ⟨hk17, hf⟩ := zc_s hf
      obtain ⟨b18, hb18, hf⟩ := zr_s hf
      refine x_getR E hR hk17 hb18 ok8 (Nat.le_of_ble_eq_true rfl) rfl fl_X8_52 dX8_item_40 ?_
      refine lv_iload_n hx hb dX8_item_43 rfl (lv_at hl 3 rfl) ?_
      obtain ⟨hk19, hf⟩ := zc_s hf
      obtain ⟨r20, σ21, hcr20, hf⟩ := zq_s hf
      refine xV (As := [.int v3]) (rest := []) (st1 := [.int r20]) E hR hS hl (C_X1_itemAt hcr20) hk19 ok1 lb_X1_itemAt lv_X1_itemAt ml_X8_170 ⟨Nat.le_of_ble_eq_true rfl, Nat.le_of_ble_eq_true rfl⟩ rfl rfl rfl (Nat.le_of_ble_eq_true rfl) dX8_item_44 ⟨hc, hs⟩ (fun H locs hR hS => ?_)
      refine lv_goto (tgt := 51) hx hb dX8_item_47 (by decide) ?_
      obtain ⟨hr1, hs1⟩ := Prod.mk.inj (Option.some.inj hf)
      exact xr_i E hR hS rfl (by rw [hr1]) hs1.symm hc hs dX8_item_51
  · have hf := ite_p hq3 hf
    refine lv_bipush (v := (-2 : Int32)) hx hb dX8_item_8 rfl ?_
    obtain ⟨hr1, hs1⟩ := Prod.mk.inj (Option.some.inj hf)
    exact xr_i E hR hS rfl (by rw [hr1]) hs1.symm hc hs dX8_item_10
theorem C_X8_item {g : GG} {v0 : Nat} {v1 : Int32} {v2 : Int32} {v3 : Int32} {σ : Mm} {r : Int32} {σ' : Mm} (hf : f_X8_item v0 v1 v2 v3 σ = some (r, σ')) : Ct g yX8_item cX8_item 4 (some .int) rm_X8_item [.ref (gB g + v0), .int v1, .int v2, .int v3] σ (some (.int r)) σ' :=
  Ct.of false (by decide +kernel) (fun h => by cases h) (Nat.le_of_ble_eq_true rfl) (V_X8_item_0 _ _ _ _ _ _ _ hf)
