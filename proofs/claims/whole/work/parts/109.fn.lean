abbrev rm_X9_reasonOf : Room := { frames := 3, cells := 0, slots := 0, locals := 72 }
set_option maxRecDepth 100000 in
def f_X9_reasonOf_139 (k_108 : Nat → Int32 → Int32 → Int32 → Mm → Option (Int32 × Mm)) (v0 : Nat) (v4 : Int32) (v6 : Int32) (w0 : Int32) (σ : Mm) : Option (Int32 × Mm) :=
  k_108 v0 v4 w0 (v6 + (1 : Int32)) σ
set_option maxRecDepth 100000 in
set_option maxHeartbeats 4000000 in
theorem V_X9_reasonOf_139 {g : GG} (k_108 : Nat → Int32 → Int32 → Int32 → Mm → Option (Int32 × Mm)) (hk_108 : ∀ (v0 : Nat) (v4 : Int32) (v5 : Int32) (v6 : Int32) (σ : Mm) (r : Int32) (σ' : Mm), k_108 v0 v4 v5 v6 σ = some (r, σ') → VJ g RX9 cX9_reasonOf 7 (some .int) false rm_X9_reasonOf (some (.int r)) σ' (0) (0) 108 [(0, .ref (gB g + v0)), (4, .int v4), (5, .int v5), (6, .int v6)] [] σ) (v0 : Nat) (v4 : Int32) (v6 : Int32) (w0 : Int32) (σ : Mm) (r : Int32) (σ' : Mm) (hf : f_X9_reasonOf_139 k_108 v0 v4 v6 w0 σ = some (r, σ')) : VJ g RX9 cX9_reasonOf 7 (some .int) false rm_X9_reasonOf (some (.int r)) σ' (0) (0) 139 [(0, .ref (gB g + v0)), (4, .int v4), (6, .int v6)] [.int w0] σ := by
  intro p e s m args below meth c H locs cells slots ls E hR hS hl hc hs
  obtain ⟨hx, hb, hml, hr, hlocks, hown, hts, hin, hT⟩ := id E
  unfold f_X9_reasonOf_139 at hf
  refine lv_istore (lv' := [(5, .int w0), (0, .ref (gB g + v0)), (4, .int v4), (6, .int v6)]) hx hb dX9_reasonOf_139 hl (Nat.le_of_ble_eq_true rfl) rfl (fun ls hl => ?_)
  refine lv_iinc (v := (v6 + (1 : Int32))) (lv' := [(6, .int (v6 + (1 : Int32))), (5, .int w0), (0, .ref (gB g + v0)), (4, .int v4)]) hx hb dX9_reasonOf_141 hl (k := 3) rfl rfl (Nat.le_of_ble_eq_true rfl) rfl (fun ls hl => ?_)
  refine lv_goto (tgt := 108) hx hb dX9_reasonOf_144 (by decide) ?_
  exact hk_108 _ _ _ _ _ _ _ hf p e s m args below meth c _ _ _ _ _ E hR hS (lv_sub hl [2, 3, 1, 0] rfl) hc hs
set_option maxRecDepth 100000 in
def f_X9_reasonOf_134 (k_108 : Nat → Int32 → Int32 → Int32 → Mm → Option (Int32 × Mm)) (v0 : Nat) (v4 : Int32) (v6 : Int32) (σ : Mm) : Option (Int32 × Mm) :=
  f_X9_reasonOf_139 k_108 v0 v4 v6 (1 : Int32) σ
set_option maxRecDepth 100000 in
set_option maxHeartbeats 4000000 in
theorem V_X9_reasonOf_134 {g : GG} (k_108 : Nat → Int32 → Int32 → Int32 → Mm → Option (Int32 × Mm)) (hk_108 : ∀ (v0 : Nat) (v4 : Int32) (v5 : Int32) (v6 : Int32) (σ : Mm) (r : Int32) (σ' : Mm), k_108 v0 v4 v5 v6 σ = some (r, σ') → VJ g RX9 cX9_reasonOf 7 (some .int) false rm_X9_reasonOf (some (.int r)) σ' (0) (0) 108 [(0, .ref (gB g + v0)), (4, .int v4), (5, .int v5), (6, .int v6)] [] σ) (v0 : Nat) (v4 : Int32) (v6 : Int32) (σ : Mm) (r : Int32) (σ' : Mm) (hf : f_X9_reasonOf_134 k_108 v0 v4 v6 σ = some (r, σ')) : VJ g RX9 cX9_reasonOf 7 (some .int) false rm_X9_reasonOf (some (.int r)) σ' (0) (0) 134 [(0, .ref (gB g + v0)), (4, .int v4), (6, .int v6)] [] σ := by
  intro p e s m args below meth c H locs cells slots ls E hR hS hl hc hs
  obtain ⟨hx, hb, hml, hr, hlocks, hown, hts, hin, hT⟩ := id E
  unfold f_X9_reasonOf_134 at hf
  refine lv_iconst (v := (1 : Int32)) hx hb dX9_reasonOf_134 rfl ?_
  refine lv_goto (tgt := 139) hx hb dX9_reasonOf_135 (by decide) ?_
  exact V_X9_reasonOf_139 _ hk_108 _ _ _ _ _ _ _ hf p e s m args below meth c _ _ _ _ _ E hR hS (lv_sub hl [0, 1, 2] rfl) hc hs
set_option maxRecDepth 100000 in
def f_X9_reasonOf_108 : Nat → Nat → Int32 → Int32 → Int32 → Mm → Option (Int32 × Mm)
  | 0, _, _, _, _, _ => none
  | n + 1, v0, v4, v5, v6, σ =>
    zck (kO σ v0 9) (if (mD σ v0 28) ≤ v6 then (if v4 = (mD σ v0 26) then (some ((0 : Int32), σ)) else (if v5 = 0 then (some ((6 : Int32), σ)) else (some ((7 : Int32), σ)))) else (if v5 = 0 then (zrb (mR σ v0 27) (fun b6 => zck (kA σ 1 b6 v6) (if (mD σ b6 (ix v6)) = v4 then (f_X9_reasonOf_134 (f_X9_reasonOf_108 n) v0 v4 v6 σ) else (f_X9_reasonOf_139 (f_X9_reasonOf_108 n) v0 v4 v6 (0 : Int32) σ)))) else (f_X9_reasonOf_134 (f_X9_reasonOf_108 n) v0 v4 v6 σ)))
set_option maxRecDepth 100000 in
set_option maxHeartbeats 4000000 in
theorem V_X9_reasonOf_108 {g : GG} : ∀ (n : Nat) (v0 : Nat) (v4 : Int32) (v5 : Int32) (v6 : Int32) (σ : Mm) (r : Int32) (σ' : Mm), f_X9_reasonOf_108 n v0 v4 v5 v6 σ = some (r, σ') → VJ g RX9 cX9_reasonOf 7 (some .int) false rm_X9_reasonOf (some (.int r)) σ' (0) (0) 108 [(0, .ref (gB g + v0)), (4, .int v4), (5, .int v5), (6, .int v6)] [] σ := by
  intro n
  induction n with
  | zero =>
    intro v0 v4 v5 v6 σ r σ' hf
    unfold f_X9_reasonOf_108 at hf
    cases hf
  | succ n ih =>
    intro v0 v4 v5 v6 σ r σ' hf p e s m args below meth c H locs cells slots ls E hR hS hl hc hs
    obtain ⟨hx, hb, hml, hr, hlocks, hown, hts, hin, hT⟩ := id E
    unfold f_X9_reasonOf_108 at hf
    refine lv_iload hx hb dX9_reasonOf_108 (lv_at hl 3 rfl) ?_
    refine lv_aload_n hx hb dX9_reasonOf_110 rfl (lv_at hl 0 rfl) ?_
    obtain ⟨hk1, hf⟩ := zc_s hf
    refine x_getI E hR hk1 ok9 28 (Nat.le_of_ble_eq_true rfl) rfl fl_X9_208 dX9_reasonOf_111 ?_
    refine lv_icmp_ge (tgt := 147) hx hb dX9_reasonOf_114 (by decide) (fun hq2 => ?_) (fun hq2 => ?_)
    · have hf := ite_p hq2 hf
      refine lv_iload hx hb dX9_reasonOf_147 (lv_at hl 1 rfl) ?_
      refine lv_aload_n hx hb dX9_reasonOf_149 rfl (lv_at hl 0 rfl) ?_
      refine x_getI E hR hk1 ok9 26 (Nat.le_of_ble_eq_true rfl) rfl fl_X9_205 dX9_reasonOf_150 ?_
      refine lv_icmp_ne (tgt := 160) hx hb dX9_reasonOf_153 (by decide) (fun hq3 => ?_) (fun hq3 => ?_)
      · have hf := ite_n hq3 hf
        refine lv_iload hx hb dX9_reasonOf_160 (lv_at hl 2 rfl) ?_
        refine lv_if_eq (tgt := 170) hx hb dX9_reasonOf_162 (by decide) (fun hq4 => ?_) (fun hq4 => ?_)
        · have hf := ite_p hq4 hf
          refine lv_bipush (v := (6 : Int32)) hx hb dX9_reasonOf_170 rfl ?_
          obtain ⟨hr1, hs1⟩ := Prod.mk.inj (Option.some.inj hf)
          exact xr_i E hR hS rfl (by rw [hr1]) hs1.symm hc hs dX9_reasonOf_172
        · have hf := ite_n hq4 hf
          refine lv_bipush (v := (7 : Int32)) hx hb dX9_reasonOf_165 rfl ?_
          refine lv_goto (tgt := 172) hx hb dX9_reasonOf_167 (by decide) ?_
          obtain ⟨hr1, hs1⟩ := Prod.mk.inj (Option.some.inj hf)
          exact xr_i E hR hS rfl (by rw [hr1]) hs1.symm hc hs dX9_reasonOf_172
      · have hf := ite_p hq3 hf
        refine lv_iconst (v := (0 : Int32)) hx hb dX9_reasonOf_156 rfl ?_
        refine lv_goto (tgt := 172) hx hb dX9_reasonOf_157 (by decide) ?_
        obtain ⟨hr1, hs1⟩ := Prod.mk.inj (Option.some.inj hf)
        exact xr_i E hR hS rfl (by rw [hr1]) hs1.symm hc hs dX9_reasonOf_172
    · have hf := ite_n hq2 hf
      refine lv_iload hx hb dX9_reasonOf_117 (lv_at hl 2 rfl) ?_
      refine lv_if_ne (tgt := 134) hx hb dX9_reasonOf_119 (by decide) (fun hq5 => ?_) (fun hq5 => ?_)
      · have hf := ite_n hq5 hf
        exact V_X9_reasonOf_134 _ ih _ _ _ _ _ _ hf p e s m args below meth c _ _ _ _ _ E hR hS (lv_sub hl [0, 1, 3] rfl) hc hs
      · have hf := ite_p hq5 hf
        refine lv_aload_n hx hb dX9_reasonOf_122 rfl (lv_at hl 0 rfl) ?_
        obtain ⟨b6, hb6, hf⟩ := zr_s hf
        refine x_getR E hR hk1 hb6 ok9 (Nat.le_of_ble_eq_true rfl) rfl fl_X9_74 dX9_reasonOf_123 ?_
        refine lv_iload hx hb dX9_reasonOf_126 (lv_at hl 3 rfl) ?_
        obtain ⟨hk7, hf⟩ := zc_s hf
        refine x_ild E hR hk7 dX9_reasonOf_128 ?_
        refine lv_iload hx hb dX9_reasonOf_129 (lv_at hl 1 rfl) ?_
        refine lv_icmp_ne (tgt := 138) hx hb dX9_reasonOf_131 (by decide) (fun hq8 => ?_) (fun hq8 => ?_)
        · have hf := ite_n hq8 hf
          refine lv_iconst (v := (0 : Int32)) hx hb dX9_reasonOf_138 rfl ?_
          exact V_X9_reasonOf_139 _ ih _ _ _ _ _ _ _ hf p e s m args below meth c _ _ _ _ _ E hR hS (lv_sub hl [0, 1, 3] rfl) hc hs
        · have hf := ite_p hq8 hf
          exact V_X9_reasonOf_134 _ ih _ _ _ _ _ _ hf p e s m args below meth c _ _ _ _ _ E hR hS (lv_sub hl [0, 1, 3] rfl) hc hs
set_option maxRecDepth 100000 in
def f_X9_reasonOf_27 : Nat → Nat → Int32 → Int32 → Int32 → Mm → Option (Int32 × Mm)
  | 0, _, _, _, _, _ => none
  | n + 1, v0, v1, v2, v3, σ =>
    zck (kO σ v0 9) (if (mD σ v0 21) ≤ 0 then (if (mD σ v0 25) ≤ v3 then (zcb (f_X9_shownDigest v0 σ) (fun r12 σ13 => f_X9_reasonOf_108 1000 v0 r12 (0 : Int32) (0 : Int32) σ13)) else (some ((2 : Int32), σ))) else (if v3 = (mD σ v0 25) then (some ((1 : Int32), σ)) else (zlt (sD σ v0 21 ((mD σ v0 21) - (1 : Int32))) (fun σ15 => zrb (mR σ15 v0 24) (fun b16 => zck (kA σ15 1 b16 v3) (zcb (f_X9_takeItem v0 (mD σ15 b16 (ix v3)) (mD σ15 v0 21) v1 v2 σ15) (fun r18 σ19 => if r18 = 0 then (f_X9_reasonOf_27 n v0 v1 v2 (v3 + (1 : Int32)) σ19) else (some (r18, σ19)))))))))
set_option maxRecDepth 100000 in
set_option maxHeartbeats 4000000 in
theorem V_X9_reasonOf_27 {g : GG} : ∀ (n : Nat) (v0 : Nat) (v1 : Int32) (v2 : Int32) (v3 : Int32) (σ : Mm) (r : Int32) (σ' : Mm), f_X9_reasonOf_27 n v0 v1 v2 v3 σ = some (r, σ') → VJ g RX9 cX9_reasonOf 7 (some .int) false rm_X9_reasonOf (some (.int r)) σ' (0) (0) 27 [(0, .ref (gB g + v0)), (1, .int v1), (2, .int v2), (3, .int v3)] [] σ := by
  intro n
  induction n with
  | zero =>
    intro v0 v1 v2 v3 σ r σ' hf
    unfold f_X9_reasonOf_27 at hf
    cases hf
  | succ n ih =>
    intro v0 v1 v2 v3 σ r σ' hf p e s m args below meth c H locs cells slots ls E hR hS hl hc hs
    obtain ⟨hx, hb, hml, hr, hlocks, hown, hts, hin, hT⟩ := id E
    unfold f_X9_reasonOf_27 at hf
    refine lv_aload_n hx hb dX9_reasonOf_27 rfl (lv_at hl 0 rfl) ?_
    obtain ⟨hk9, hf⟩ := zc_s hf
    refine x_getI E hR hk9 ok9 21 (Nat.le_of_ble_eq_true rfl) rfl fl_X9_145 dX9_reasonOf_28 ?_
    refine lv_if_le (tgt := 86) hx hb dX9_reasonOf_31 (by decide) (fun hq10 => ?_) (fun hq10 => ?_)
    · have hf := ite_p hq10 hf
      refine lv_iload_n hx hb dX9_reasonOf_86 rfl (lv_at hl 3 rfl) ?_
      refine lv_aload_n hx hb dX9_reasonOf_87 rfl (lv_at hl 0 rfl) ?_
      refine x_getI E hR hk9 ok9 25 (Nat.le_of_ble_eq_true rfl) rfl fl_X9_202 dX9_reasonOf_88 ?_
      refine lv_icmp_ge (tgt := 96) hx hb dX9_reasonOf_91 (by decide) (fun hq11 => ?_) (fun hq11 => ?_)
      · have hf := ite_p hq11 hf
        refine lv_aload_n hx hb dX9_reasonOf_96 rfl (lv_at hl 0 rfl) ?_
        obtain ⟨r12, σ13, hcr12, hf⟩ := zq_s hf
        refine xV (As := []) (rest := []) (st1 := [.int r12]) E hR hS hl (C_X9_shownDigest hcr12) hk9 ok9 lb_X9_shownDigest lv_X9_shownDigest ml_X9_249 ⟨Nat.le_of_ble_eq_true rfl, Nat.le_of_ble_eq_true rfl⟩ rfl rfl rfl (Nat.le_of_ble_eq_true rfl) dX9_reasonOf_97 ⟨hc, hs⟩ (fun H locs hR hS => ?_)
        refine lv_istore (lv' := [(4, .int r12), (0, .ref (gB g + v0)), (1, .int v1), (2, .int v2), (3, .int v3)]) hx hb dX9_reasonOf_100 hl (Nat.le_of_ble_eq_true rfl) rfl (fun ls hl => ?_)
        refine lv_iconst (v := (0 : Int32)) hx hb dX9_reasonOf_102 rfl ?_
        refine lv_istore (lv' := [(5, .int (0 : Int32)), (4, .int r12), (0, .ref (gB g + v0)), (1, .int v1), (2, .int v2), (3, .int v3)]) hx hb dX9_reasonOf_103 hl (Nat.le_of_ble_eq_true rfl) rfl (fun ls hl => ?_)
        refine lv_iconst (v := (0 : Int32)) hx hb dX9_reasonOf_105 rfl ?_
        refine lv_istore (lv' := [(6, .int (0 : Int32)), (5, .int (0 : Int32)), (4, .int r12), (0, .ref (gB g + v0)), (1, .int v1), (2, .int v2), (3, .int v3)]) hx hb dX9_reasonOf_106 hl (Nat.le_of_ble_eq_true rfl) rfl (fun ls hl => ?_)
        exact V_X9_reasonOf_108  1000 _ _ _ _ _ _ _ hf p e s m args below meth c _ _ _ _ _ E hR hS (lv_sub hl [3, 2, 1, 0] rfl) hc hs
      · have hf := ite_n hq11 hf
        refine lv_iconst (v := (2 : Int32)) hx hb dX9_reasonOf_94 rfl ?_
        obtain ⟨hr1, hs1⟩ := Prod.mk.inj (Option.some.inj hf)
        exact xr_i E hR hS rfl (by rw [hr1]) hs1.symm hc hs dX9_reasonOf_95
    · have hf := ite_n hq10 hf
      refine lv_iload_n hx hb dX9_reasonOf_34 rfl (lv_at hl 3 rfl) ?_
      refine lv_aload_n hx hb dX9_reasonOf_35 rfl (lv_at hl 0 rfl) ?_
      refine x_getI E hR hk9 ok9 25 (Nat.le_of_ble_eq_true rfl) rfl fl_X9_202 dX9_reasonOf_36 ?_
      refine lv_icmp_ne (tgt := 44) hx hb dX9_reasonOf_39 (by decide) (fun hq14 => ?_) (fun hq14 => ?_)
      · have hf := ite_n hq14 hf
        refine lv_aload_n hx hb dX9_reasonOf_44 rfl (lv_at hl 0 rfl) ?_
        refine lv_dup hx hb dX9_reasonOf_45 rfl ?_
        refine x_getI E hR hk9 ok9 21 (Nat.le_of_ble_eq_true rfl) rfl fl_X9_145 dX9_reasonOf_46 ?_
        refine lv_iconst (v := (1 : Int32)) hx hb dX9_reasonOf_49 rfl ?_
        refine lv_isub hx hb dX9_reasonOf_50 ?_
        obtain ⟨σ15, eσ15, hf⟩ := zl_s hf
        refine x_putI E hR hS hk9 ok9 21 (Nat.le_of_ble_eq_true rfl) rfl fl_X9_145 (Or.inl rfl) rfl rfl dX9_reasonOf_51 (fun H locs hR hS => ?_)
        rw [← eσ15] at hR
        refine lv_aload_n hx hb dX9_reasonOf_54 rfl (lv_at hl 0 rfl) ?_
        refine lv_aload_n hx hb dX9_reasonOf_55 rfl (lv_at hl 0 rfl) ?_
        obtain ⟨b16, hb16, hf⟩ := zr_s hf
        refine x_getR E hR (by rw [eσ15]; exact hk9) hb16 ok9 (Nat.le_of_ble_eq_true rfl) rfl fl_X9_71 dX9_reasonOf_56 ?_
        refine lv_iload_n hx hb dX9_reasonOf_59 rfl (lv_at hl 3 rfl) ?_
        obtain ⟨hk17, hf⟩ := zc_s hf
        refine x_ild E hR hk17 dX9_reasonOf_60 ?_
        refine lv_aload_n hx hb dX9_reasonOf_61 rfl (lv_at hl 0 rfl) ?_
        refine x_getI E hR (by rw [eσ15]; exact hk9) ok9 21 (Nat.le_of_ble_eq_true rfl) rfl fl_X9_145 dX9_reasonOf_62 ?_
        refine lv_iload_n hx hb dX9_reasonOf_65 rfl (lv_at hl 1 rfl) ?_
        refine lv_iload_n hx hb dX9_reasonOf_66 rfl (lv_at hl 2 rfl) ?_
        obtain ⟨r18, σ19, hcr18, hf⟩ := zq_s hf
        refine xV (As := [.int (mD σ15 b16 (ix v3)), .int (mD σ15 v0 21), .int v1, .int v2]) (rest := []) (st1 := [.int r18]) E hR hS hl (C_X9_takeItem hcr18) (by rw [eσ15]; exact hk9) ok9 lb_X9_takeItem lv_X9_takeItem ml_X9_246 ⟨Nat.le_of_ble_eq_true rfl, Nat.le_of_ble_eq_true rfl⟩ rfl rfl rfl (Nat.le_of_ble_eq_true rfl) dX9_reasonOf_67 ⟨hc, hs⟩ (fun H locs hR hS => ?_)
        refine lv_istore (lv' := [(4, .int r18), (0, .ref (gB g + v0)), (1, .int v1), (2, .int v2), (3, .int v3)]) hx hb dX9_reasonOf_70 hl (Nat.le_of_ble_eq_true rfl) rfl (fun ls hl => ?_)
        refine lv_iload hx hb dX9_reasonOf_72 (lv_at hl 0 rfl) ?_
        refine lv_if_eq (tgt := 80) hx hb dX9_reasonOf_74 (by decide) (fun hq20 => ?_) (fun hq20 => ?_)
        · have hf := ite_p hq20 hf
          refine lv_iinc (v := (v3 + (1 : Int32))) (lv' := [(3, .int (v3 + (1 : Int32))), (4, .int r18), (0, .ref (gB g + v0)), (1, .int v1), (2, .int v2)]) hx hb dX9_reasonOf_80 hl (k := 4) rfl rfl (Nat.le_of_ble_eq_true rfl) rfl (fun ls hl => ?_)
          refine lv_goto (tgt := 27) hx hb dX9_reasonOf_83 (by decide) ?_
          exact ih _ _ _ _ _ _ _ hf p e s m args below meth c _ _ _ _ _ E hR hS (lv_sub hl [2, 3, 4, 0] rfl) hc hs
        · have hf := ite_n hq20 hf
          refine lv_iload hx hb dX9_reasonOf_77 (lv_at hl 0 rfl) ?_
          obtain ⟨hr1, hs1⟩ := Prod.mk.inj (Option.some.inj hf)
          exact xr_i E hR hS rfl (by rw [hr1]) hs1.symm hc hs dX9_reasonOf_79
      · have hf := ite_p hq14 hf
        refine lv_iconst (v := (1 : Int32)) hx hb dX9_reasonOf_42 rfl ?_
        obtain ⟨hr1, hs1⟩ := Prod.mk.inj (Option.some.inj hf)
        exact xr_i E hR hS rfl (by rw [hr1]) hs1.symm hc hs dX9_reasonOf_43
set_option maxRecDepth 100000 in
def f_X9_reasonOf (v0 : Nat) (v1 : Int32) (v2 : Int32) (σ : Mm) : Option (Int32 × Mm) :=
  zck (kO σ v0 9) (zlt (sD σ v0 36 (0 : Int32)) (fun σ22 => zlt (sD σ22 v0 37 (0 : Int32)) (fun σ23 => zlt (sD σ23 v0 21 (0 : Int32)) (fun σ24 => zcb (f_X9_want v0 (0 : Int32) (99 : Int32) (-9 : Int32) (0 : Int32) σ24) (fun r25 σ26 => f_X9_reasonOf_27 1000 v0 v1 v2 (0 : Int32) σ26)))))
set_option maxRecDepth 100000 in
set_option maxHeartbeats 4000000 in
theorem V_X9_reasonOf_0 {g : GG} (v0 : Nat) (v1 : Int32) (v2 : Int32) (σ : Mm) (r : Int32) (σ' : Mm) (hf : f_X9_reasonOf v0 v1 v2 σ = some (r, σ')) : VJ g RX9 cX9_reasonOf 7 (some .int) false rm_X9_reasonOf (some (.int r)) σ' (0) (0) 0 [(0, .ref (gB g + v0)), (1, .int v1), (2, .int v2)] [] σ := by
  intro p e s m args below meth c H locs cells slots ls E hR hS hl hc hs
  obtain ⟨hx, hb, hml, hr, hlocks, hown, hts, hin, hT⟩ := id E
  unfold f_X9_reasonOf at hf
  refine lv_aload_n hx hb dX9_reasonOf_0 rfl (lv_at hl 0 rfl) ?_
  refine lv_iconst (v := (0 : Int32)) hx hb dX9_reasonOf_1 rfl ?_
  obtain ⟨hk21, hf⟩ := zc_s hf
  obtain ⟨σ22, eσ22, hf⟩ := zl_s hf
  refine x_putI E hR hS hk21 ok9 36 (Nat.le_of_ble_eq_true rfl) rfl fl_X9_243 (Or.inl rfl) rfl rfl dX9_reasonOf_2 (fun H locs hR hS => ?_)
  rw [← eσ22] at hR
  refine lv_aload_n hx hb dX9_reasonOf_5 rfl (lv_at hl 0 rfl) ?_
  refine lv_iconst (v := (0 : Int32)) hx hb dX9_reasonOf_6 rfl ?_
  obtain ⟨σ23, eσ23, hf⟩ := zl_s hf
  refine x_putI E hR hS (by rw [eσ22]; exact hk21) ok9 37 (Nat.le_of_ble_eq_true rfl) rfl fl_X9_237 (Or.inl rfl) rfl rfl dX9_reasonOf_7 (fun H locs hR hS => ?_)
  rw [← eσ23] at hR
  refine lv_aload_n hx hb dX9_reasonOf_10 rfl (lv_at hl 0 rfl) ?_
  refine lv_iconst (v := (0 : Int32)) hx hb dX9_reasonOf_11 rfl ?_
  obtain ⟨σ24, eσ24, hf⟩ := zl_s hf
  refine x_putI E hR hS (by rw [eσ23, eσ22]; exact hk21) ok9 21 (Nat.le_of_ble_eq_true rfl) rfl fl_X9_145 (Or.inl rfl) rfl rfl dX9_reasonOf_12 (fun H locs hR hS => ?_)
  rw [← eσ24] at hR
  refine lv_aload_n hx hb dX9_reasonOf_15 rfl (lv_at hl 0 rfl) ?_
  refine lv_iconst (v := (0 : Int32)) hx hb dX9_reasonOf_16 rfl ?_
  refine lv_bipush (v := (99 : Int32)) hx hb dX9_reasonOf_17 rfl ?_
  refine lv_bipush (v := (-9 : Int32)) hx hb dX9_reasonOf_19 rfl ?_
  refine lv_iconst (v := (0 : Int32)) hx hb dX9_reasonOf_21 rfl ?_
  obtain ⟨r25, σ26, hcr25, hf⟩ := zq_s hf
  refine xV (As := [.int (0 : Int32), .int (99 : Int32), .int (-9 : Int32), .int (0 : Int32)]) (rest := []) (st1 := []) E hR hS hl (C_X9_want hcr25) (by rw [eσ24, eσ23, eσ22]; exact hk21) ok9 lb_X9_want lv_X9_want ml_X9_153 ⟨Nat.le_of_ble_eq_true rfl, Nat.le_of_ble_eq_true rfl⟩ rfl rfl rfl (Nat.le_of_ble_eq_true rfl) dX9_reasonOf_22 ⟨hc, hs⟩ (fun H locs hR hS => ?_)
  refine lv_iconst (v := (0 : Int32)) hx hb dX9_reasonOf_25 rfl ?_
  refine lv_istore_n (lv' := [(3, .int (0 : Int32)), (0, .ref (gB g + v0)), (1, .int v1), (2, .int v2)]) hx hb dX9_reasonOf_26 rfl hl (Nat.le_of_ble_eq_true rfl) rfl (fun ls hl => ?_)
  exact V_X9_reasonOf_27  1000 _ _ _ _ _ _ _ hf p e s m args below meth c _ _ _ _ _ E hR hS (lv_sub hl [1, 2, 3, 0] rfl) hc hs
theorem C_X9_reasonOf {g : GG} {v0 : Nat} {v1 : Int32} {v2 : Int32} {σ : Mm} {r : Int32} {σ' : Mm} (hf : f_X9_reasonOf v0 v1 v2 σ = some (r, σ')) : Ct g yX9_reasonOf cX9_reasonOf 7 (some .int) rm_X9_reasonOf [.ref (gB g + v0), .int v1, .int v2] σ (some (.int r)) σ' :=
  Ct.of false (by decide +kernel) (fun h => by cases h) (Nat.le_of_ble_eq_true rfl) (V_X9_reasonOf_0 _ _ _ _ _ _ hf)
abbrev rm_X9_read : Room := { frames := 4, cells := 0, slots := 0, locals := 98 }
set_option maxRecDepth 100000 in
def f_X9_read (v0 : Nat) (v1 : Int32) (v2 : Int32) (σ : Mm) : Option (Int32 × Mm) :=
  zcb (f_X9_isRange v1 v2 σ) (fun r1 σ2 => if r1 = 0 then (some ((-2 : Int32), σ2)) else (zck (kO σ2 v0 9) (zcb (f_X9_reasonOf v0 v1 v2 σ2) (fun r5 σ6 => some (r5, σ6)))))
set_option maxRecDepth 100000 in
set_option maxHeartbeats 4000000 in
theorem V_X9_read_0 {g : GG} (v0 : Nat) (v1 : Int32) (v2 : Int32) (σ : Mm) (r : Int32) (σ' : Mm) (hf : f_X9_read v0 v1 v2 σ = some (r, σ')) : VJ g RX9 cX9_read 3 (some .int) false rm_X9_read (some (.int r)) σ' (0) (0) 0 [(0, .ref (gB g + v0)), (1, .int v1), (2, .int v2)] [] σ := by
  intro p e s m args below meth c H locs cells slots ls E hR hS hl hc hs
  obtain ⟨hx, hb, hml, hr, hlocks, hown, hts, hin, hT⟩ := id E
  unfold f_X9_read at hf
  refine lv_iload_n hx hb dX9_read_0 rfl (lv_at hl 1 rfl) ?_
  refine lv_iload_n hx hb dX9_read_1 rfl (lv_at hl 2 rfl) ?_
  obtain ⟨r1, σ2, hcr1, hf⟩ := zq_s hf
  refine xS (As := [.int v1, .int v2]) (rest := []) (st1 := [.int r1]) E hR hS hl (C_X9_isRange hcr1) lb_X9_isRange ls_X9_isRange ml_X9_218 ⟨Nat.le_of_ble_eq_true rfl, Nat.le_of_ble_eq_true rfl⟩ rfl rfl rfl (Nat.le_of_ble_eq_true rfl) dX9_read_2 ⟨hc, hs⟩ (fun H locs hR hS => ?_)
  refine lv_if_eq (tgt := 17) hx hb dX9_read_5 (by decide) (fun hq3 => ?_) (fun hq3 => ?_)
  · have hf := ite_p hq3 hf
    refine lv_bipush (v := (-2 : Int32)) hx hb dX9_read_17 rfl ?_
    obtain ⟨hr1, hs1⟩ := Prod.mk.inj (Option.some.inj hf)
    exact xr_i E hR hS rfl (by rw [hr1]) hs1.symm hc hs dX9_read_19
  · have hf := ite_n hq3 hf
    refine lv_aload_n hx hb dX9_read_8 rfl (lv_at hl 0 rfl) ?_
    refine lv_iload_n hx hb dX9_read_9 rfl (lv_at hl 1 rfl) ?_
    refine lv_iload_n hx hb dX9_read_10 rfl (lv_at hl 2 rfl) ?_
    obtain ⟨hk4, hf⟩ := zc_s hf
    obtain ⟨r5, σ6, hcr5, hf⟩ := zq_s hf
    refine xV (As := [.int v1, .int v2]) (rest := []) (st1 := [.int r5]) E hR hS hl (C_X9_reasonOf hcr5) hk4 ok9 lb_X9_reasonOf lv_X9_reasonOf ml_X9_252 ⟨Nat.le_of_ble_eq_true rfl, Nat.le_of_ble_eq_true rfl⟩ rfl rfl rfl (Nat.le_of_ble_eq_true rfl) dX9_read_11 ⟨hc, hs⟩ (fun H locs hR hS => ?_)
    refine lv_goto (tgt := 19) hx hb dX9_read_14 (by decide) ?_
    obtain ⟨hr1, hs1⟩ := Prod.mk.inj (Option.some.inj hf)
    exact xr_i E hR hS rfl (by rw [hr1]) hs1.symm hc hs dX9_read_19
theorem C_X9_read {g : GG} {v0 : Nat} {v1 : Int32} {v2 : Int32} {σ : Mm} {r : Int32} {σ' : Mm} (hf : f_X9_read v0 v1 v2 σ = some (r, σ')) : Ct g yX9_read cX9_read 3 (some .int) rm_X9_read [.ref (gB g + v0), .int v1, .int v2] σ (some (.int r)) σ' :=
  Ct.of false (by decide +kernel) (fun h => by cases h) (Nat.le_of_ble_eq_true rfl) (V_X9_read_0 _ _ _ _ _ _ hf)
abbrev rm_X9_learnt : Room := { frames := 4, cells := 0, slots := 0, locals := 98 }
set_option maxRecDepth 100000 in
def f_X9_learnt_171 (k_52 : Nat → Int32 → Int32 → Int32 → Int32 → Int32 → Int32 → Int32 → Int32 → Mm → Option (Int32 × Mm)) (v0 : Nat) (v1 : Int32) (v2 : Int32) (v3 : Int32) (v4 : Int32) (v5 : Int32) (v6 : Int32) (v8 : Int32) (w0 : Int32) (σ : Mm) : Option (Int32 × Mm) :=
  k_52 v0 v1 v2 v3 v4 v5 v6 w0 (v8 + (1 : Int32)) σ
set_option maxRecDepth 100000 in
set_option maxHeartbeats 4000000 in
theorem V_X9_learnt_171 {g : GG} (k_52 : Nat → Int32 → Int32 → Int32 → Int32 → Int32 → Int32 → Int32 → Int32 → Mm → Option (Int32 × Mm)) (hk_52 : ∀ (v0 : Nat) (v1 : Int32) (v2 : Int32) (v3 : Int32) (v4 : Int32) (v5 : Int32) (v6 : Int32) (v7 : Int32) (v8 : Int32) (σ : Mm) (r : Int32) (σ' : Mm), k_52 v0 v1 v2 v3 v4 v5 v6 v7 v8 σ = some (r, σ') → VJ g RX9 cX9_learnt 10 (some .int) false rm_X9_learnt (some (.int r)) σ' (0) (0) 52 [(0, .ref (gB g + v0)), (1, .int v1), (2, .int v2), (3, .int v3), (4, .int v4), (5, .int v5), (6, .int v6), (7, .int v7), (8, .int v8)] [] σ) (v0 : Nat) (v1 : Int32) (v2 : Int32) (v3 : Int32) (v4 : Int32) (v5 : Int32) (v6 : Int32) (v8 : Int32) (w0 : Int32) (σ : Mm) (r : Int32) (σ' : Mm) (hf : f_X9_learnt_171 k_52 v0 v1 v2 v3 v4 v5 v6 v8 w0 σ = some (r, σ')) : VJ g RX9 cX9_learnt 10 (some .int) false rm_X9_learnt (some (.int r)) σ' (0) (0) 171 [(0, .ref (gB g + v0)), (1, .int v1), (2, .int v2), (3, .int v3), (4, .int v4), (5, .int v5), (6, .int v6), (8, .int v8)] [.int w0] σ := by
  intro p e s m args below meth c H locs cells slots ls E hR hS hl hc hs
  obtain ⟨hx, hb, hml, hr, hlocks, hown, hts, hin, hT⟩ := id E
  unfold f_X9_learnt_171 at hf
  refine lv_istore (lv' := [(7, .int w0), (0, .ref (gB g + v0)), (1, .int v1), (2, .int v2), (3, .int v3), (4, .int v4), (5, .int v5), (6, .int v6), (8, .int v8)]) hx hb dX9_learnt_171 hl (Nat.le_of_ble_eq_true rfl) rfl (fun ls hl => ?_)
  refine lv_iinc (v := (v8 + (1 : Int32))) (lv' := [(8, .int (v8 + (1 : Int32))), (7, .int w0), (0, .ref (gB g + v0)), (1, .int v1), (2, .int v2), (3, .int v3), (4, .int v4), (5, .int v5), (6, .int v6)]) hx hb dX9_learnt_173 hl (k := 8) rfl rfl (Nat.le_of_ble_eq_true rfl) rfl (fun ls hl => ?_)
  refine lv_goto (tgt := 52) hx hb dX9_learnt_176 (by decide) ?_
  exact hk_52 _ _ _ _ _ _ _ _ _ _ _ _ hf p e s m args below meth c _ _ _ _ _ E hR hS (lv_sub hl [2, 3, 4, 5, 6, 7, 8, 1, 0] rfl) hc hs
set_option maxRecDepth 100000 in
def f_X9_learnt_164 (k_52 : Nat → Int32 → Int32 → Int32 → Int32 → Int32 → Int32 → Int32 → Int32 → Mm → Option (Int32 × Mm)) (v0 : Nat) (v1 : Int32) (v2 : Int32) (v3 : Int32) (v4 : Int32) (v5 : Int32) (v6 : Int32) (v8 : Int32) (v9 : Int32) (σ : Mm) : Option (Int32 × Mm) :=
  f_X9_learnt_171 k_52 v0 v1 v2 v3 v4 v5 v6 v8 v9 σ
set_option maxRecDepth 100000 in
set_option maxHeartbeats 4000000 in
theorem V_X9_learnt_164 {g : GG} (k_52 : Nat → Int32 → Int32 → Int32 → Int32 → Int32 → Int32 → Int32 → Int32 → Mm → Option (Int32 × Mm)) (hk_52 : ∀ (v0 : Nat) (v1 : Int32) (v2 : Int32) (v3 : Int32) (v4 : Int32) (v5 : Int32) (v6 : Int32) (v7 : Int32) (v8 : Int32) (σ : Mm) (r : Int32) (σ' : Mm), k_52 v0 v1 v2 v3 v4 v5 v6 v7 v8 σ = some (r, σ') → VJ g RX9 cX9_learnt 10 (some .int) false rm_X9_learnt (some (.int r)) σ' (0) (0) 52 [(0, .ref (gB g + v0)), (1, .int v1), (2, .int v2), (3, .int v3), (4, .int v4), (5, .int v5), (6, .int v6), (7, .int v7), (8, .int v8)] [] σ) (v0 : Nat) (v1 : Int32) (v2 : Int32) (v3 : Int32) (v4 : Int32) (v5 : Int32) (v6 : Int32) (v8 : Int32) (v9 : Int32) (σ : Mm) (r : Int32) (σ' : Mm) (hf : f_X9_learnt_164 k_52 v0 v1 v2 v3 v4 v5 v6 v8 v9 σ = some (r, σ')) : VJ g RX9 cX9_learnt 10 (some .int) false rm_X9_learnt (some (.int r)) σ' (0) (0) 164 [(0, .ref (gB g + v0)), (1, .int v1), (2, .int v2), (3, .int v3), (4, .int v4), (5, .int v5), (6, .int v6), (8, .int v8), (9, .int v9)] [] σ := by
  intro p e s m args below meth c H locs cells slots ls E hR hS hl hc hs
  obtain ⟨hx, hb, hml, hr, hlocks, hown, hts, hin, hT⟩ := id E
  unfold f_X9_learnt_164 at hf
  refine lv_iload hx hb dX9_learnt_164 (lv_at hl 8 rfl) ?_
  refine lv_goto (tgt := 171) hx hb dX9_learnt_166 (by decide) ?_
  exact V_X9_learnt_171 _ hk_52 _ _ _ _ _ _ _ _ _ _ _ _ hf p e s m args below meth c _ _ _ _ _ E hR hS (lv_sub hl [0, 1, 2, 3, 4, 5, 6, 7] rfl) hc hs
set_option maxRecDepth 100000 in
def f_X9_learnt_169 (k_52 : Nat → Int32 → Int32 → Int32 → Int32 → Int32 → Int32 → Int32 → Int32 → Mm → Option (Int32 × Mm)) (v0 : Nat) (v1 : Int32) (v2 : Int32) (v3 : Int32) (v4 : Int32) (v5 : Int32) (v6 : Int32) (v7 : Int32) (v8 : Int32) (σ : Mm) : Option (Int32 × Mm) :=
  f_X9_learnt_171 k_52 v0 v1 v2 v3 v4 v5 v6 v8 v7 σ
set_option maxRecDepth 100000 in
set_option maxHeartbeats 4000000 in
theorem V_X9_learnt_169 {g : GG} (k_52 : Nat → Int32 → Int32 → Int32 → Int32 → Int32 → Int32 → Int32 → Int32 → Mm → Option (Int32 × Mm)) (hk_52 : ∀ (v0 : Nat) (v1 : Int32) (v2 : Int32) (v3 : Int32) (v4 : Int32) (v5 : Int32) (v6 : Int32) (v7 : Int32) (v8 : Int32) (σ : Mm) (r : Int32) (σ' : Mm), k_52 v0 v1 v2 v3 v4 v5 v6 v7 v8 σ = some (r, σ') → VJ g RX9 cX9_learnt 10 (some .int) false rm_X9_learnt (some (.int r)) σ' (0) (0) 52 [(0, .ref (gB g + v0)), (1, .int v1), (2, .int v2), (3, .int v3), (4, .int v4), (5, .int v5), (6, .int v6), (7, .int v7), (8, .int v8)] [] σ) (v0 : Nat) (v1 : Int32) (v2 : Int32) (v3 : Int32) (v4 : Int32) (v5 : Int32) (v6 : Int32) (v7 : Int32) (v8 : Int32) (σ : Mm) (r : Int32) (σ' : Mm) (hf : f_X9_learnt_169 k_52 v0 v1 v2 v3 v4 v5 v6 v7 v8 σ = some (r, σ')) : VJ g RX9 cX9_learnt 10 (some .int) false rm_X9_learnt (some (.int r)) σ' (0) (0) 169 [(0, .ref (gB g + v0)), (1, .int v1), (2, .int v2), (3, .int v3), (4, .int v4), (5, .int v5), (6, .int v6), (7, .int v7), (8, .int v8)] [] σ := by
  intro p e s m args below meth c H locs cells slots ls E hR hS hl hc hs
  obtain ⟨hx, hb, hml, hr, hlocks, hown, hts, hin, hT⟩ := id E
  unfold f_X9_learnt_169 at hf
  refine lv_iload hx hb dX9_learnt_169 (lv_at hl 7 rfl) ?_
  exact V_X9_learnt_171 _ hk_52 _ _ _ _ _ _ _ _ _ _ _ _ hf p e s m args below meth c _ _ _ _ _ E hR hS (lv_sub hl [0, 1, 2, 3, 4, 5, 6, 8] rfl) hc hs
set_option maxRecDepth 100000 in
def f_X9_learnt_142 (k_52 : Nat → Int32 → Int32 → Int32 → Int32 → Int32 → Int32 → Int32 → Int32 → Mm → Option (Int32 × Mm)) (v0 : Nat) (v1 : Int32) (v2 : Int32) (v3 : Int32) (v4 : Int32) (v5 : Int32) (v7 : Int32) (v8 : Int32) (v9 : Int32) (w0 : Int32) (σ : Mm) : Option (Int32 × Mm) :=
  if v9 ≤ v2 then (f_X9_learnt_169 k_52 v0 v1 v2 v3 v4 v5 w0 v7 v8 σ) else (if v7 = (-9 : Int32) then (f_X9_learnt_164 k_52 v0 v1 v2 v3 v4 v5 w0 v8 v9 σ) else (if v7 ≤ v9 then (f_X9_learnt_169 k_52 v0 v1 v2 v3 v4 v5 w0 v7 v8 σ) else (f_X9_learnt_164 k_52 v0 v1 v2 v3 v4 v5 w0 v8 v9 σ)))
set_option maxRecDepth 100000 in
set_option maxHeartbeats 4000000 in
theorem V_X9_learnt_142 {g : GG} (k_52 : Nat → Int32 → Int32 → Int32 → Int32 → Int32 → Int32 → Int32 → Int32 → Mm → Option (Int32 × Mm)) (hk_52 : ∀ (v0 : Nat) (v1 : Int32) (v2 : Int32) (v3 : Int32) (v4 : Int32) (v5 : Int32) (v6 : Int32) (v7 : Int32) (v8 : Int32) (σ : Mm) (r : Int32) (σ' : Mm), k_52 v0 v1 v2 v3 v4 v5 v6 v7 v8 σ = some (r, σ') → VJ g RX9 cX9_learnt 10 (some .int) false rm_X9_learnt (some (.int r)) σ' (0) (0) 52 [(0, .ref (gB g + v0)), (1, .int v1), (2, .int v2), (3, .int v3), (4, .int v4), (5, .int v5), (6, .int v6), (7, .int v7), (8, .int v8)] [] σ) (v0 : Nat) (v1 : Int32) (v2 : Int32) (v3 : Int32) (v4 : Int32) (v5 : Int32) (v7 : Int32) (v8 : Int32) (v9 : Int32) (w0 : Int32) (σ : Mm) (r : Int32) (σ' : Mm) (hf : f_X9_learnt_142 k_52 v0 v1 v2 v3 v4 v5 v7 v8 v9 w0 σ = some (r, σ')) : VJ g RX9 cX9_learnt 10 (some .int) false rm_X9_learnt (some (.int r)) σ' (0) (0) 142 [(0, .ref (gB g + v0)), (1, .int v1), (2, .int v2), (3, .int v3), (4, .int v4), (5, .int v5), (7, .int v7), (8, .int v8), (9, .int v9)] [.int w0] σ := by
  intro p e s m args below meth c H locs cells slots ls E hR hS hl hc hs
  obtain ⟨hx, hb, hml, hr, hlocks, hown, hts, hin, hT⟩ := id E
  unfold f_X9_learnt_142 at hf
  refine lv_istore (lv' := [(6, .int w0), (0, .ref (gB g + v0)), (1, .int v1), (2, .int v2), (3, .int v3), (4, .int v4), (5, .int v5), (7, .int v7), (8, .int v8), (9, .int v9)]) hx hb dX9_learnt_142 hl (Nat.le_of_ble_eq_true rfl) rfl (fun ls hl => ?_)
  refine lv_iload hx hb dX9_learnt_144 (lv_at hl 9 rfl) ?_
  refine lv_iload_n hx hb dX9_learnt_146 rfl (lv_at hl 3 rfl) ?_
  refine lv_icmp_le (tgt := 169) hx hb dX9_learnt_147 (by decide) (fun hq1 => ?_) (fun hq1 => ?_)
  · have hf := ite_p hq1 hf
    exact V_X9_learnt_169 _ hk_52 _ _ _ _ _ _ _ _ _ _ _ _ hf p e s m args below meth c _ _ _ _ _ E hR hS (lv_sub hl [1, 2, 3, 4, 5, 6, 0, 7, 8] rfl) hc hs
  · have hf := ite_n hq1 hf
    refine lv_iload hx hb dX9_learnt_150 (lv_at hl 7 rfl) ?_
    refine lv_bipush (v := (-9 : Int32)) hx hb dX9_learnt_152 rfl ?_
    refine lv_icmp_eq (tgt := 164) hx hb dX9_learnt_154 (by decide) (fun hq2 => ?_) (fun hq2 => ?_)
    · have hf := ite_p hq2 hf
      exact V_X9_learnt_164 _ hk_52 _ _ _ _ _ _ _ _ _ _ _ _ hf p e s m args below meth c _ _ _ _ _ E hR hS (lv_sub hl [1, 2, 3, 4, 5, 6, 0, 8, 9] rfl) hc hs
    · have hf := ite_n hq2 hf
      refine lv_iload hx hb dX9_learnt_157 (lv_at hl 9 rfl) ?_
      refine lv_iload hx hb dX9_learnt_159 (lv_at hl 7 rfl) ?_
      refine lv_icmp_ge (tgt := 169) hx hb dX9_learnt_161 (by decide) (fun hq3 => ?_) (fun hq3 => ?_)
      · have hf := ite_p hq3 hf
        exact V_X9_learnt_169 _ hk_52 _ _ _ _ _ _ _ _ _ _ _ _ hf p e s m args below meth c _ _ _ _ _ E hR hS (lv_sub hl [1, 2, 3, 4, 5, 6, 0, 7, 8] rfl) hc hs
      · have hf := ite_n hq3 hf
        exact V_X9_learnt_164 _ hk_52 _ _ _ _ _ _ _ _ _ _ _ _ hf p e s m args below meth c _ _ _ _ _ E hR hS (lv_sub hl [1, 2, 3, 4, 5, 6, 0, 8, 9] rfl) hc hs
set_option maxRecDepth 100000 in
def f_X9_learnt_140 (k_52 : Nat → Int32 → Int32 → Int32 → Int32 → Int32 → Int32 → Int32 → Int32 → Mm → Option (Int32 × Mm)) (v0 : Nat) (v1 : Int32) (v2 : Int32) (v3 : Int32) (v4 : Int32) (v5 : Int32) (v6 : Int32) (v7 : Int32) (v8 : Int32) (v9 : Int32) (σ : Mm) : Option (Int32 × Mm) :=
  f_X9_learnt_142 k_52 v0 v1 v2 v3 v4 v5 v7 v8 v9 v6 σ
set_option maxRecDepth 100000 in
set_option maxHeartbeats 4000000 in
theorem V_X9_learnt_140 {g : GG} (k_52 : Nat → Int32 → Int32 → Int32 → Int32 → Int32 → Int32 → Int32 → Int32 → Mm → Option (Int32 × Mm)) (hk_52 : ∀ (v0 : Nat) (v1 : Int32) (v2 : Int32) (v3 : Int32) (v4 : Int32) (v5 : Int32) (v6 : Int32) (v7 : Int32) (v8 : Int32) (σ : Mm) (r : Int32) (σ' : Mm), k_52 v0 v1 v2 v3 v4 v5 v6 v7 v8 σ = some (r, σ') → VJ g RX9 cX9_learnt 10 (some .int) false rm_X9_learnt (some (.int r)) σ' (0) (0) 52 [(0, .ref (gB g + v0)), (1, .int v1), (2, .int v2), (3, .int v3), (4, .int v4), (5, .int v5), (6, .int v6), (7, .int v7), (8, .int v8)] [] σ) (v0 : Nat) (v1 : Int32) (v2 : Int32) (v3 : Int32) (v4 : Int32) (v5 : Int32) (v6 : Int32) (v7 : Int32) (v8 : Int32) (v9 : Int32) (σ : Mm) (r : Int32) (σ' : Mm) (hf : f_X9_learnt_140 k_52 v0 v1 v2 v3 v4 v5 v6 v7 v8 v9 σ = some (r, σ')) : VJ g RX9 cX9_learnt 10 (some .int) false rm_X9_learnt (some (.int r)) σ' (0) (0) 140 [(0, .ref (gB g + v0)), (1, .int v1), (2, .int v2), (3, .int v3), (4, .int v4), (5, .int v5), (6, .int v6), (7, .int v7), (8, .int v8), (9, .int v9)] [] σ := by
  intro p e s m args below meth c H locs cells slots ls E hR hS hl hc hs
  obtain ⟨hx, hb, hml, hr, hlocks, hown, hts, hin, hT⟩ := id E
  unfold f_X9_learnt_140 at hf
  refine lv_iload hx hb dX9_learnt_140 (lv_at hl 6 rfl) ?_
  exact V_X9_learnt_142 _ hk_52 _ _ _ _ _ _ _ _ _ _ _ _ _ hf p e s m args below meth c _ _ _ _ _ E hR hS (lv_sub hl [0, 1, 2, 3, 4, 5, 7, 8, 9] rfl) hc hs
set_option maxRecDepth 100000 in
def f_X9_learnt_119 (k_52 : Nat → Int32 → Int32 → Int32 → Int32 → Int32 → Int32 → Int32 → Int32 → Mm → Option (Int32 × Mm)) (v0 : Nat) (v1 : Int32) (v2 : Int32) (v3 : Int32) (v4 : Int32) (v6 : Int32) (v7 : Int32) (v8 : Int32) (v9 : Int32) (w0 : Int32) (w1 : Int32) (σ : Mm) : Option (Int32 × Mm) :=
  if v1 ≤ v9 then (f_X9_learnt_140 k_52 v0 v1 v2 v3 v4 (w0 + w1) v6 v7 v8 v9 σ) else (if v9 ≤ v6 then (f_X9_learnt_140 k_52 v0 v1 v2 v3 v4 (w0 + w1) v6 v7 v8 v9 σ) else (f_X9_learnt_142 k_52 v0 v1 v2 v3 v4 (w0 + w1) v7 v8 v9 v9 σ))
set_option maxRecDepth 100000 in
set_option maxHeartbeats 4000000 in
theorem V_X9_learnt_119 {g : GG} (k_52 : Nat → Int32 → Int32 → Int32 → Int32 → Int32 → Int32 → Int32 → Int32 → Mm → Option (Int32 × Mm)) (hk_52 : ∀ (v0 : Nat) (v1 : Int32) (v2 : Int32) (v3 : Int32) (v4 : Int32) (v5 : Int32) (v6 : Int32) (v7 : Int32) (v8 : Int32) (σ : Mm) (r : Int32) (σ' : Mm), k_52 v0 v1 v2 v3 v4 v5 v6 v7 v8 σ = some (r, σ') → VJ g RX9 cX9_learnt 10 (some .int) false rm_X9_learnt (some (.int r)) σ' (0) (0) 52 [(0, .ref (gB g + v0)), (1, .int v1), (2, .int v2), (3, .int v3), (4, .int v4), (5, .int v5), (6, .int v6), (7, .int v7), (8, .int v8)] [] σ) (v0 : Nat) (v1 : Int32) (v2 : Int32) (v3 : Int32) (v4 : Int32) (v6 : Int32) (v7 : Int32) (v8 : Int32) (v9 : Int32) (w0 : Int32) (w1 : Int32) (σ : Mm) (r : Int32) (σ' : Mm) (hf : f_X9_learnt_119 k_52 v0 v1 v2 v3 v4 v6 v7 v8 v9 w0 w1 σ = some (r, σ')) : VJ g RX9 cX9_learnt 10 (some .int) false rm_X9_learnt (some (.int r)) σ' (0) (0) 119 [(0, .ref (gB g + v0)), (1, .int v1), (2, .int v2), (3, .int v3), (4, .int v4), (6, .int v6), (7, .int v7), (8, .int v8), (9, .int v9)] [.int w1, .int w0] σ := by
  intro p e s m args below meth c H locs cells slots ls E hR hS hl hc hs
  obtain ⟨hx, hb, hml, hr, hlocks, hown, hts, hin, hT⟩ := id E
  unfold f_X9_learnt_119 at hf
  refine lv_iadd hx hb dX9_learnt_119 ?_
  refine lv_istore (lv' := [(5, .int (w0 + w1)), (0, .ref (gB g + v0)), (1, .int v1), (2, .int v2), (3, .int v3), (4, .int v4), (6, .int v6), (7, .int v7), (8, .int v8), (9, .int v9)]) hx hb dX9_learnt_120 hl (Nat.le_of_ble_eq_true rfl) rfl (fun ls hl => ?_)
  refine lv_iload hx hb dX9_learnt_122 (lv_at hl 9 rfl) ?_
  refine lv_iload_n hx hb dX9_learnt_124 rfl (lv_at hl 2 rfl) ?_
  refine lv_icmp_ge (tgt := 140) hx hb dX9_learnt_125 (by decide) (fun hq4 => ?_) (fun hq4 => ?_)
  · have hf := ite_p hq4 hf
    exact V_X9_learnt_140 _ hk_52 _ _ _ _ _ _ _ _ _ _ _ _ _ hf p e s m args below meth c _ _ _ _ _ E hR hS (lv_sub hl [1, 2, 3, 4, 5, 0, 6, 7, 8, 9] rfl) hc hs
  · have hf := ite_n hq4 hf
    refine lv_iload hx hb dX9_learnt_128 (lv_at hl 9 rfl) ?_
    refine lv_iload hx hb dX9_learnt_130 (lv_at hl 6 rfl) ?_
    refine lv_icmp_le (tgt := 140) hx hb dX9_learnt_132 (by decide) (fun hq5 => ?_) (fun hq5 => ?_)
    · have hf := ite_p hq5 hf
      exact V_X9_learnt_140 _ hk_52 _ _ _ _ _ _ _ _ _ _ _ _ _ hf p e s m args below meth c _ _ _ _ _ E hR hS (lv_sub hl [1, 2, 3, 4, 5, 0, 6, 7, 8, 9] rfl) hc hs
    · have hf := ite_n hq5 hf
      refine lv_iload hx hb dX9_learnt_135 (lv_at hl 9 rfl) ?_
      refine lv_goto (tgt := 142) hx hb dX9_learnt_137 (by decide) ?_
      exact V_X9_learnt_142 _ hk_52 _ _ _ _ _ _ _ _ _ _ _ _ _ hf p e s m args below meth c _ _ _ _ _ E hR hS (lv_sub hl [1, 2, 3, 4, 5, 0, 7, 8, 9] rfl) hc hs
set_option maxRecDepth 100000 in
def f_X9_learnt_90 (k_52 : Nat → Int32 → Int32 → Int32 → Int32 → Int32 → Int32 → Int32 → Int32 → Mm → Option (Int32 × Mm)) (v0 : Nat) (v1 : Int32) (v2 : Int32) (v3 : Int32) (v5 : Int32) (v6 : Int32) (v7 : Int32) (v8 : Int32) (v9 : Int32) (w0 : Int32) (w1 : Int32) (σ : Mm) : Option (Int32 × Mm) :=
  zcb (f_X9_in ((v9).toInt64) ((v1).toInt64) ((v2).toInt64) σ) (fun r6 σ7 => if r6 = 0 then (f_X9_learnt_119 k_52 v0 v1 v2 v3 (w0 + w1) v6 v7 v8 v9 v5 (0 : Int32) σ7) else (zck (kO σ7 v0 9) (zrb (mR σ7 v0 30) (fun b10 => zck (kA σ7 1 b10 v8) (f_X9_learnt_119 k_52 v0 v1 v2 v3 (w0 + w1) v6 v7 v8 v9 v5 (mD σ7 b10 (ix v8)) σ7)))))
set_option maxRecDepth 100000 in
set_option maxHeartbeats 4000000 in
theorem V_X9_learnt_90 {g : GG} (k_52 : Nat → Int32 → Int32 → Int32 → Int32 → Int32 → Int32 → Int32 → Int32 → Mm → Option (Int32 × Mm)) (hk_52 : ∀ (v0 : Nat) (v1 : Int32) (v2 : Int32) (v3 : Int32) (v4 : Int32) (v5 : Int32) (v6 : Int32) (v7 : Int32) (v8 : Int32) (σ : Mm) (r : Int32) (σ' : Mm), k_52 v0 v1 v2 v3 v4 v5 v6 v7 v8 σ = some (r, σ') → VJ g RX9 cX9_learnt 10 (some .int) false rm_X9_learnt (some (.int r)) σ' (0) (0) 52 [(0, .ref (gB g + v0)), (1, .int v1), (2, .int v2), (3, .int v3), (4, .int v4), (5, .int v5), (6, .int v6), (7, .int v7), (8, .int v8)] [] σ) (v0 : Nat) (v1 : Int32) (v2 : Int32) (v3 : Int32) (v5 : Int32) (v6 : Int32) (v7 : Int32) (v8 : Int32) (v9 : Int32) (w0 : Int32) (w1 : Int32) (σ : Mm) (r : Int32) (σ' : Mm) (hf : f_X9_learnt_90 k_52 v0 v1 v2 v3 v5 v6 v7 v8 v9 w0 w1 σ = some (r, σ')) : VJ g RX9 cX9_learnt 10 (some .int) false rm_X9_learnt (some (.int r)) σ' (0) (0) 90 [(0, .ref (gB g + v0)), (1, .int v1), (2, .int v2), (3, .int v3), (5, .int v5), (6, .int v6), (7, .int v7), (8, .int v8), (9, .int v9)] [.int w1, .int w0] σ := by
  intro p e s m args below meth c H locs cells slots ls E hR hS hl hc hs
  obtain ⟨hx, hb, hml, hr, hlocks, hown, hts, hin, hT⟩ := id E
  unfold f_X9_learnt_90 at hf
  refine lv_iadd hx hb dX9_learnt_90 ?_
  refine lv_istore (lv' := [(4, .int (w0 + w1)), (0, .ref (gB g + v0)), (1, .int v1), (2, .int v2), (3, .int v3), (5, .int v5), (6, .int v6), (7, .int v7), (8, .int v8), (9, .int v9)]) hx hb dX9_learnt_91 hl (Nat.le_of_ble_eq_true rfl) rfl (fun ls hl => ?_)
  refine lv_iload hx hb dX9_learnt_93 (lv_at hl 5 rfl) ?_
  refine lv_iload hx hb dX9_learnt_95 (lv_at hl 9 rfl) ?_
  refine lv_i2l (v := (v9).toInt64) hx hb dX9_learnt_97 rfl ?_
  refine lv_iload_n hx hb dX9_learnt_98 rfl (lv_at hl 2 rfl) ?_
  refine lv_i2l (v := (v1).toInt64) hx hb dX9_learnt_99 rfl ?_
  refine lv_iload_n hx hb dX9_learnt_100 rfl (lv_at hl 3 rfl) ?_
  refine lv_i2l (v := (v2).toInt64) hx hb dX9_learnt_101 rfl ?_
  obtain ⟨r6, σ7, hcr6, hf⟩ := zq_s hf
  refine xS (As := [.long ((v9).toInt64), .long ((v1).toInt64), .long ((v2).toInt64)]) (rest := [.int v5]) (st1 := [.int r6, .int v5]) E hR hS hl (C_X9_in hcr6) lb_X9_in ls_X9_in ml_X9_121 ⟨Nat.le_of_ble_eq_true rfl, Nat.le_of_ble_eq_true rfl⟩ rfl rfl rfl (Nat.le_of_ble_eq_true rfl) dX9_learnt_102 ⟨hc, hs⟩ (fun H locs hR hS => ?_)
  refine lv_if_eq (tgt := 118) hx hb dX9_learnt_105 (by decide) (fun hq8 => ?_) (fun hq8 => ?_)
  · have hf := ite_p hq8 hf
    refine lv_iconst (v := (0 : Int32)) hx hb dX9_learnt_118 rfl ?_
    exact V_X9_learnt_119 _ hk_52 _ _ _ _ _ _ _ _ _ _ _ _ _ _ hf p e s m args below meth c _ _ _ _ _ E hR hS (lv_sub hl [1, 2, 3, 4, 0, 6, 7, 8, 9] rfl) hc hs
  · have hf := ite_n hq8 hf
    refine lv_aload_n hx hb dX9_learnt_108 rfl (lv_at hl 1 rfl) ?_
    obtain ⟨hk9, hf⟩ := zc_s hf
    obtain ⟨b10, hb10, hf⟩ := zr_s hf
    refine x_getR E hR hk9 hb10 ok9 (Nat.le_of_ble_eq_true rfl) rfl fl_X9_80 dX9_learnt_109 ?_
    refine lv_iload hx hb dX9_learnt_112 (lv_at hl 8 rfl) ?_
    obtain ⟨hk11, hf⟩ := zc_s hf
    refine x_ild E hR hk11 dX9_learnt_114 ?_
    refine lv_goto (tgt := 119) hx hb dX9_learnt_115 (by decide) ?_
    exact V_X9_learnt_119 _ hk_52 _ _ _ _ _ _ _ _ _ _ _ _ _ _ hf p e s m args below meth c _ _ _ _ _ E hR hS (lv_sub hl [1, 2, 3, 4, 0, 6, 7, 8, 9] rfl) hc hs
set_option maxRecDepth 100000 in
def f_X9_learnt_52 : Nat → Nat → Int32 → Int32 → Int32 → Int32 → Int32 → Int32 → Int32 → Int32 → Mm → Option (Int32 × Mm)
  | 0, _, _, _, _, _, _, _, _, _, _ => none
  | n + 1, v0, v1, v2, v3, v4, v5, v6, v7, v8, σ =>
    zck (kO σ v0 9) (if (mD σ v0 36) ≤ v8 then (if v3 = (0 : Int32) then (some (v4, σ)) else (if v3 = (1 : Int32) then (some (v5, σ)) else (if v3 = (2 : Int32) then (some (v6, σ)) else (if v3 = (3 : Int32) then (some (v7, σ)) else (some ((mD σ v0 36), σ)))))) else (zrb (mR σ v0 29) (fun b19 => zck (kA σ 1 b19 v8) (zcb (f_X9_in (((mD σ b19 (ix v8))).toInt64) ((v1).toInt64) ((v2).toInt64) σ) (fun r21 σ22 => if r21 = 0 then (f_X9_learnt_90 (f_X9_learnt_52 n) v0 v1 v2 v3 v5 v6 v7 v8 (mD σ b19 (ix v8)) v4 (0 : Int32) σ22) else (f_X9_learnt_90 (f_X9_learnt_52 n) v0 v1 v2 v3 v5 v6 v7 v8 (mD σ b19 (ix v8)) v4 (1 : Int32) σ22))))))
set_option maxRecDepth 100000 in
set_option maxHeartbeats 4000000 in
theorem V_X9_learnt_52 {g : GG} : ∀ (n : Nat) (v0 : Nat) (v1 : Int32) (v2 : Int32) (v3 : Int32) (v4 : Int32) (v5 : Int32) (v6 : Int32) (v7 : Int32) (v8 : Int32) (σ : Mm) (r : Int32) (σ' : Mm), f_X9_learnt_52 n v0 v1 v2 v3 v4 v5 v6 v7 v8 σ = some (r, σ') → VJ g RX9 cX9_learnt 10 (some .int) false rm_X9_learnt (some (.int r)) σ' (0) (0) 52 [(0, .ref (gB g + v0)), (1, .int v1), (2, .int v2), (3, .int v3), (4, .int v4), (5, .int v5), (6, .int v6), (7, .int v7), (8, .int v8)] [] σ := by
  intro n
  induction n with
  | zero =>
    intro v0 v1 v2 v3 v4 v5 v6 v7 v8 σ r σ' hf
    unfold f_X9_learnt_52 at hf
    cases hf
  | succ n ih =>
    intro v0 v1 v2 v3 v4 v5 v6 v7 v8 σ r σ' hf p e s m args below meth c H locs cells slots ls E hR hS hl hc hs
    obtain ⟨hx, hb, hml, hr, hlocks, hown, hts, hin, hT⟩ := id E
    unfold f_X9_learnt_52 at hf
    refine lv_iload hx hb dX9_learnt_52 (lv_at hl 8 rfl) ?_
    refine lv_aload_n hx hb dX9_learnt_54 rfl (lv_at hl 0 rfl) ?_
    obtain ⟨hk12, hf⟩ := zc_s hf
    refine x_getI E hR hk12 ok9 36 (Nat.le_of_ble_eq_true rfl) rfl fl_X9_243 dX9_learnt_55 ?_
    refine lv_icmp_ge (tgt := 179) hx hb dX9_learnt_58 (by decide) (fun hq13 => ?_) (fun hq13 => ?_)
    · have hf := ite_p hq13 hf
      refine lv_iload_n hx hb dX9_learnt_179 rfl (lv_at hl 3 rfl) ?_
      refine lv_topi (fun x14 ex => ?_)
      subst ex
      by_cases hq15 : x14 = (0 : Int32)
      · have hf := ite_p hq15 hf
        refine lv_tableIn (tgt := 212) (off := 32) hx hb dX9_learnt_180 (by rw [hq15]; decide) (by rw [hq15]; decide) (by rw [hq15]; decide) (by decide) ?_
        refine lv_iload hx hb dX9_learnt_212 (lv_at hl 4 rfl) ?_
        obtain ⟨hr1, hs1⟩ := Prod.mk.inj (Option.some.inj hf)
        exact xr_i E hR hS rfl (by rw [hr1]) hs1.symm hc hs dX9_learnt_214
      have hf := ite_n hq15 hf
      by_cases hq16 : x14 = (1 : Int32)
      · have hf := ite_p hq16 hf
        refine lv_tableIn (tgt := 215) (off := 35) hx hb dX9_learnt_180 (by rw [hq16]; decide) (by rw [hq16]; decide) (by rw [hq16]; decide) (by decide) ?_
        refine lv_iload hx hb dX9_learnt_215 (lv_at hl 5 rfl) ?_
        obtain ⟨hr1, hs1⟩ := Prod.mk.inj (Option.some.inj hf)
        exact xr_i E hR hS rfl (by rw [hr1]) hs1.symm hc hs dX9_learnt_217
      have hf := ite_n hq16 hf
      by_cases hq17 : x14 = (2 : Int32)
      · have hf := ite_p hq17 hf
        refine lv_tableIn (tgt := 218) (off := 38) hx hb dX9_learnt_180 (by rw [hq17]; decide) (by rw [hq17]; decide) (by rw [hq17]; decide) (by decide) ?_
        refine lv_iload hx hb dX9_learnt_218 (lv_at hl 6 rfl) ?_
        obtain ⟨hr1, hs1⟩ := Prod.mk.inj (Option.some.inj hf)
        exact xr_i E hR hS rfl (by rw [hr1]) hs1.symm hc hs dX9_learnt_220
      have hf := ite_n hq17 hf
      by_cases hq18 : x14 = (3 : Int32)
      · have hf := ite_p hq18 hf
        refine lv_tableIn (tgt := 221) (off := 41) hx hb dX9_learnt_180 (by rw [hq18]; decide) (by rw [hq18]; decide) (by rw [hq18]; decide) (by decide) ?_
        refine lv_iload hx hb dX9_learnt_221 (lv_at hl 7 rfl) ?_
        obtain ⟨hr1, hs1⟩ := Prod.mk.inj (Option.some.inj hf)
        exact xr_i E hR hS rfl (by rw [hr1]) hs1.symm hc hs dX9_learnt_223
      have hf := ite_n hq18 hf
      refine lv_tableOut (tgt := 224) hx hb dX9_learnt_180 (sw_out (fun j h1 h2 => by
          have hj : j = 0 ∨ j = 1 ∨ j = 2 ∨ j = 3 := by omega
          rcases hj with rfl | rfl | rfl | rfl
          · exact hq15
          · exact hq16
          · exact hq17
          · exact hq18
          )) (by decide) ?_
      refine lv_aload_n hx hb dX9_learnt_224 rfl (lv_at hl 0 rfl) ?_
      refine x_getI E hR hk12 ok9 36 (Nat.le_of_ble_eq_true rfl) rfl fl_X9_243 dX9_learnt_225 ?_
      obtain ⟨hr1, hs1⟩ := Prod.mk.inj (Option.some.inj hf)
      exact xr_i E hR hS rfl (by rw [hr1]) hs1.symm hc hs dX9_learnt_228
    · have hf := ite_n hq13 hf
      refine lv_aload_n hx hb dX9_learnt_61 rfl (lv_at hl 0 rfl) ?_
      obtain ⟨b19, hb19, hf⟩ := zr_s hf
      refine x_getR E hR hk12 hb19 ok9 (Nat.le_of_ble_eq_true rfl) rfl fl_X9_77 dX9_learnt_62 ?_
      refine lv_iload hx hb dX9_learnt_65 (lv_at hl 8 rfl) ?_
      obtain ⟨hk20, hf⟩ := zc_s hf
      refine x_ild E hR hk20 dX9_learnt_67 ?_
      refine lv_istore (lv' := [(9, .int (mD σ b19 (ix v8))), (0, .ref (gB g + v0)), (1, .int v1), (2, .int v2), (3, .int v3), (4, .int v4), (5, .int v5), (6, .int v6), (7, .int v7), (8, .int v8)]) hx hb dX9_learnt_68 hl (Nat.le_of_ble_eq_true rfl) rfl (fun ls hl => ?_)
      refine lv_iload hx hb dX9_learnt_70 (lv_at hl 5 rfl) ?_
      refine lv_iload hx hb dX9_learnt_72 (lv_at hl 0 rfl) ?_
      refine lv_i2l (v := ((mD σ b19 (ix v8))).toInt64) hx hb dX9_learnt_74 rfl ?_
      refine lv_iload_n hx hb dX9_learnt_75 rfl (lv_at hl 2 rfl) ?_
      refine lv_i2l (v := (v1).toInt64) hx hb dX9_learnt_76 rfl ?_
      refine lv_iload_n hx hb dX9_learnt_77 rfl (lv_at hl 3 rfl) ?_
      refine lv_i2l (v := (v2).toInt64) hx hb dX9_learnt_78 rfl ?_
      obtain ⟨r21, σ22, hcr21, hf⟩ := zq_s hf
      refine xS (As := [.long (((mD σ b19 (ix v8))).toInt64), .long ((v1).toInt64), .long ((v2).toInt64)]) (rest := [.int v4]) (st1 := [.int r21, .int v4]) E hR hS hl (C_X9_in hcr21) lb_X9_in ls_X9_in ml_X9_121 ⟨Nat.le_of_ble_eq_true rfl, Nat.le_of_ble_eq_true rfl⟩ rfl rfl rfl (Nat.le_of_ble_eq_true rfl) dX9_learnt_79 ⟨hc, hs⟩ (fun H locs hR hS => ?_)
      refine lv_if_eq (tgt := 89) hx hb dX9_learnt_82 (by decide) (fun hq23 => ?_) (fun hq23 => ?_)
      · have hf := ite_p hq23 hf
        refine lv_iconst (v := (0 : Int32)) hx hb dX9_learnt_89 rfl ?_
        exact V_X9_learnt_90 _ ih _ _ _ _ _ _ _ _ _ _ _ _ _ _ hf p e s m args below meth c _ _ _ _ _ E hR hS (lv_sub hl [1, 2, 3, 4, 6, 7, 8, 9, 0] rfl) hc hs
      · have hf := ite_n hq23 hf
        refine lv_iconst (v := (1 : Int32)) hx hb dX9_learnt_85 rfl ?_
        refine lv_goto (tgt := 90) hx hb dX9_learnt_86 (by decide) ?_
        exact V_X9_learnt_90 _ ih _ _ _ _ _ _ _ _ _ _ _ _ _ _ hf p e s m args below meth c _ _ _ _ _ E hR hS (lv_sub hl [1, 2, 3, 4, 6, 7, 8, 9, 0] rfl) hc hs
set_option maxRecDepth 100000 in
def f_X9_learnt (v0 : Nat) (v1 : Int32) (v2 : Int32) (v3 : Int32) (σ : Mm) : Option (Int32 × Mm) :=
  zcb (f_X9_isRange v1 v2 σ) (fun r24 σ25 => if r24 = 0 then (some ((-2 : Int32), σ25)) else (zcb (f_X9_in ((v3).toInt64) (0 : Int64) (4 : Int64) σ25) (fun r27 σ28 => if r27 = 0 then (some ((-2 : Int32), σ28)) else (zck (kO σ28 v0 9) (zcb (f_X9_reasonOf v0 v1 v2 σ28) (fun r31 σ32 => if r31 = 0 then (f_X9_learnt_52 1000 v0 v1 v2 v3 (0 : Int32) (0 : Int32) (-9 : Int32) (-9 : Int32) (0 : Int32) σ32) else (some ((-3 : Int32), σ32))))))))
set_option maxRecDepth 100000 in
set_option maxHeartbeats 4000000 in
theorem V_X9_learnt_0 {g : GG} (v0 : Nat) (v1 : Int32) (v2 : Int32) (v3 : Int32) (σ : Mm) (r : Int32) (σ' : Mm) (hf : f_X9_learnt v0 v1 v2 v3 σ = some (r, σ')) : VJ g RX9 cX9_learnt 10 (some .int) false rm_X9_learnt (some (.int r)) σ' (0) (0) 0 [(0, .ref (gB g + v0)), (1, .int v1), (2, .int v2), (3, .int v3)] [] σ := by
  intro p e s m args below meth c H locs cells slots ls E hR hS hl hc hs
  obtain ⟨hx, hb, hml, hr, hlocks, hown, hts, hin, hT⟩ := id E
  unfold f_X9_learnt at hf
  refine lv_iload_n hx hb dX9_learnt_0 rfl (lv_at hl 1 rfl) ?_
  refine lv_iload_n hx hb dX9_learnt_1 rfl (lv_at hl 2 rfl) ?_
  obtain ⟨r24, σ25, hcr24, hf⟩ := zq_s hf
  refine xS (As := [.int v1, .int v2]) (rest := []) (st1 := [.int r24]) E hR hS hl (C_X9_isRange hcr24) lb_X9_isRange ls_X9_isRange ml_X9_218 ⟨Nat.le_of_ble_eq_true rfl, Nat.le_of_ble_eq_true rfl⟩ rfl rfl rfl (Nat.le_of_ble_eq_true rfl) dX9_learnt_2 ⟨hc, hs⟩ (fun H locs hR hS => ?_)
  refine lv_if_eq (tgt := 20) hx hb dX9_learnt_5 (by decide) (fun hq26 => ?_) (fun hq26 => ?_)
  · have hf := ite_p hq26 hf
    refine lv_bipush (v := (-2 : Int32)) hx hb dX9_learnt_20 rfl ?_
    obtain ⟨hr1, hs1⟩ := Prod.mk.inj (Option.some.inj hf)
    exact xr_i E hR hS rfl (by rw [hr1]) hs1.symm hc hs dX9_learnt_22
  · have hf := ite_n hq26 hf
    refine lv_iload_n hx hb dX9_learnt_8 rfl (lv_at hl 3 rfl) ?_
    refine lv_i2l (v := (v3).toInt64) hx hb dX9_learnt_9 rfl ?_
    refine lv_lconst (v := (0 : Int64)) hx hb dX9_learnt_10 rfl ?_
    refine lv_ldc2 (v := (4 : Int64)) hx hb hown (hts _ kl_X9_255) dX9_learnt_11 ?_
    obtain ⟨r27, σ28, hcr27, hf⟩ := zq_s hf
    refine xS (As := [.long ((v3).toInt64), .long (0 : Int64), .long (4 : Int64)]) (rest := []) (st1 := [.int r27]) E hR hS hl (C_X9_in hcr27) lb_X9_in ls_X9_in ml_X9_121 ⟨Nat.le_of_ble_eq_true rfl, Nat.le_of_ble_eq_true rfl⟩ rfl rfl rfl (Nat.le_of_ble_eq_true rfl) dX9_learnt_14 ⟨hc, hs⟩ (fun H locs hR hS => ?_)
    refine lv_if_ne (tgt := 23) hx hb dX9_learnt_17 (by decide) (fun hq29 => ?_) (fun hq29 => ?_)
    · have hf := ite_n hq29 hf
      refine lv_aload_n hx hb dX9_learnt_23 rfl (lv_at hl 0 rfl) ?_
      refine lv_iload_n hx hb dX9_learnt_24 rfl (lv_at hl 1 rfl) ?_
      refine lv_iload_n hx hb dX9_learnt_25 rfl (lv_at hl 2 rfl) ?_
      obtain ⟨hk30, hf⟩ := zc_s hf
      obtain ⟨r31, σ32, hcr31, hf⟩ := zq_s hf
      refine xV (As := [.int v1, .int v2]) (rest := []) (st1 := [.int r31]) E hR hS hl (C_X9_reasonOf hcr31) hk30 ok9 lb_X9_reasonOf lv_X9_reasonOf ml_X9_252 ⟨Nat.le_of_ble_eq_true rfl, Nat.le_of_ble_eq_true rfl⟩ rfl rfl rfl (Nat.le_of_ble_eq_true rfl) dX9_learnt_26 ⟨hc, hs⟩ (fun H locs hR hS => ?_)
      refine lv_if_eq (tgt := 35) hx hb dX9_learnt_29 (by decide) (fun hq33 => ?_) (fun hq33 => ?_)
      · have hf := ite_p hq33 hf
        refine lv_iconst (v := (0 : Int32)) hx hb dX9_learnt_35 rfl ?_
        refine lv_istore (lv' := [(4, .int (0 : Int32)), (0, .ref (gB g + v0)), (1, .int v1), (2, .int v2), (3, .int v3)]) hx hb dX9_learnt_36 hl (Nat.le_of_ble_eq_true rfl) rfl (fun ls hl => ?_)
        refine lv_iconst (v := (0 : Int32)) hx hb dX9_learnt_38 rfl ?_
        refine lv_istore (lv' := [(5, .int (0 : Int32)), (4, .int (0 : Int32)), (0, .ref (gB g + v0)), (1, .int v1), (2, .int v2), (3, .int v3)]) hx hb dX9_learnt_39 hl (Nat.le_of_ble_eq_true rfl) rfl (fun ls hl => ?_)
        refine lv_bipush (v := (-9 : Int32)) hx hb dX9_learnt_41 rfl ?_
        refine lv_istore (lv' := [(6, .int (-9 : Int32)), (5, .int (0 : Int32)), (4, .int (0 : Int32)), (0, .ref (gB g + v0)), (1, .int v1), (2, .int v2), (3, .int v3)]) hx hb dX9_learnt_43 hl (Nat.le_of_ble_eq_true rfl) rfl (fun ls hl => ?_)
        refine lv_bipush (v := (-9 : Int32)) hx hb dX9_learnt_45 rfl ?_
        refine lv_istore (lv' := [(7, .int (-9 : Int32)), (6, .int (-9 : Int32)), (5, .int (0 : Int32)), (4, .int (0 : Int32)), (0, .ref (gB g + v0)), (1, .int v1), (2, .int v2), (3, .int v3)]) hx hb dX9_learnt_47 hl (Nat.le_of_ble_eq_true rfl) rfl (fun ls hl => ?_)
        refine lv_iconst (v := (0 : Int32)) hx hb dX9_learnt_49 rfl ?_
        refine lv_istore (lv' := [(8, .int (0 : Int32)), (7, .int (-9 : Int32)), (6, .int (-9 : Int32)), (5, .int (0 : Int32)), (4, .int (0 : Int32)), (0, .ref (gB g + v0)), (1, .int v1), (2, .int v2), (3, .int v3)]) hx hb dX9_learnt_50 hl (Nat.le_of_ble_eq_true rfl) rfl (fun ls hl => ?_)
        exact V_X9_learnt_52  1000 _ _ _ _ _ _ _ _ _ _ _ _ hf p e s m args below meth c _ _ _ _ _ E hR hS (lv_sub hl [5, 6, 7, 8, 4, 3, 2, 1, 0] rfl) hc hs
      · have hf := ite_n hq33 hf
        refine lv_bipush (v := (-3 : Int32)) hx hb dX9_learnt_32 rfl ?_
        obtain ⟨hr1, hs1⟩ := Prod.mk.inj (Option.some.inj hf)
        exact xr_i E hR hS rfl (by rw [hr1]) hs1.symm hc hs dX9_learnt_34
    · have hf := ite_p hq29 hf
      refine lv_bipush (v := (-2 : Int32)) hx hb dX9_learnt_20 rfl ?_
      obtain ⟨hr1, hs1⟩ := Prod.mk.inj (Option.some.inj hf)
      exact xr_i E hR hS rfl (by rw [hr1]) hs1.symm hc hs dX9_learnt_22
theorem C_X9_learnt {g : GG} {v0 : Nat} {v1 : Int32} {v2 : Int32} {v3 : Int32} {σ : Mm} {r : Int32} {σ' : Mm} (hf : f_X9_learnt v0 v1 v2 v3 σ = some (r, σ')) : Ct g yX9_learnt cX9_learnt 10 (some .int) rm_X9_learnt [.ref (gB g + v0), .int v1, .int v2, .int v3] σ (some (.int r)) σ' :=
  Ct.of false (by decide +kernel) (fun h => by cases h) (Nat.le_of_ble_eq_true rfl) (V_X9_learnt_0 _ _ _ _ _ _ _ hf)
abbrev rm_X9_placeOf : Room := { frames := 0, cells := 0, slots := 0, locals := 0 }
set_option maxRecDepth 100000 in
def f_X9_placeOf_28 (k_5 : Nat → Int32 → Int32 → Int32 → Mm → Option (Int32 × Mm)) (v0 : Nat) (v1 : Int32) (v3 : Int32) (w0 : Int32) (σ : Mm) : Option (Int32 × Mm) :=
  k_5 v0 v1 w0 (v3 + (1 : Int32)) σ
set_option maxRecDepth 100000 in
set_option maxHeartbeats 4000000 in
theorem V_X9_placeOf_28 {g : GG} (k_5 : Nat → Int32 → Int32 → Int32 → Mm → Option (Int32 × Mm)) (hk_5 : ∀ (v0 : Nat) (v1 : Int32) (v2 : Int32) (v3 : Int32) (σ : Mm) (r : Int32) (σ' : Mm), k_5 v0 v1 v2 v3 σ = some (r, σ') → VJ g RX9 cX9_placeOf 4 (some .int) false rm_X9_placeOf (some (.int r)) σ' (0) (0) 5 [(0, .ref (gB g + v0)), (1, .int v1), (2, .int v2), (3, .int v3)] [] σ) (v0 : Nat) (v1 : Int32) (v3 : Int32) (w0 : Int32) (σ : Mm) (r : Int32) (σ' : Mm) (hf : f_X9_placeOf_28 k_5 v0 v1 v3 w0 σ = some (r, σ')) : VJ g RX9 cX9_placeOf 4 (some .int) false rm_X9_placeOf (some (.int r)) σ' (0) (0) 28 [(0, .ref (gB g + v0)), (1, .int v1), (3, .int v3)] [.int w0] σ := by
  intro p e s m args below meth c H locs cells slots ls E hR hS hl hc hs
  obtain ⟨hx, hb, hml, hr, hlocks, hown, hts, hin, hT⟩ := id E
  unfold f_X9_placeOf_28 at hf
  refine lv_istore_n (lv' := [(2, .int w0), (0, .ref (gB g + v0)), (1, .int v1), (3, .int v3)]) hx hb dX9_placeOf_28 rfl hl (Nat.le_of_ble_eq_true rfl) rfl (fun ls hl => ?_)
  refine lv_iinc (v := (v3 + (1 : Int32))) (lv' := [(3, .int (v3 + (1 : Int32))), (2, .int w0), (0, .ref (gB g + v0)), (1, .int v1)]) hx hb dX9_placeOf_29 hl (k := 3) rfl rfl (Nat.le_of_ble_eq_true rfl) rfl (fun ls hl => ?_)
  refine lv_goto (tgt := 5) hx hb dX9_placeOf_32 (by decide) ?_
  exact hk_5 _ _ _ _ _ _ _ hf p e s m args below meth c _ _ _ _ _ E hR hS (lv_sub hl [2, 3, 1, 0] rfl) hc hs
set_option maxRecDepth 100000 in
def f_X9_placeOf_5 : Nat → Nat → Int32 → Int32 → Int32 → Mm → Option (Int32 × Mm)
  | 0, _, _, _, _, _ => none
  | n + 1, v0, v1, v2, v3, σ =>
    zck (kO σ v0 9) (if (mD σ v0 41) ≤ v3 then (some (v2, σ)) else (zrb (mR σ v0 38) (fun b3 => zck (kA σ 1 b3 v3) (if (mD σ b3 (ix v3)) = v1 then (f_X9_placeOf_28 (f_X9_placeOf_5 n) v0 v1 v3 v3 σ) else (f_X9_placeOf_28 (f_X9_placeOf_5 n) v0 v1 v3 v2 σ)))))
set_option maxRecDepth 100000 in
set_option maxHeartbeats 4000000 in
theorem V_X9_placeOf_5 {g : GG} : ∀ (n : Nat) (v0 : Nat) (v1 : Int32) (v2 : Int32) (v3 : Int32) (σ : Mm) (r : Int32) (σ' : Mm), f_X9_placeOf_5 n v0 v1 v2 v3 σ = some (r, σ') → VJ g RX9 cX9_placeOf 4 (some .int) false rm_X9_placeOf (some (.int r)) σ' (0) (0) 5 [(0, .ref (gB g + v0)), (1, .int v1), (2, .int v2), (3, .int v3)] [] σ := by
  intro n
  induction n with
  | zero =>
    intro v0 v1 v2 v3 σ r σ' hf
    unfold f_X9_placeOf_5 at hf
    cases hf
  | succ n ih =>
    intro v0 v1 v2 v3 σ r σ' hf p e s m args below meth c H locs cells slots ls E hR hS hl hc hs
    obtain ⟨hx, hb, hml, hr, hlocks, hown, hts, hin, hT⟩ := id E
    unfold f_X9_placeOf_5 at hf
    refine lv_iload_n hx hb dX9_placeOf_5 rfl (lv_at hl 3 rfl) ?_
    refine lv_aload_n hx hb dX9_placeOf_6 rfl (lv_at hl 0 rfl) ?_
    obtain ⟨hk1, hf⟩ := zc_s hf
    refine x_getI E hR hk1 ok9 41 (Nat.le_of_ble_eq_true rfl) rfl fl_X9_260 dX9_placeOf_7 ?_
    refine lv_icmp_ge (tgt := 35) hx hb dX9_placeOf_10 (by decide) (fun hq2 => ?_) (fun hq2 => ?_)
    · have hf := ite_p hq2 hf
      refine lv_iload_n hx hb dX9_placeOf_35 rfl (lv_at hl 2 rfl) ?_
      obtain ⟨hr1, hs1⟩ := Prod.mk.inj (Option.some.inj hf)
      exact xr_i E hR hS rfl (by rw [hr1]) hs1.symm hc hs dX9_placeOf_36
    · have hf := ite_n hq2 hf
      refine lv_aload_n hx hb dX9_placeOf_13 rfl (lv_at hl 0 rfl) ?_
      obtain ⟨b3, hb3, hf⟩ := zr_s hf
      refine x_getR E hR hk1 hb3 ok9 (Nat.le_of_ble_eq_true rfl) rfl fl_X9_98 dX9_placeOf_14 ?_
      refine lv_iload_n hx hb dX9_placeOf_17 rfl (lv_at hl 3 rfl) ?_
      obtain ⟨hk4, hf⟩ := zc_s hf
      refine x_ild E hR hk4 dX9_placeOf_18 ?_
      refine lv_iload_n hx hb dX9_placeOf_19 rfl (lv_at hl 1 rfl) ?_
      refine lv_icmp_ne (tgt := 27) hx hb dX9_placeOf_20 (by decide) (fun hq5 => ?_) (fun hq5 => ?_)
      · have hf := ite_n hq5 hf
        refine lv_iload_n hx hb dX9_placeOf_27 rfl (lv_at hl 2 rfl) ?_
        exact V_X9_placeOf_28 _ ih _ _ _ _ _ _ _ hf p e s m args below meth c _ _ _ _ _ E hR hS (lv_sub hl [0, 1, 3] rfl) hc hs
      · have hf := ite_p hq5 hf
        refine lv_iload_n hx hb dX9_placeOf_23 rfl (lv_at hl 3 rfl) ?_
        refine lv_goto (tgt := 28) hx hb dX9_placeOf_24 (by decide) ?_
        exact V_X9_placeOf_28 _ ih _ _ _ _ _ _ _ hf p e s m args below meth c _ _ _ _ _ E hR hS (lv_sub hl [0, 1, 3] rfl) hc hs
set_option maxRecDepth 100000 in
def f_X9_placeOf (v0 : Nat) (v1 : Int32) (σ : Mm) : Option (Int32 × Mm) :=
  f_X9_placeOf_5 1000 v0 v1 (-9 : Int32) (0 : Int32) σ
set_option maxRecDepth 100000 in
set_option maxHeartbeats 4000000 in
theorem V_X9_placeOf_0 {g : GG} (v0 : Nat) (v1 : Int32) (σ : Mm) (r : Int32) (σ' : Mm) (hf : f_X9_placeOf v0 v1 σ = some (r, σ')) : VJ g RX9 cX9_placeOf 4 (some .int) false rm_X9_placeOf (some (.int r)) σ' (0) (0) 0 [(0, .ref (gB g + v0)), (1, .int v1)] [] σ := by
  intro p e s m args below meth c H locs cells slots ls E hR hS hl hc hs
  obtain ⟨hx, hb, hml, hr, hlocks, hown, hts, hin, hT⟩ := id E
  unfold f_X9_placeOf at hf
  refine lv_bipush (v := (-9 : Int32)) hx hb dX9_placeOf_0 rfl ?_
  refine lv_istore_n (lv' := [(2, .int (-9 : Int32)), (0, .ref (gB g + v0)), (1, .int v1)]) hx hb dX9_placeOf_2 rfl hl (Nat.le_of_ble_eq_true rfl) rfl (fun ls hl => ?_)
  refine lv_iconst (v := (0 : Int32)) hx hb dX9_placeOf_3 rfl ?_
  refine lv_istore_n (lv' := [(3, .int (0 : Int32)), (2, .int (-9 : Int32)), (0, .ref (gB g + v0)), (1, .int v1)]) hx hb dX9_placeOf_4 rfl hl (Nat.le_of_ble_eq_true rfl) rfl (fun ls hl => ?_)
  exact V_X9_placeOf_5  1000 _ _ _ _ _ _ _ hf p e s m args below meth c _ _ _ _ _ E hR hS (lv_sub hl [2, 3, 1, 0] rfl) hc hs
theorem C_X9_placeOf {g : GG} {v0 : Nat} {v1 : Int32} {σ : Mm} {r : Int32} {σ' : Mm} (hf : f_X9_placeOf v0 v1 σ = some (r, σ')) : Ct g yX9_placeOf cX9_placeOf 4 (some .int) rm_X9_placeOf [.ref (gB g + v0), .int v1] σ (some (.int r)) σ' :=
  Ct.of false (by decide +kernel) (fun h => by cases h) (Nat.le_of_ble_eq_true rfl) (V_X9_placeOf_0 _ _ _ _ _ hf)
abbrev rm_X9_layRow : Room := { frames := 1, cells := 0, slots := 0, locals := 23 }
set_option maxRecDepth 100000 in
def f_X9_layRow_78 (k_17 : Nat → Int32 → Mm → Option (Unit × Mm)) (k_25 : Nat → Int32 → Int32 → Mm → Option (Unit × Mm)) (v0 : Nat) (v1 : Int32) (v2 : Int32) (σ : Mm) : Option (Unit × Mm) :=
  k_25 v0 v1 (v2 + (1 : Int32)) σ
set_option maxRecDepth 100000 in
set_option maxHeartbeats 4000000 in
theorem V_X9_layRow_78 {g : GG} (k_17 : Nat → Int32 → Mm → Option (Unit × Mm)) (hk_17 : ∀ (v0 : Nat) (v1 : Int32) (σ : Mm) (r : Unit) (σ' : Mm), k_17 v0 v1 σ = some (r, σ') → VJ g RX9 cX9_layRow 3 none false rm_X9_layRow none σ' (0) (0) 17 [(0, .ref (gB g + v0)), (1, .int v1)] [] σ) (k_25 : Nat → Int32 → Int32 → Mm → Option (Unit × Mm)) (hk_25 : ∀ (v0 : Nat) (v1 : Int32) (v2 : Int32) (σ : Mm) (r : Unit) (σ' : Mm), k_25 v0 v1 v2 σ = some (r, σ') → VJ g RX9 cX9_layRow 3 none false rm_X9_layRow none σ' (0) (0) 25 [(0, .ref (gB g + v0)), (1, .int v1), (2, .int v2)] [] σ) (v0 : Nat) (v1 : Int32) (v2 : Int32) (σ : Mm) (r : Unit) (σ' : Mm) (hf : f_X9_layRow_78 k_17 k_25 v0 v1 v2 σ = some (r, σ')) : VJ g RX9 cX9_layRow 3 none false rm_X9_layRow none σ' (0) (0) 78 [(0, .ref (gB g + v0)), (1, .int v1), (2, .int v2)] [] σ := by
  intro p e s m args below meth c H locs cells slots ls E hR hS hl hc hs
  obtain ⟨hx, hb, hml, hr, hlocks, hown, hts, hin, hT⟩ := id E
  unfold f_X9_layRow_78 at hf
  refine lv_iinc (v := (v2 + (1 : Int32))) (lv' := [(2, .int (v2 + (1 : Int32))), (0, .ref (gB g + v0)), (1, .int v1)]) hx hb dX9_layRow_78 hl (k := 2) rfl rfl (Nat.le_of_ble_eq_true rfl) rfl (fun ls hl => ?_)
  refine lv_goto (tgt := 25) hx hb dX9_layRow_81 (by decide) ?_
  exact hk_25 _ _ _ _ _ _ hf p e s m args below meth c _ _ _ _ _ E hR hS (lv_sub hl [1, 2, 0] rfl) hc hs
set_option maxRecDepth 100000 in
def f_X9_layRow_25 (k_17 : Nat → Int32 → Mm → Option (Unit × Mm)) : Nat → Nat → Int32 → Int32 → Mm → Option (Unit × Mm)
  | 0, _, _, _, _ => none
  | n + 1, v0, v1, v2, σ =>
    zck (kO σ v0 9) (if (mD σ v0 36) ≤ v2 then (k_17 v0 (v1 + (1 : Int32)) σ) else (zrb (mR σ v0 29) (fun b3 => zck (kA σ 1 b3 v2) (if (mD σ b3 (ix v2)) = v1 then (zrb (mR σ v0 38) (fun b6 => zck (kA σ 1 b6 (mD σ v0 41)) (zlt (sD σ b6 (ix (mD σ v0 41)) v1) (fun σ8 => zrb (mR σ8 v0 39) (fun b9 => zrb (mR σ8 v0 30) (fun b10 => zck (kA σ8 1 b10 v2) (zck (kA σ8 1 b9 (mD σ8 v0 41)) (zlt (sD σ8 b9 (ix (mD σ8 v0 41)) (mD σ8 b10 (ix v2))) (fun σ13 => zlt (sD σ13 v0 41 ((mD σ13 v0 41) + (1 : Int32))) (fun σ14 => f_X9_layRow_78 k_17 (f_X9_layRow_25 k_17 n) v0 v1 v2 σ14)))))))))) else (f_X9_layRow_78 k_17 (f_X9_layRow_25 k_17 n) v0 v1 v2 σ)))))
set_option maxRecDepth 100000 in
set_option maxHeartbeats 4000000 in
theorem V_X9_layRow_25 {g : GG} (k_17 : Nat → Int32 → Mm → Option (Unit × Mm)) (hk_17 : ∀ (v0 : Nat) (v1 : Int32) (σ : Mm) (r : Unit) (σ' : Mm), k_17 v0 v1 σ = some (r, σ') → VJ g RX9 cX9_layRow 3 none false rm_X9_layRow none σ' (0) (0) 17 [(0, .ref (gB g + v0)), (1, .int v1)] [] σ) : ∀ (n : Nat) (v0 : Nat) (v1 : Int32) (v2 : Int32) (σ : Mm) (r : Unit) (σ' : Mm), f_X9_layRow_25 k_17 n v0 v1 v2 σ = some (r, σ') → VJ g RX9 cX9_layRow 3 none false rm_X9_layRow none σ' (0) (0) 25 [(0, .ref (gB g + v0)), (1, .int v1), (2, .int v2)] [] σ := by
  intro n
  induction n with
  | zero =>
    intro v0 v1 v2 σ r σ' hf
    unfold f_X9_layRow_25 at hf
    cases hf
  | succ n ih =>
    intro v0 v1 v2 σ r σ' hf p e s m args below meth c H locs cells slots ls E hR hS hl hc hs
    obtain ⟨hx, hb, hml, hr, hlocks, hown, hts, hin, hT⟩ := id E
    unfold f_X9_layRow_25 at hf
    refine lv_iload_n hx hb dX9_layRow_25 rfl (lv_at hl 2 rfl) ?_
    refine lv_aload_n hx hb dX9_layRow_26 rfl (lv_at hl 0 rfl) ?_
    obtain ⟨hk1, hf⟩ := zc_s hf
    refine x_getI E hR hk1 ok9 36 (Nat.le_of_ble_eq_true rfl) rfl fl_X9_243 dX9_layRow_27 ?_
    refine lv_icmp_ge (tgt := 84) hx hb dX9_layRow_30 (by decide) (fun hq2 => ?_) (fun hq2 => ?_)
    · have hf := ite_p hq2 hf
      refine lv_iinc (v := (v1 + (1 : Int32))) (lv' := [(1, .int (v1 + (1 : Int32))), (0, .ref (gB g + v0)), (2, .int v2)]) hx hb dX9_layRow_84 hl (k := 1) rfl rfl (Nat.le_of_ble_eq_true rfl) rfl (fun ls hl => ?_)
      refine lv_goto (tgt := 17) hx hb dX9_layRow_87 (by decide) ?_
      exact hk_17 _ _ _ _ _ hf p e s m args below meth c _ _ _ _ _ E hR hS (lv_sub hl [1, 0] rfl) hc hs
    · have hf := ite_n hq2 hf
      refine lv_aload_n hx hb dX9_layRow_33 rfl (lv_at hl 0 rfl) ?_
      obtain ⟨b3, hb3, hf⟩ := zr_s hf
      refine x_getR E hR hk1 hb3 ok9 (Nat.le_of_ble_eq_true rfl) rfl fl_X9_77 dX9_layRow_34 ?_
      refine lv_iload_n hx hb dX9_layRow_37 rfl (lv_at hl 2 rfl) ?_
      obtain ⟨hk4, hf⟩ := zc_s hf
      refine x_ild E hR hk4 dX9_layRow_38 ?_
      refine lv_iload_n hx hb dX9_layRow_39 rfl (lv_at hl 1 rfl) ?_
      refine lv_icmp_ne (tgt := 78) hx hb dX9_layRow_40 (by decide) (fun hq5 => ?_) (fun hq5 => ?_)
      · have hf := ite_n hq5 hf
        exact V_X9_layRow_78 _ hk_17 _ ih _ _ _ _ _ _ hf p e s m args below meth c _ _ _ _ _ E hR hS (lv_sub hl [0, 1, 2] rfl) hc hs
      · have hf := ite_p hq5 hf
        refine lv_aload_n hx hb dX9_layRow_43 rfl (lv_at hl 0 rfl) ?_
        obtain ⟨b6, hb6, hf⟩ := zr_s hf
        refine x_getR E hR hk1 hb6 ok9 (Nat.le_of_ble_eq_true rfl) rfl fl_X9_98 dX9_layRow_44 ?_
        refine lv_aload_n hx hb dX9_layRow_47 rfl (lv_at hl 0 rfl) ?_
        refine x_getI E hR hk1 ok9 41 (Nat.le_of_ble_eq_true rfl) rfl fl_X9_260 dX9_layRow_48 ?_
        refine lv_iload_n hx hb dX9_layRow_51 rfl (lv_at hl 1 rfl) ?_
        obtain ⟨hk7, hf⟩ := zc_s hf
        obtain ⟨σ8, eσ8, hf⟩ := zl_s hf
        refine x_ist E hR hS hk7 dX9_layRow_52 (fun H locs hR hS => ?_)
        rw [← eσ8] at hR
        refine lv_aload_n hx hb dX9_layRow_53 rfl (lv_at hl 0 rfl) ?_
        obtain ⟨b9, hb9, hf⟩ := zr_s hf
        refine x_getR E hR (by rw [eσ8]; exact hk1) hb9 ok9 (Nat.le_of_ble_eq_true rfl) rfl fl_X9_101 dX9_layRow_54 ?_
        refine lv_aload_n hx hb dX9_layRow_57 rfl (lv_at hl 0 rfl) ?_
        refine x_getI E hR (by rw [eσ8]; exact hk1) ok9 41 (Nat.le_of_ble_eq_true rfl) rfl fl_X9_260 dX9_layRow_58 ?_
        refine lv_aload_n hx hb dX9_layRow_61 rfl (lv_at hl 0 rfl) ?_
        obtain ⟨b10, hb10, hf⟩ := zr_s hf
        refine x_getR E hR (by rw [eσ8]; exact hk1) hb10 ok9 (Nat.le_of_ble_eq_true rfl) rfl fl_X9_80 dX9_layRow_62 ?_
        refine lv_iload_n hx hb dX9_layRow_65 rfl (lv_at hl 2 rfl) ?_
        obtain ⟨hk11, hf⟩ := zc_s hf
        refine x_ild E hR hk11 dX9_layRow_66 ?_
        obtain ⟨hk12, hf⟩ := zc_s hf
        obtain ⟨σ13, eσ13, hf⟩ := zl_s hf
        refine x_ist E hR hS hk12 dX9_layRow_67 (fun H locs hR hS => ?_)
        rw [← eσ13] at hR
        refine lv_aload_n hx hb dX9_layRow_68 rfl (lv_at hl 0 rfl) ?_
        refine lv_dup hx hb dX9_layRow_69 rfl ?_
        refine x_getI E hR (by rw [eσ13, eσ8]; exact hk1) ok9 41 (Nat.le_of_ble_eq_true rfl) rfl fl_X9_260 dX9_layRow_70 ?_
        refine lv_iconst (v := (1 : Int32)) hx hb dX9_layRow_73 rfl ?_
        refine lv_iadd hx hb dX9_layRow_74 ?_
        obtain ⟨σ14, eσ14, hf⟩ := zl_s hf
        refine x_putI E hR hS (by rw [eσ13, eσ8]; exact hk1) ok9 41 (Nat.le_of_ble_eq_true rfl) rfl fl_X9_260 (Or.inl rfl) rfl rfl dX9_layRow_75 (fun H locs hR hS => ?_)
        rw [← eσ14] at hR
        exact V_X9_layRow_78 _ hk_17 _ ih _ _ _ _ _ _ hf p e s m args below meth c _ _ _ _ _ E hR hS (lv_sub hl [0, 1, 2] rfl) hc hs
set_option maxRecDepth 100000 in
def f_X9_layRow_159 (k_92 : Nat → Int32 → Mm → Option (Unit × Mm)) (v0 : Nat) (v1 : Int32) (σ : Mm) : Option (Unit × Mm) :=
  k_92 v0 (v1 + (1 : Int32)) σ
set_option maxRecDepth 100000 in
set_option maxHeartbeats 4000000 in
theorem V_X9_layRow_159 {g : GG} (k_92 : Nat → Int32 → Mm → Option (Unit × Mm)) (hk_92 : ∀ (v0 : Nat) (v1 : Int32) (σ : Mm) (r : Unit) (σ' : Mm), k_92 v0 v1 σ = some (r, σ') → VJ g RX9 cX9_layRow 3 none false rm_X9_layRow none σ' (0) (0) 92 [(0, .ref (gB g + v0)), (1, .int v1)] [] σ) (v0 : Nat) (v1 : Int32) (σ : Mm) (r : Unit) (σ' : Mm) (hf : f_X9_layRow_159 k_92 v0 v1 σ = some (r, σ')) : VJ g RX9 cX9_layRow 3 none false rm_X9_layRow none σ' (0) (0) 159 [(0, .ref (gB g + v0)), (1, .int v1)] [] σ := by
  intro p e s m args below meth c H locs cells slots ls E hR hS hl hc hs
  obtain ⟨hx, hb, hml, hr, hlocks, hown, hts, hin, hT⟩ := id E
  unfold f_X9_layRow_159 at hf
  refine lv_iinc (v := (v1 + (1 : Int32))) (lv' := [(1, .int (v1 + (1 : Int32))), (0, .ref (gB g + v0))]) hx hb dX9_layRow_159 hl (k := 1) rfl rfl (Nat.le_of_ble_eq_true rfl) rfl (fun ls hl => ?_)
  refine lv_goto (tgt := 92) hx hb dX9_layRow_162 (by decide) ?_
  exact hk_92 _ _ _ _ _ hf p e s m args below meth c _ _ _ _ _ E hR hS (lv_sub hl [1, 0] rfl) hc hs
set_option maxRecDepth 100000 in
def f_X9_layRow_134 (k_92 : Nat → Int32 → Mm → Option (Unit × Mm)) (v0 : Nat) (v1 : Int32) (v2 : Int32) (σ : Mm) : Option (Unit × Mm) :=
  zck (kO σ v0 9) (zrb (mR σ v0 32) (fun b16 => zck (kA σ 1 b16 v1) (if (mD σ b16 (ix v1)) = (-9 : Int32) then (zrb (mR σ v0 40) (fun b19 => zrb (mR σ v0 34) (fun b20 => zck (kA σ 1 b20 v1) (zck (kA σ 1 b19 (v2 + (1 : Int32))) (zlt (sD σ b19 (ix (v2 + (1 : Int32))) (mD σ b20 (ix v1))) (fun σ23 => f_X9_layRow_159 k_92 v0 v1 σ23)))))) else (f_X9_layRow_159 k_92 v0 v1 σ))))
set_option maxRecDepth 100000 in
set_option maxHeartbeats 4000000 in
theorem V_X9_layRow_134 {g : GG} (k_92 : Nat → Int32 → Mm → Option (Unit × Mm)) (hk_92 : ∀ (v0 : Nat) (v1 : Int32) (σ : Mm) (r : Unit) (σ' : Mm), k_92 v0 v1 σ = some (r, σ') → VJ g RX9 cX9_layRow 3 none false rm_X9_layRow none σ' (0) (0) 92 [(0, .ref (gB g + v0)), (1, .int v1)] [] σ) (v0 : Nat) (v1 : Int32) (v2 : Int32) (σ : Mm) (r : Unit) (σ' : Mm) (hf : f_X9_layRow_134 k_92 v0 v1 v2 σ = some (r, σ')) : VJ g RX9 cX9_layRow 3 none false rm_X9_layRow none σ' (0) (0) 134 [(0, .ref (gB g + v0)), (1, .int v1), (2, .int v2)] [] σ := by
  intro p e s m args below meth c H locs cells slots ls E hR hS hl hc hs
  obtain ⟨hx, hb, hml, hr, hlocks, hown, hts, hin, hT⟩ := id E
  unfold f_X9_layRow_134 at hf
  refine lv_aload_n hx hb dX9_layRow_134 rfl (lv_at hl 0 rfl) ?_
  obtain ⟨hk15, hf⟩ := zc_s hf
  obtain ⟨b16, hb16, hf⟩ := zr_s hf
  refine x_getR E hR hk15 hb16 ok9 (Nat.le_of_ble_eq_true rfl) rfl fl_X9_86 dX9_layRow_135 ?_
  refine lv_iload_n hx hb dX9_layRow_138 rfl (lv_at hl 1 rfl) ?_
  obtain ⟨hk17, hf⟩ := zc_s hf
  refine x_ild E hR hk17 dX9_layRow_139 ?_
  refine lv_bipush (v := (-9 : Int32)) hx hb dX9_layRow_140 rfl ?_
  refine lv_icmp_ne (tgt := 159) hx hb dX9_layRow_142 (by decide) (fun hq18 => ?_) (fun hq18 => ?_)
  · have hf := ite_n hq18 hf
    exact V_X9_layRow_159 _ hk_92 _ _ _ _ _ hf p e s m args below meth c _ _ _ _ _ E hR hS (lv_sub hl [0, 1] rfl) hc hs
  · have hf := ite_p hq18 hf
    refine lv_aload_n hx hb dX9_layRow_145 rfl (lv_at hl 0 rfl) ?_
    obtain ⟨b19, hb19, hf⟩ := zr_s hf
    refine x_getR E hR hk15 hb19 ok9 (Nat.le_of_ble_eq_true rfl) rfl fl_X9_104 dX9_layRow_146 ?_
    refine lv_iload_n hx hb dX9_layRow_149 rfl (lv_at hl 2 rfl) ?_
    refine lv_iconst (v := (1 : Int32)) hx hb dX9_layRow_150 rfl ?_
    refine lv_iadd hx hb dX9_layRow_151 ?_
    refine lv_aload_n hx hb dX9_layRow_152 rfl (lv_at hl 0 rfl) ?_
    obtain ⟨b20, hb20, hf⟩ := zr_s hf
    refine x_getR E hR hk15 hb20 ok9 (Nat.le_of_ble_eq_true rfl) rfl fl_X9_92 dX9_layRow_153 ?_
    refine lv_iload_n hx hb dX9_layRow_156 rfl (lv_at hl 1 rfl) ?_
    obtain ⟨hk21, hf⟩ := zc_s hf
    refine x_ild E hR hk21 dX9_layRow_157 ?_
    obtain ⟨hk22, hf⟩ := zc_s hf
    obtain ⟨σ23, eσ23, hf⟩ := zl_s hf
    refine x_ist E hR hS hk22 dX9_layRow_158 (fun H locs hR hS => ?_)
    rw [← eσ23] at hR
    exact V_X9_layRow_159 _ hk_92 _ _ _ _ _ hf p e s m args below meth c _ _ _ _ _ E hR hS (lv_sub hl [0, 1] rfl) hc hs
set_option maxRecDepth 100000 in
def f_X9_layRow_92 : Nat → Nat → Int32 → Mm → Option (Unit × Mm)
  | 0, _, _, _ => none
  | n + 1, v0, v1, σ =>
    zck (kO σ v0 9) (if (mD σ v0 36) ≤ v1 then (some ((), σ)) else (zrb (mR σ v0 29) (fun b26 => zck (kA σ 1 b26 v1) (zcb (f_X9_placeOf v0 (mD σ b26 (ix v1)) σ) (fun r28 σ29 => zck (kO σ29 v0 9) (zrb (mR σ29 v0 31) (fun b31 => zck (kA σ29 1 b31 v1) (if (mD σ29 b31 (ix v1)) = (-9 : Int32) then (zrb (mR σ29 v0 40) (fun b34 => zrb (mR σ29 v0 33) (fun b35 => zck (kA σ29 1 b35 v1) (zck (kA σ29 1 b34 r28) (zlt (sD σ29 b34 (ix r28) (mD σ29 b35 (ix v1))) (fun σ38 => f_X9_layRow_134 (f_X9_layRow_92 n) v0 v1 r28 σ38)))))) else (f_X9_layRow_134 (f_X9_layRow_92 n) v0 v1 r28 σ29)))))))))
set_option maxRecDepth 100000 in
set_option maxHeartbeats 4000000 in
theorem V_X9_layRow_92 {g : GG} : ∀ (n : Nat) (v0 : Nat) (v1 : Int32) (σ : Mm) (r : Unit) (σ' : Mm), f_X9_layRow_92 n v0 v1 σ = some (r, σ') → VJ g RX9 cX9_layRow 3 none false rm_X9_layRow none σ' (0) (0) 92 [(0, .ref (gB g + v0)), (1, .int v1)] [] σ := by
  intro n
  induction n with
  | zero =>
    intro v0 v1 σ r σ' hf
    unfold f_X9_layRow_92 at hf
    cases hf
  | succ n ih =>
    intro v0 v1 σ r σ' hf p e s m args below meth c H locs cells slots ls E hR hS hl hc hs
    obtain ⟨hx, hb, hml, hr, hlocks, hown, hts, hin, hT⟩ := id E
    unfold f_X9_layRow_92 at hf
    refine lv_iload_n hx hb dX9_layRow_92 rfl (lv_at hl 1 rfl) ?_
    refine lv_aload_n hx hb dX9_layRow_93 rfl (lv_at hl 0 rfl) ?_
    obtain ⟨hk24, hf⟩ := zc_s hf
    refine x_getI E hR hk24 ok9 36 (Nat.le_of_ble_eq_true rfl) rfl fl_X9_243 dX9_layRow_94 ?_
    refine lv_icmp_ge (tgt := 165) hx hb dX9_layRow_97 (by decide) (fun hq25 => ?_) (fun hq25 => ?_)
    · have hf := ite_p hq25 hf
      obtain ⟨hr1, hs1⟩ := Prod.mk.inj (Option.some.inj hf)
      exact xr_v E hR hS rfl rfl hs1.symm hc hs dX9_layRow_165
    · have hf := ite_n hq25 hf
      refine lv_aload_n hx hb dX9_layRow_100 rfl (lv_at hl 0 rfl) ?_
      refine lv_aload_n hx hb dX9_layRow_101 rfl (lv_at hl 0 rfl) ?_
      obtain ⟨b26, hb26, hf⟩ := zr_s hf
      refine x_getR E hR hk24 hb26 ok9 (Nat.le_of_ble_eq_true rfl) rfl fl_X9_77 dX9_layRow_102 ?_
      refine lv_iload_n hx hb dX9_layRow_105 rfl (lv_at hl 1 rfl) ?_
      obtain ⟨hk27, hf⟩ := zc_s hf
      refine x_ild E hR hk27 dX9_layRow_106 ?_
      obtain ⟨r28, σ29, hcr28, hf⟩ := zq_s hf
      refine xV (As := [.int (mD σ b26 (ix v1))]) (rest := []) (st1 := [.int r28]) E hR hS hl (C_X9_placeOf hcr28) hk24 ok9 lb_X9_placeOf lv_X9_placeOf ml_X9_263 ⟨Nat.le_of_ble_eq_true rfl, Nat.le_of_ble_eq_true rfl⟩ rfl rfl rfl (Nat.le_of_ble_eq_true rfl) dX9_layRow_107 ⟨hc, hs⟩ (fun H locs hR hS => ?_)
      refine lv_istore_n (lv' := [(2, .int r28), (0, .ref (gB g + v0)), (1, .int v1)]) hx hb dX9_layRow_110 rfl hl (Nat.le_of_ble_eq_true rfl) rfl (fun ls hl => ?_)
      refine lv_aload_n hx hb dX9_layRow_111 rfl (lv_at hl 1 rfl) ?_
      obtain ⟨hk30, hf⟩ := zc_s hf
      obtain ⟨b31, hb31, hf⟩ := zr_s hf
      refine x_getR E hR hk30 hb31 ok9 (Nat.le_of_ble_eq_true rfl) rfl fl_X9_83 dX9_layRow_112 ?_
      refine lv_iload_n hx hb dX9_layRow_115 rfl (lv_at hl 2 rfl) ?_
      obtain ⟨hk32, hf⟩ := zc_s hf
      refine x_ild E hR hk32 dX9_layRow_116 ?_
      refine lv_bipush (v := (-9 : Int32)) hx hb dX9_layRow_117 rfl ?_
      refine lv_icmp_ne (tgt := 134) hx hb dX9_layRow_119 (by decide) (fun hq33 => ?_) (fun hq33 => ?_)
      · have hf := ite_n hq33 hf
        exact V_X9_layRow_134 _ ih _ _ _ _ _ _ hf p e s m args below meth c _ _ _ _ _ E hR hS (lv_sub hl [1, 2, 0] rfl) hc hs
      · have hf := ite_p hq33 hf
        refine lv_aload_n hx hb dX9_layRow_122 rfl (lv_at hl 1 rfl) ?_
        obtain ⟨b34, hb34, hf⟩ := zr_s hf
        refine x_getR E hR hk30 hb34 ok9 (Nat.le_of_ble_eq_true rfl) rfl fl_X9_104 dX9_layRow_123 ?_
        refine lv_iload_n hx hb dX9_layRow_126 rfl (lv_at hl 0 rfl) ?_
        refine lv_aload_n hx hb dX9_layRow_127 rfl (lv_at hl 1 rfl) ?_
        obtain ⟨b35, hb35, hf⟩ := zr_s hf
        refine x_getR E hR hk30 hb35 ok9 (Nat.le_of_ble_eq_true rfl) rfl fl_X9_89 dX9_layRow_128 ?_
        refine lv_iload_n hx hb dX9_layRow_131 rfl (lv_at hl 2 rfl) ?_
        obtain ⟨hk36, hf⟩ := zc_s hf
        refine x_ild E hR hk36 dX9_layRow_132 ?_
        obtain ⟨hk37, hf⟩ := zc_s hf
        obtain ⟨σ38, eσ38, hf⟩ := zl_s hf
        refine x_ist E hR hS hk37 dX9_layRow_133 (fun H locs hR hS => ?_)
        rw [← eσ38] at hR
        exact V_X9_layRow_134 _ ih _ _ _ _ _ _ hf p e s m args below meth c _ _ _ _ _ E hR hS (lv_sub hl [1, 2, 0] rfl) hc hs
set_option maxRecDepth 100000 in
def f_X9_layRow_17 : Nat → Nat → Int32 → Mm → Option (Unit × Mm)
  | 0, _, _, _ => none
  | n + 1, v0, v1, σ =>
    if (100 : Int32) ≤ v1 then (f_X9_layRow_92 1000 v0 (0 : Int32) σ) else (f_X9_layRow_25 (f_X9_layRow_17 n) 1000 v0 v1 (0 : Int32) σ)
set_option maxRecDepth 100000 in
set_option maxHeartbeats 4000000 in
theorem V_X9_layRow_17 {g : GG} : ∀ (n : Nat) (v0 : Nat) (v1 : Int32) (σ : Mm) (r : Unit) (σ' : Mm), f_X9_layRow_17 n v0 v1 σ = some (r, σ') → VJ g RX9 cX9_layRow 3 none false rm_X9_layRow none σ' (0) (0) 17 [(0, .ref (gB g + v0)), (1, .int v1)] [] σ := by
  intro n
  induction n with
  | zero =>
    intro v0 v1 σ r σ' hf
    unfold f_X9_layRow_17 at hf
    cases hf
  | succ n ih =>
    intro v0 v1 σ r σ' hf p e s m args below meth c H locs cells slots ls E hR hS hl hc hs
    obtain ⟨hx, hb, hml, hr, hlocks, hown, hts, hin, hT⟩ := id E
    unfold f_X9_layRow_17 at hf
    refine lv_iload_n hx hb dX9_layRow_17 rfl (lv_at hl 1 rfl) ?_
    refine lv_bipush (v := (100 : Int32)) hx hb dX9_layRow_18 rfl ?_
    refine lv_icmp_ge (tgt := 90) hx hb dX9_layRow_20 (by decide) (fun hq39 => ?_) (fun hq39 => ?_)
    · have hf := ite_p hq39 hf
      refine lv_iconst (v := (0 : Int32)) hx hb dX9_layRow_90 rfl ?_
      refine lv_istore_n (lv' := [(1, .int (0 : Int32)), (0, .ref (gB g + v0))]) hx hb dX9_layRow_91 rfl hl (Nat.le_of_ble_eq_true rfl) rfl (fun ls hl => ?_)
      exact V_X9_layRow_92  1000 _ _ _ _ _ hf p e s m args below meth c _ _ _ _ _ E hR hS (lv_sub hl [1, 0] rfl) hc hs
    · have hf := ite_n hq39 hf
      refine lv_iconst (v := (0 : Int32)) hx hb dX9_layRow_23 rfl ?_
      refine lv_istore_n (lv' := [(2, .int (0 : Int32)), (0, .ref (gB g + v0)), (1, .int v1)]) hx hb dX9_layRow_24 rfl hl (Nat.le_of_ble_eq_true rfl) rfl (fun ls hl => ?_)
      exact V_X9_layRow_25 _ ih 1000 _ _ _ _ _ _ hf p e s m args below meth c _ _ _ _ _ E hR hS (lv_sub hl [1, 2, 0] rfl) hc hs
set_option maxRecDepth 100000 in
def f_X9_layRow (v0 : Nat) (σ : Mm) : Option (Unit × Mm) :=
  zck (kO σ v0 9) (zlt (sD σ v0 41 (0 : Int32)) (fun σ41 => zrb (mR σ41 v0 40) (fun b42 => zck (kA σ41 1 b42 (0 : Int32)) (zlt (sD σ41 b42 (ix (0 : Int32)) (mD σ41 v0 37)) (fun σ44 => f_X9_layRow_17 1000 v0 (0 : Int32) σ44)))))
set_option maxRecDepth 100000 in
set_option maxHeartbeats 4000000 in
theorem V_X9_layRow_0 {g : GG} (v0 : Nat) (σ : Mm) (r : Unit) (σ' : Mm) (hf : f_X9_layRow v0 σ = some (r, σ')) : VJ g RX9 cX9_layRow 3 none false rm_X9_layRow none σ' (0) (0) 0 [(0, .ref (gB g + v0))] [] σ := by
  intro p e s m args below meth c H locs cells slots ls E hR hS hl hc hs
  obtain ⟨hx, hb, hml, hr, hlocks, hown, hts, hin, hT⟩ := id E
  unfold f_X9_layRow at hf
  refine lv_aload_n hx hb dX9_layRow_0 rfl (lv_at hl 0 rfl) ?_
  refine lv_iconst (v := (0 : Int32)) hx hb dX9_layRow_1 rfl ?_
  obtain ⟨hk40, hf⟩ := zc_s hf
  obtain ⟨σ41, eσ41, hf⟩ := zl_s hf
  refine x_putI E hR hS hk40 ok9 41 (Nat.le_of_ble_eq_true rfl) rfl fl_X9_260 (Or.inl rfl) rfl rfl dX9_layRow_2 (fun H locs hR hS => ?_)
  rw [← eσ41] at hR
  refine lv_aload_n hx hb dX9_layRow_5 rfl (lv_at hl 0 rfl) ?_
  obtain ⟨b42, hb42, hf⟩ := zr_s hf
  refine x_getR E hR (by rw [eσ41]; exact hk40) hb42 ok9 (Nat.le_of_ble_eq_true rfl) rfl fl_X9_104 dX9_layRow_6 ?_
  refine lv_iconst (v := (0 : Int32)) hx hb dX9_layRow_9 rfl ?_
  refine lv_aload_n hx hb dX9_layRow_10 rfl (lv_at hl 0 rfl) ?_
  refine x_getI E hR (by rw [eσ41]; exact hk40) ok9 37 (Nat.le_of_ble_eq_true rfl) rfl fl_X9_237 dX9_layRow_11 ?_
  obtain ⟨hk43, hf⟩ := zc_s hf
  obtain ⟨σ44, eσ44, hf⟩ := zl_s hf
  refine x_ist E hR hS hk43 dX9_layRow_14 (fun H locs hR hS => ?_)
  rw [← eσ44] at hR
  refine lv_iconst (v := (0 : Int32)) hx hb dX9_layRow_15 rfl ?_
  refine lv_istore_n (lv' := [(1, .int (0 : Int32)), (0, .ref (gB g + v0))]) hx hb dX9_layRow_16 rfl hl (Nat.le_of_ble_eq_true rfl) rfl (fun ls hl => ?_)
  exact V_X9_layRow_17  1000 _ _ _ _ _ hf p e s m args below meth c _ _ _ _ _ E hR hS (lv_sub hl [1, 0] rfl) hc hs
theorem C_X9_layRow {g : GG} {v0 : Nat} {σ : Mm} {r : Unit} {σ' : Mm} (hf : f_X9_layRow v0 σ = some (r, σ')) : Ct g yX9_layRow cX9_layRow 3 none rm_X9_layRow [.ref (gB g + v0)] σ none σ' :=
  Ct.of false (by decide +kernel) (fun h => by cases h) (Nat.le_of_ble_eq_true rfl) (V_X9_layRow_0 _ _ _ _ hf)
abbrev rm_X9_found : Room := { frames := 4, cells := 0, slots := 0, locals := 98 }
set_option maxRecDepth 100000 in
def f_X9_found_88 (k_33 : Nat → Int32 → Int32 → Int32 → Int32 → Int32 → Mm → Option (Int32 × Mm)) (v0 : Nat) (v1 : Int32) (v2 : Int32) (v3 : Int32) (v4 : Int32) (v5 : Int32) (σ : Mm) : Option (Int32 × Mm) :=
  k_33 v0 v1 v2 v3 v4 (v5 + (1 : Int32)) σ
set_option maxRecDepth 100000 in
set_option maxHeartbeats 4000000 in
theorem V_X9_found_88 {g : GG} (k_33 : Nat → Int32 → Int32 → Int32 → Int32 → Int32 → Mm → Option (Int32 × Mm)) (hk_33 : ∀ (v0 : Nat) (v1 : Int32) (v2 : Int32) (v3 : Int32) (v4 : Int32) (v5 : Int32) (σ : Mm) (r : Int32) (σ' : Mm), k_33 v0 v1 v2 v3 v4 v5 σ = some (r, σ') → VJ g RX9 cX9_found 6 (some .int) false rm_X9_found (some (.int r)) σ' (0) (0) 33 [(0, .ref (gB g + v0)), (1, .int v1), (2, .int v2), (3, .int v3), (4, .int v4), (5, .int v5)] [] σ) (v0 : Nat) (v1 : Int32) (v2 : Int32) (v3 : Int32) (v4 : Int32) (v5 : Int32) (σ : Mm) (r : Int32) (σ' : Mm) (hf : f_X9_found_88 k_33 v0 v1 v2 v3 v4 v5 σ = some (r, σ')) : VJ g RX9 cX9_found 6 (some .int) false rm_X9_found (some (.int r)) σ' (0) (0) 88 [(0, .ref (gB g + v0)), (1, .int v1), (2, .int v2), (3, .int v3), (4, .int v4), (5, .int v5)] [] σ := by
  intro p e s m args below meth c H locs cells slots ls E hR hS hl hc hs
  obtain ⟨hx, hb, hml, hr, hlocks, hown, hts, hin, hT⟩ := id E
  unfold f_X9_found_88 at hf
  refine lv_iinc (v := (v5 + (1 : Int32))) (lv' := [(5, .int (v5 + (1 : Int32))), (0, .ref (gB g + v0)), (1, .int v1), (2, .int v2), (3, .int v3), (4, .int v4)]) hx hb dX9_found_88 hl (k := 5) rfl rfl (Nat.le_of_ble_eq_true rfl) rfl (fun ls hl => ?_)
  refine lv_goto (tgt := 33) hx hb dX9_found_91 (by decide) ?_
  exact hk_33 _ _ _ _ _ _ _ _ _ hf p e s m args below meth c _ _ _ _ _ E hR hS (lv_sub hl [1, 2, 3, 4, 5, 0] rfl) hc hs
set_option maxRecDepth 100000 in
def f_X9_found_33 : Nat → Nat → Int32 → Int32 → Int32 → Int32 → Int32 → Mm → Option (Int32 × Mm)
  | 0, _, _, _, _, _, _, _ => none
  | n + 1, v0, v1, v2, v3, v4, v5, σ =>
    zck (kO σ v0 9) (if (mD σ v0 41) ≤ v5 then (some ((-9 : Int32), σ)) else (zrb (mR σ v0 38) (fun b3 => zck (kA σ 1 b3 v5) (zcb (f_X9_in (((mD σ b3 (ix v5))).toInt64) ((v1).toInt64) ((v2).toInt64) σ) (fun r5 σ6 => if r5 = 0 then (f_X9_found_88 (f_X9_found_33 n) v0 v1 v2 v3 v4 v5 σ6) else (if v4 = v3 then (zck (kO σ6 v0 9) (zrb (mR σ6 v0 38) (fun b10 => zck (kA σ6 1 b10 v5) (zrb (mR σ6 v0 39) (fun b12 => zck (kA σ6 1 b12 v5) (some ((((100 : Int32) * (mD σ6 b10 (ix v5))) + (mD σ6 b12 (ix v5))), σ6))))))) else (f_X9_found_88 (f_X9_found_33 n) v0 v1 v2 v3 (v4 + (1 : Int32)) v5 σ6)))))))
set_option maxRecDepth 100000 in
set_option maxHeartbeats 4000000 in
theorem V_X9_found_33 {g : GG} : ∀ (n : Nat) (v0 : Nat) (v1 : Int32) (v2 : Int32) (v3 : Int32) (v4 : Int32) (v5 : Int32) (σ : Mm) (r : Int32) (σ' : Mm), f_X9_found_33 n v0 v1 v2 v3 v4 v5 σ = some (r, σ') → VJ g RX9 cX9_found 6 (some .int) false rm_X9_found (some (.int r)) σ' (0) (0) 33 [(0, .ref (gB g + v0)), (1, .int v1), (2, .int v2), (3, .int v3), (4, .int v4), (5, .int v5)] [] σ := by
  intro n
  induction n with
  | zero =>
    intro v0 v1 v2 v3 v4 v5 σ r σ' hf
    unfold f_X9_found_33 at hf
    cases hf
  | succ n ih =>
    intro v0 v1 v2 v3 v4 v5 σ r σ' hf p e s m args below meth c H locs cells slots ls E hR hS hl hc hs
    obtain ⟨hx, hb, hml, hr, hlocks, hown, hts, hin, hT⟩ := id E
    unfold f_X9_found_33 at hf
    refine lv_iload hx hb dX9_found_33 (lv_at hl 5 rfl) ?_
    refine lv_aload_n hx hb dX9_found_35 rfl (lv_at hl 0 rfl) ?_
    obtain ⟨hk1, hf⟩ := zc_s hf
    refine x_getI E hR hk1 ok9 41 (Nat.le_of_ble_eq_true rfl) rfl fl_X9_260 dX9_found_36 ?_
    refine lv_icmp_ge (tgt := 94) hx hb dX9_found_39 (by decide) (fun hq2 => ?_) (fun hq2 => ?_)
    · have hf := ite_p hq2 hf
      refine lv_bipush (v := (-9 : Int32)) hx hb dX9_found_94 rfl ?_
      obtain ⟨hr1, hs1⟩ := Prod.mk.inj (Option.some.inj hf)
      exact xr_i E hR hS rfl (by rw [hr1]) hs1.symm hc hs dX9_found_96
    · have hf := ite_n hq2 hf
      refine lv_aload_n hx hb dX9_found_42 rfl (lv_at hl 0 rfl) ?_
      obtain ⟨b3, hb3, hf⟩ := zr_s hf
      refine x_getR E hR hk1 hb3 ok9 (Nat.le_of_ble_eq_true rfl) rfl fl_X9_98 dX9_found_43 ?_
      refine lv_iload hx hb dX9_found_46 (lv_at hl 5 rfl) ?_
      obtain ⟨hk4, hf⟩ := zc_s hf
      refine x_ild E hR hk4 dX9_found_48 ?_
      refine lv_i2l (v := ((mD σ b3 (ix v5))).toInt64) hx hb dX9_found_49 rfl ?_
      refine lv_iload_n hx hb dX9_found_50 rfl (lv_at hl 1 rfl) ?_
      refine lv_i2l (v := (v1).toInt64) hx hb dX9_found_51 rfl ?_
      refine lv_iload_n hx hb dX9_found_52 rfl (lv_at hl 2 rfl) ?_
      refine lv_i2l (v := (v2).toInt64) hx hb dX9_found_53 rfl ?_
      obtain ⟨r5, σ6, hcr5, hf⟩ := zq_s hf
      refine xS (As := [.long (((mD σ b3 (ix v5))).toInt64), .long ((v1).toInt64), .long ((v2).toInt64)]) (rest := []) (st1 := [.int r5]) E hR hS hl (C_X9_in hcr5) lb_X9_in ls_X9_in ml_X9_121 ⟨Nat.le_of_ble_eq_true rfl, Nat.le_of_ble_eq_true rfl⟩ rfl rfl rfl (Nat.le_of_ble_eq_true rfl) dX9_found_54 ⟨hc, hs⟩ (fun H locs hR hS => ?_)
      refine lv_if_eq (tgt := 88) hx hb dX9_found_57 (by decide) (fun hq7 => ?_) (fun hq7 => ?_)
      · have hf := ite_p hq7 hf
        exact V_X9_found_88 _ ih _ _ _ _ _ _ _ _ _ hf p e s m args below meth c _ _ _ _ _ E hR hS (lv_sub hl [0, 1, 2, 3, 4, 5] rfl) hc hs
      · have hf := ite_n hq7 hf
        refine lv_iload hx hb dX9_found_60 (lv_at hl 4 rfl) ?_
        refine lv_iload_n hx hb dX9_found_62 rfl (lv_at hl 3 rfl) ?_
        refine lv_icmp_ne (tgt := 85) hx hb dX9_found_63 (by decide) (fun hq8 => ?_) (fun hq8 => ?_)
        · have hf := ite_n hq8 hf
          refine lv_iinc (v := (v4 + (1 : Int32))) (lv' := [(4, .int (v4 + (1 : Int32))), (0, .ref (gB g + v0)), (1, .int v1), (2, .int v2), (3, .int v3), (5, .int v5)]) hx hb dX9_found_85 hl (k := 4) rfl rfl (Nat.le_of_ble_eq_true rfl) rfl (fun ls hl => ?_)
          exact V_X9_found_88 _ ih _ _ _ _ _ _ _ _ _ hf p e s m args below meth c _ _ _ _ _ E hR hS (lv_sub hl [1, 2, 3, 4, 0, 5] rfl) hc hs
        · have hf := ite_p hq8 hf
          refine lv_bipush (v := (100 : Int32)) hx hb dX9_found_66 rfl ?_
          refine lv_aload_n hx hb dX9_found_68 rfl (lv_at hl 0 rfl) ?_
          obtain ⟨hk9, hf⟩ := zc_s hf
          obtain ⟨b10, hb10, hf⟩ := zr_s hf
          refine x_getR E hR hk9 hb10 ok9 (Nat.le_of_ble_eq_true rfl) rfl fl_X9_98 dX9_found_69 ?_
          refine lv_iload hx hb dX9_found_72 (lv_at hl 5 rfl) ?_
          obtain ⟨hk11, hf⟩ := zc_s hf
          refine x_ild E hR hk11 dX9_found_74 ?_
          refine lv_imul hx hb dX9_found_75 ?_
          refine lv_aload_n hx hb dX9_found_76 rfl (lv_at hl 0 rfl) ?_
          obtain ⟨b12, hb12, hf⟩ := zr_s hf
          refine x_getR E hR hk9 hb12 ok9 (Nat.le_of_ble_eq_true rfl) rfl fl_X9_101 dX9_found_77 ?_
          refine lv_iload hx hb dX9_found_80 (lv_at hl 5 rfl) ?_
          obtain ⟨hk13, hf⟩ := zc_s hf
          refine x_ild E hR hk13 dX9_found_82 ?_
          refine lv_iadd hx hb dX9_found_83 ?_
          obtain ⟨hr1, hs1⟩ := Prod.mk.inj (Option.some.inj hf)
          exact xr_i E hR hS rfl (by rw [hr1]) hs1.symm hc hs dX9_found_84
set_option maxRecDepth 100000 in
def f_X9_found (v0 : Nat) (v1 : Int32) (v2 : Int32) (v3 : Int32) (σ : Mm) : Option (Int32 × Mm) :=
  zcb (f_X9_isRange v1 v2 σ) (fun r14 σ15 => if r14 = 0 then (some ((-2 : Int32), σ15)) else (zck (kO σ15 v0 9) (zcb (f_X9_reasonOf v0 v1 v2 σ15) (fun r18 σ19 => if r18 = 0 then (zck (kO σ19 v0 9) (zcb (f_X9_layRow v0 σ19) (fun r22 σ23 => f_X9_found_33 1000 v0 v1 v2 v3 (0 : Int32) (0 : Int32) σ23))) else (some ((-3 : Int32), σ19))))))
set_option maxRecDepth 100000 in
set_option maxHeartbeats 4000000 in
theorem V_X9_found_0 {g : GG} (v0 : Nat) (v1 : Int32) (v2 : Int32) (v3 : Int32) (σ : Mm) (r : Int32) (σ' : Mm) (hf : f_X9_found v0 v1 v2 v3 σ = some (r, σ')) : VJ g RX9 cX9_found 6 (some .int) false rm_X9_found (some (.int r)) σ' (0) (0) 0 [(0, .ref (gB g + v0)), (1, .int v1), (2, .int v2), (3, .int v3)] [] σ := by
  intro p e s m args below meth c H locs cells slots ls E hR hS hl hc hs
  obtain ⟨hx, hb, hml, hr, hlocks, hown, hts, hin, hT⟩ := id E
  unfold f_X9_found at hf
  refine lv_iload_n hx hb dX9_found_0 rfl (lv_at hl 1 rfl) ?_
  refine lv_iload_n hx hb dX9_found_1 rfl (lv_at hl 2 rfl) ?_
  obtain ⟨r14, σ15, hcr14, hf⟩ := zq_s hf
  refine xS (As := [.int v1, .int v2]) (rest := []) (st1 := [.int r14]) E hR hS hl (C_X9_isRange hcr14) lb_X9_isRange ls_X9_isRange ml_X9_218 ⟨Nat.le_of_ble_eq_true rfl, Nat.le_of_ble_eq_true rfl⟩ rfl rfl rfl (Nat.le_of_ble_eq_true rfl) dX9_found_2 ⟨hc, hs⟩ (fun H locs hR hS => ?_)
  refine lv_if_ne (tgt := 11) hx hb dX9_found_5 (by decide) (fun hq16 => ?_) (fun hq16 => ?_)
  · have hf := ite_n hq16 hf
    refine lv_aload_n hx hb dX9_found_11 rfl (lv_at hl 0 rfl) ?_
    refine lv_iload_n hx hb dX9_found_12 rfl (lv_at hl 1 rfl) ?_
    refine lv_iload_n hx hb dX9_found_13 rfl (lv_at hl 2 rfl) ?_
    obtain ⟨hk17, hf⟩ := zc_s hf
    obtain ⟨r18, σ19, hcr18, hf⟩ := zq_s hf
    refine xV (As := [.int v1, .int v2]) (rest := []) (st1 := [.int r18]) E hR hS hl (C_X9_reasonOf hcr18) hk17 ok9 lb_X9_reasonOf lv_X9_reasonOf ml_X9_252 ⟨Nat.le_of_ble_eq_true rfl, Nat.le_of_ble_eq_true rfl⟩ rfl rfl rfl (Nat.le_of_ble_eq_true rfl) dX9_found_14 ⟨hc, hs⟩ (fun H locs hR hS => ?_)
    refine lv_if_eq (tgt := 23) hx hb dX9_found_17 (by decide) (fun hq20 => ?_) (fun hq20 => ?_)
    · have hf := ite_p hq20 hf
      refine lv_aload_n hx hb dX9_found_23 rfl (lv_at hl 0 rfl) ?_
      obtain ⟨hk21, hf⟩ := zc_s hf
      obtain ⟨r22, σ23, hcr22, hf⟩ := zq_s hf
      refine xV (As := []) (rest := []) (st1 := []) E hR hS hl (C_X9_layRow hcr22) hk21 ok9 lb_X9_layRow lv_X9_layRow ml_X9_257 ⟨Nat.le_of_ble_eq_true rfl, Nat.le_of_ble_eq_true rfl⟩ rfl rfl rfl (Nat.le_of_ble_eq_true rfl) dX9_found_24 ⟨hc, hs⟩ (fun H locs hR hS => ?_)
      refine lv_iconst (v := (0 : Int32)) hx hb dX9_found_27 rfl ?_
      refine lv_istore (lv' := [(4, .int (0 : Int32)), (0, .ref (gB g + v0)), (1, .int v1), (2, .int v2), (3, .int v3)]) hx hb dX9_found_28 hl (Nat.le_of_ble_eq_true rfl) rfl (fun ls hl => ?_)
      refine lv_iconst (v := (0 : Int32)) hx hb dX9_found_30 rfl ?_
      refine lv_istore (lv' := [(5, .int (0 : Int32)), (4, .int (0 : Int32)), (0, .ref (gB g + v0)), (1, .int v1), (2, .int v2), (3, .int v3)]) hx hb dX9_found_31 hl (Nat.le_of_ble_eq_true rfl) rfl (fun ls hl => ?_)
      exact V_X9_found_33  1000 _ _ _ _ _ _ _ _ _ hf p e s m args below meth c _ _ _ _ _ E hR hS (lv_sub hl [2, 3, 4, 5, 1, 0] rfl) hc hs
    · have hf := ite_n hq20 hf
      refine lv_bipush (v := (-3 : Int32)) hx hb dX9_found_20 rfl ?_
      obtain ⟨hr1, hs1⟩ := Prod.mk.inj (Option.some.inj hf)
      exact xr_i E hR hS rfl (by rw [hr1]) hs1.symm hc hs dX9_found_22
  · have hf := ite_p hq16 hf
    refine lv_bipush (v := (-2 : Int32)) hx hb dX9_found_8 rfl ?_
    obtain ⟨hr1, hs1⟩ := Prod.mk.inj (Option.some.inj hf)
    exact xr_i E hR hS rfl (by rw [hr1]) hs1.symm hc hs dX9_found_10
theorem C_X9_found {g : GG} {v0 : Nat} {v1 : Int32} {v2 : Int32} {v3 : Int32} {σ : Mm} {r : Int32} {σ' : Mm} (hf : f_X9_found v0 v1 v2 v3 σ = some (r, σ')) : Ct g yX9_found cX9_found 6 (some .int) rm_X9_found [.ref (gB g + v0), .int v1, .int v2, .int v3] σ (some (.int r)) σ' :=
  Ct.of false (by decide +kernel) (fun h => by cases h) (Nat.le_of_ble_eq_true rfl) (V_X9_found_0 _ _ _ _ _ _ _ hf)
abbrev rm_X9_takeOut : Room := { frames := 0, cells := 0, slots := 0, locals := 0 }
set_option maxRecDepth 100000 in
def f_X9_takeOut_48 : Nat → Nat → Int32 → Mm → Option (Unit × Mm)
  | 0, _, _, _ => none
  | n + 1, v0, v2, σ =>
    zck (kO σ v0 9) (if (mD σ v0 41) ≤ v2 then (zlt (sD σ v0 41 ((mD σ v0 41) - (1 : Int32))) (fun σ3 => some ((), σ3))) else (zrb (mR σ v0 40) (fun b4 => zck (kA σ 1 b4 (v2 + (1 : Int32))) (zck (kA σ 1 b4 v2) (zlt (sD σ b4 (ix v2) (mD σ b4 (ix (v2 + (1 : Int32))))) (fun σ7 => f_X9_takeOut_48 n v0 (v2 + (1 : Int32)) σ7))))))
set_option maxRecDepth 100000 in
set_option maxHeartbeats 4000000 in
theorem V_X9_takeOut_48 {g : GG} : ∀ (n : Nat) (v0 : Nat) (v2 : Int32) (σ : Mm) (r : Unit) (σ' : Mm), f_X9_takeOut_48 n v0 v2 σ = some (r, σ') → VJ g RX9 cX9_takeOut 3 none false rm_X9_takeOut none σ' (0) (0) 48 [(0, .ref (gB g + v0)), (2, .int v2)] [] σ := by
  intro n
  induction n with
  | zero =>
    intro v0 v2 σ r σ' hf
    unfold f_X9_takeOut_48 at hf
    cases hf
  | succ n ih =>
    intro v0 v2 σ r σ' hf p e s m args below meth c H locs cells slots ls E hR hS hl hc hs
    obtain ⟨hx, hb, hml, hr, hlocks, hown, hts, hin, hT⟩ := id E
    unfold f_X9_takeOut_48 at hf
    refine lv_iload_n hx hb dX9_takeOut_48 rfl (lv_at hl 1 rfl) ?_
    refine lv_aload_n hx hb dX9_takeOut_49 rfl (lv_at hl 0 rfl) ?_
    obtain ⟨hk1, hf⟩ := zc_s hf
    refine x_getI E hR hk1 ok9 41 (Nat.le_of_ble_eq_true rfl) rfl fl_X9_260 dX9_takeOut_50 ?_
    refine lv_icmp_ge (tgt := 76) hx hb dX9_takeOut_53 (by decide) (fun hq2 => ?_) (fun hq2 => ?_)
    · have hf := ite_p hq2 hf
      refine lv_aload_n hx hb dX9_takeOut_76 rfl (lv_at hl 0 rfl) ?_
      refine lv_dup hx hb dX9_takeOut_77 rfl ?_
      refine x_getI E hR hk1 ok9 41 (Nat.le_of_ble_eq_true rfl) rfl fl_X9_260 dX9_takeOut_78 ?_
      refine lv_iconst (v := (1 : Int32)) hx hb dX9_takeOut_81 rfl ?_
      refine lv_isub hx hb dX9_takeOut_82 ?_
      obtain ⟨σ3, eσ3, hf⟩ := zl_s hf
      refine x_putI E hR hS hk1 ok9 41 (Nat.le_of_ble_eq_true rfl) rfl fl_X9_260 (Or.inl rfl) rfl rfl dX9_takeOut_83 (fun H locs hR hS => ?_)
      rw [← eσ3] at hR
      obtain ⟨hr1, hs1⟩ := Prod.mk.inj (Option.some.inj hf)
      exact xr_v E hR hS rfl rfl hs1.symm hc hs dX9_takeOut_86
    · have hf := ite_n hq2 hf
      refine lv_aload_n hx hb dX9_takeOut_56 rfl (lv_at hl 0 rfl) ?_
      obtain ⟨b4, hb4, hf⟩ := zr_s hf
      refine x_getR E hR hk1 hb4 ok9 (Nat.le_of_ble_eq_true rfl) rfl fl_X9_104 dX9_takeOut_57 ?_
      refine lv_iload_n hx hb dX9_takeOut_60 rfl (lv_at hl 1 rfl) ?_
      refine lv_aload_n hx hb dX9_takeOut_61 rfl (lv_at hl 0 rfl) ?_
      refine x_getR E hR hk1 hb4 ok9 (Nat.le_of_ble_eq_true rfl) rfl fl_X9_104 dX9_takeOut_62 ?_
      refine lv_iload_n hx hb dX9_takeOut_65 rfl (lv_at hl 1 rfl) ?_
      refine lv_iconst (v := (1 : Int32)) hx hb dX9_takeOut_66 rfl ?_
      refine lv_iadd hx hb dX9_takeOut_67 ?_
      obtain ⟨hk5, hf⟩ := zc_s hf
      refine x_ild E hR hk5 dX9_takeOut_68 ?_
      obtain ⟨hk6, hf⟩ := zc_s hf
      obtain ⟨σ7, eσ7, hf⟩ := zl_s hf
      refine x_ist E hR hS hk6 dX9_takeOut_69 (fun H locs hR hS => ?_)
      rw [← eσ7] at hR
      refine lv_iinc (v := (v2 + (1 : Int32))) (lv' := [(2, .int (v2 + (1 : Int32))), (0, .ref (gB g + v0))]) hx hb dX9_takeOut_70 hl (k := 1) rfl rfl (Nat.le_of_ble_eq_true rfl) rfl (fun ls hl => ?_)
      refine lv_goto (tgt := 48) hx hb dX9_takeOut_73 (by decide) ?_
      exact ih _ _ _ _ _ hf p e s m args below meth c _ _ _ _ _ E hR hS (lv_sub hl [1, 0] rfl) hc hs
set_option maxRecDepth 100000 in
def f_X9_takeOut_2 : Nat → Nat → Int32 → Int32 → Mm → Option (Unit × Mm)
  | 0, _, _, _, _ => none
  | n + 1, v0, v1, v2, σ =>
    zck (kO σ v0 9) (if ((mD σ v0 41) - (1 : Int32)) ≤ v2 then (f_X9_takeOut_48 1000 v0 v1 σ) else (zrb (mR σ v0 38) (fun b10 => zck (kA σ 1 b10 (v2 + (1 : Int32))) (zck (kA σ 1 b10 v2) (zlt (sD σ b10 (ix v2) (mD σ b10 (ix (v2 + (1 : Int32))))) (fun σ13 => zrb (mR σ13 v0 39) (fun b14 => zck (kA σ13 1 b14 (v2 + (1 : Int32))) (zck (kA σ13 1 b14 v2) (zlt (sD σ13 b14 (ix v2) (mD σ13 b14 (ix (v2 + (1 : Int32))))) (fun σ17 => f_X9_takeOut_2 n v0 v1 (v2 + (1 : Int32)) σ17))))))))))
set_option maxRecDepth 100000 in
set_option maxHeartbeats 4000000 in
theorem V_X9_takeOut_2 {g : GG} : ∀ (n : Nat) (v0 : Nat) (v1 : Int32) (v2 : Int32) (σ : Mm) (r : Unit) (σ' : Mm), f_X9_takeOut_2 n v0 v1 v2 σ = some (r, σ') → VJ g RX9 cX9_takeOut 3 none false rm_X9_takeOut none σ' (0) (0) 2 [(0, .ref (gB g + v0)), (1, .int v1), (2, .int v2)] [] σ := by
  intro n
  induction n with
  | zero =>
    intro v0 v1 v2 σ r σ' hf
    unfold f_X9_takeOut_2 at hf
    cases hf
  | succ n ih =>
    intro v0 v1 v2 σ r σ' hf p e s m args below meth c H locs cells slots ls E hR hS hl hc hs
    obtain ⟨hx, hb, hml, hr, hlocks, hown, hts, hin, hT⟩ := id E
    unfold f_X9_takeOut_2 at hf
    refine lv_iload_n hx hb dX9_takeOut_2 rfl (lv_at hl 2 rfl) ?_
    refine lv_aload_n hx hb dX9_takeOut_3 rfl (lv_at hl 0 rfl) ?_
    obtain ⟨hk8, hf⟩ := zc_s hf
    refine x_getI E hR hk8 ok9 41 (Nat.le_of_ble_eq_true rfl) rfl fl_X9_260 dX9_takeOut_4 ?_
    refine lv_iconst (v := (1 : Int32)) hx hb dX9_takeOut_7 rfl ?_
    refine lv_isub hx hb dX9_takeOut_8 ?_
    refine lv_icmp_ge (tgt := 46) hx hb dX9_takeOut_9 (by decide) (fun hq9 => ?_) (fun hq9 => ?_)
    · have hf := ite_p hq9 hf
      refine lv_iload_n hx hb dX9_takeOut_46 rfl (lv_at hl 1 rfl) ?_
      refine lv_istore_n (lv' := [(2, .int v1), (0, .ref (gB g + v0)), (1, .int v1)]) hx hb dX9_takeOut_47 rfl hl (Nat.le_of_ble_eq_true rfl) rfl (fun ls hl => ?_)
      exact V_X9_takeOut_48  1000 _ _ _ _ _ hf p e s m args below meth c _ _ _ _ _ E hR hS (lv_sub hl [1, 0] rfl) hc hs
    · have hf := ite_n hq9 hf
      refine lv_aload_n hx hb dX9_takeOut_12 rfl (lv_at hl 0 rfl) ?_
      obtain ⟨b10, hb10, hf⟩ := zr_s hf
      refine x_getR E hR hk8 hb10 ok9 (Nat.le_of_ble_eq_true rfl) rfl fl_X9_98 dX9_takeOut_13 ?_
      refine lv_iload_n hx hb dX9_takeOut_16 rfl (lv_at hl 2 rfl) ?_
      refine lv_aload_n hx hb dX9_takeOut_17 rfl (lv_at hl 0 rfl) ?_
      refine x_getR E hR hk8 hb10 ok9 (Nat.le_of_ble_eq_true rfl) rfl fl_X9_98 dX9_takeOut_18 ?_
      refine lv_iload_n hx hb dX9_takeOut_21 rfl (lv_at hl 2 rfl) ?_
      refine lv_iconst (v := (1 : Int32)) hx hb dX9_takeOut_22 rfl ?_
      refine lv_iadd hx hb dX9_takeOut_23 ?_
      obtain ⟨hk11, hf⟩ := zc_s hf
      refine x_ild E hR hk11 dX9_takeOut_24 ?_
      obtain ⟨hk12, hf⟩ := zc_s hf
      obtain ⟨σ13, eσ13, hf⟩ := zl_s hf
      refine x_ist E hR hS hk12 dX9_takeOut_25 (fun H locs hR hS => ?_)
      rw [← eσ13] at hR
      refine lv_aload_n hx hb dX9_takeOut_26 rfl (lv_at hl 0 rfl) ?_
      obtain ⟨b14, hb14, hf⟩ := zr_s hf
      refine x_getR E hR (by rw [eσ13]; exact hk8) hb14 ok9 (Nat.le_of_ble_eq_true rfl) rfl fl_X9_101 dX9_takeOut_27 ?_
      refine lv_iload_n hx hb dX9_takeOut_30 rfl (lv_at hl 2 rfl) ?_
      refine lv_aload_n hx hb dX9_takeOut_31 rfl (lv_at hl 0 rfl) ?_
      refine x_getR E hR (by rw [eσ13]; exact hk8) hb14 ok9 (Nat.le_of_ble_eq_true rfl) rfl fl_X9_101 dX9_takeOut_32 ?_
      refine lv_iload_n hx hb dX9_takeOut_35 rfl (lv_at hl 2 rfl) ?_
      refine lv_iconst (v := (1 : Int32)) hx hb dX9_takeOut_36 rfl ?_
      refine lv_iadd hx hb dX9_takeOut_37 ?_
      obtain ⟨hk15, hf⟩ := zc_s hf
      refine x_ild E hR hk15 dX9_takeOut_38 ?_
      obtain ⟨hk16, hf⟩ := zc_s hf
      obtain ⟨σ17, eσ17, hf⟩ := zl_s hf
      refine x_ist E hR hS hk16 dX9_takeOut_39 (fun H locs hR hS => ?_)
      rw [← eσ17] at hR
      refine lv_iinc (v := (v2 + (1 : Int32))) (lv' := [(2, .int (v2 + (1 : Int32))), (0, .ref (gB g + v0)), (1, .int v1)]) hx hb dX9_takeOut_40 hl (k := 2) rfl rfl (Nat.le_of_ble_eq_true rfl) rfl (fun ls hl => ?_)
      refine lv_goto (tgt := 2) hx hb dX9_takeOut_43 (by decide) ?_
      exact ih _ _ _ _ _ _ hf p e s m args below meth c _ _ _ _ _ E hR hS (lv_sub hl [1, 2, 0] rfl) hc hs
set_option maxRecDepth 100000 in
def f_X9_takeOut (v0 : Nat) (v1 : Int32) (σ : Mm) : Option (Unit × Mm) :=
  f_X9_takeOut_2 1000 v0 v1 v1 σ
set_option maxRecDepth 100000 in
set_option maxHeartbeats 4000000 in
theorem V_X9_takeOut_0 {g : GG} (v0 : Nat) (v1 : Int32) (σ : Mm) (r : Unit) (σ' : Mm) (hf : f_X9_takeOut v0 v1 σ = some (r, σ')) : VJ g RX9 cX9_takeOut 3 none false rm_X9_takeOut none σ' (0) (0) 0 [(0, .ref (gB g + v0)), (1, .int v1)] [] σ := by
  intro p e s m args below meth c H locs cells slots ls E hR hS hl hc hs
  obtain ⟨hx, hb, hml, hr, hlocks, hown, hts, hin, hT⟩ := id E
  unfold f_X9_takeOut at hf
  refine lv_iload_n hx hb dX9_takeOut_0 rfl (lv_at hl 1 rfl) ?_
  refine lv_istore_n (lv' := [(2, .int v1), (0, .ref (gB g + v0)), (1, .int v1)]) hx hb dX9_takeOut_1 rfl hl (Nat.le_of_ble_eq_true rfl) rfl (fun ls hl => ?_)
  exact V_X9_takeOut_2  1000 _ _ _ _ _ _ hf p e s m args below meth c _ _ _ _ _ E hR hS (lv_sub hl [1, 2, 0] rfl) hc hs
theorem C_X9_takeOut {g : GG} {v0 : Nat} {v1 : Int32} {σ : Mm} {r : Unit} {σ' : Mm} (hf : f_X9_takeOut v0 v1 σ = some (r, σ')) : Ct g yX9_takeOut cX9_takeOut 3 none rm_X9_takeOut [.ref (gB g + v0), .int v1] σ none σ' :=
  Ct.of false (by decide +kernel) (fun h => by cases h) (Nat.le_of_ble_eq_true rfl) (V_X9_takeOut_0 _ _ _ _ _ hf)
abbrev rm_X9_putIn : Room := { frames := 0, cells := 0, slots := 0, locals := 0 }
set_option maxRecDepth 100000 in
def f_X9_putIn_84 : Nat → Nat → Int32 → Int32 → Int32 → Int32 → Mm → Option (Unit × Mm)
  | 0, _, _, _, _, _, _ => none
  | n + 1, v0, v1, v2, v3, v4, σ =>
    if v4 ≤ v3 then (zck (kO σ v0 9) (zrb (mR σ v0 40) (fun b3 => zck (kA σ 1 b3 v3) (zlt (sD σ b3 (ix v3) (0 : Int32)) (fun σ5 => zrb (mR σ5 v0 38) (fun b6 => zck (kA σ5 1 b6 v3) (zlt (sD σ5 b6 (ix v3) v1) (fun σ8 => zrb (mR σ8 v0 39) (fun b9 => zck (kA σ8 1 b9 v3) (zlt (sD σ8 b9 (ix v3) v2) (fun σ11 => zlt (sD σ11 v0 41 ((mD σ11 v0 41) + (1 : Int32))) (fun σ12 => some ((), σ12))))))))))))) else (zck (kO σ v0 9) (zrb (mR σ v0 40) (fun b14 => zck (kA σ 1 b14 (v4 - (1 : Int32))) (zck (kA σ 1 b14 v4) (zlt (sD σ b14 (ix v4) (mD σ b14 (ix (v4 - (1 : Int32))))) (fun σ17 => f_X9_putIn_84 n v0 v1 v2 v3 (v4 + (-1 : Int32)) σ17))))))
set_option maxRecDepth 100000 in
set_option maxHeartbeats 4000000 in
theorem V_X9_putIn_84 {g : GG} : ∀ (n : Nat) (v0 : Nat) (v1 : Int32) (v2 : Int32) (v3 : Int32) (v4 : Int32) (σ : Mm) (r : Unit) (σ' : Mm), f_X9_putIn_84 n v0 v1 v2 v3 v4 σ = some (r, σ') → VJ g RX9 cX9_putIn 5 none false rm_X9_putIn none σ' (0) (0) 84 [(0, .ref (gB g + v0)), (1, .int v1), (2, .int v2), (3, .int v3), (4, .int v4)] [] σ := by
  intro n
  induction n with
  | zero =>
    intro v0 v1 v2 v3 v4 σ r σ' hf
    unfold f_X9_putIn_84 at hf
    cases hf
  | succ n ih =>
    intro v0 v1 v2 v3 v4 σ r σ' hf p e s m args below meth c H locs cells slots ls E hR hS hl hc hs
    obtain ⟨hx, hb, hml, hr, hlocks, hown, hts, hin, hT⟩ := id E
    unfold f_X9_putIn_84 at hf
    refine lv_iload hx hb dX9_putIn_84 (lv_at hl 4 rfl) ?_
    refine lv_iload_n hx hb dX9_putIn_86 rfl (lv_at hl 3 rfl) ?_
    refine lv_icmp_le (tgt := 112) hx hb dX9_putIn_87 (by decide) (fun hq1 => ?_) (fun hq1 => ?_)
    · have hf := ite_p hq1 hf
      refine lv_aload_n hx hb dX9_putIn_112 rfl (lv_at hl 0 rfl) ?_
      obtain ⟨hk2, hf⟩ := zc_s hf
      obtain ⟨b3, hb3, hf⟩ := zr_s hf
      refine x_getR E hR hk2 hb3 ok9 (Nat.le_of_ble_eq_true rfl) rfl fl_X9_104 dX9_putIn_113 ?_
      refine lv_iload_n hx hb dX9_putIn_116 rfl (lv_at hl 3 rfl) ?_
      refine lv_iconst (v := (0 : Int32)) hx hb dX9_putIn_117 rfl ?_
      obtain ⟨hk4, hf⟩ := zc_s hf
      obtain ⟨σ5, eσ5, hf⟩ := zl_s hf
      refine x_ist E hR hS hk4 dX9_putIn_118 (fun H locs hR hS => ?_)
      rw [← eσ5] at hR
      refine lv_aload_n hx hb dX9_putIn_119 rfl (lv_at hl 0 rfl) ?_
      obtain ⟨b6, hb6, hf⟩ := zr_s hf
      refine x_getR E hR (by rw [eσ5]; exact hk2) hb6 ok9 (Nat.le_of_ble_eq_true rfl) rfl fl_X9_98 dX9_putIn_120 ?_
      refine lv_iload_n hx hb dX9_putIn_123 rfl (lv_at hl 3 rfl) ?_
      refine lv_iload_n hx hb dX9_putIn_124 rfl (lv_at hl 1 rfl) ?_
      obtain ⟨hk7, hf⟩ := zc_s hf
      obtain ⟨σ8, eσ8, hf⟩ := zl_s hf
      refine x_ist E hR hS hk7 dX9_putIn_125 (fun H locs hR hS => ?_)
      rw [← eσ8] at hR
      refine lv_aload_n hx hb dX9_putIn_126 rfl (lv_at hl 0 rfl) ?_
      obtain ⟨b9, hb9, hf⟩ := zr_s hf
      refine x_getR E hR (by rw [eσ8, eσ5]; exact hk2) hb9 ok9 (Nat.le_of_ble_eq_true rfl) rfl fl_X9_101 dX9_putIn_127 ?_
      refine lv_iload_n hx hb dX9_putIn_130 rfl (lv_at hl 3 rfl) ?_
      refine lv_iload_n hx hb dX9_putIn_131 rfl (lv_at hl 2 rfl) ?_
      obtain ⟨hk10, hf⟩ := zc_s hf
      obtain ⟨σ11, eσ11, hf⟩ := zl_s hf
      refine x_ist E hR hS hk10 dX9_putIn_132 (fun H locs hR hS => ?_)
      rw [← eσ11] at hR
      refine lv_aload_n hx hb dX9_putIn_133 rfl (lv_at hl 0 rfl) ?_
      refine lv_dup hx hb dX9_putIn_134 rfl ?_
      refine x_getI E hR (by rw [eσ11, eσ8, eσ5]; exact hk2) ok9 41 (Nat.le_of_ble_eq_true rfl) rfl fl_X9_260 dX9_putIn_135 ?_
      refine lv_iconst (v := (1 : Int32)) hx hb dX9_putIn_138 rfl ?_
      refine lv_iadd hx hb dX9_putIn_139 ?_
      obtain ⟨σ12, eσ12, hf⟩ := zl_s hf
      refine x_putI E hR hS (by rw [eσ11, eσ8, eσ5]; exact hk2) ok9 41 (Nat.le_of_ble_eq_true rfl) rfl fl_X9_260 (Or.inl rfl) rfl rfl dX9_putIn_140 (fun H locs hR hS => ?_)
      rw [← eσ12] at hR
      obtain ⟨hr1, hs1⟩ := Prod.mk.inj (Option.some.inj hf)
      exact xr_v E hR hS rfl rfl hs1.symm hc hs dX9_putIn_143
    · have hf := ite_n hq1 hf
      refine lv_aload_n hx hb dX9_putIn_90 rfl (lv_at hl 0 rfl) ?_
      obtain ⟨hk13, hf⟩ := zc_s hf
      obtain ⟨b14, hb14, hf⟩ := zr_s hf
      refine x_getR E hR hk13 hb14 ok9 (Nat.le_of_ble_eq_true rfl) rfl fl_X9_104 dX9_putIn_91 ?_
      refine lv_iload hx hb dX9_putIn_94 (lv_at hl 4 rfl) ?_
      refine lv_aload_n hx hb dX9_putIn_96 rfl (lv_at hl 0 rfl) ?_
      refine x_getR E hR hk13 hb14 ok9 (Nat.le_of_ble_eq_true rfl) rfl fl_X9_104 dX9_putIn_97 ?_
      refine lv_iload hx hb dX9_putIn_100 (lv_at hl 4 rfl) ?_
      refine lv_iconst (v := (1 : Int32)) hx hb dX9_putIn_102 rfl ?_
      refine lv_isub hx hb dX9_putIn_103 ?_
      obtain ⟨hk15, hf⟩ := zc_s hf
      refine x_ild E hR hk15 dX9_putIn_104 ?_
      obtain ⟨hk16, hf⟩ := zc_s hf
      obtain ⟨σ17, eσ17, hf⟩ := zl_s hf
      refine x_ist E hR hS hk16 dX9_putIn_105 (fun H locs hR hS => ?_)
      rw [← eσ17] at hR
      refine lv_iinc (v := (v4 + (-1 : Int32))) (lv' := [(4, .int (v4 + (-1 : Int32))), (0, .ref (gB g + v0)), (1, .int v1), (2, .int v2), (3, .int v3)]) hx hb dX9_putIn_106 hl (k := 4) rfl rfl (Nat.le_of_ble_eq_true rfl) rfl (fun ls hl => ?_)
      refine lv_goto (tgt := 84) hx hb dX9_putIn_109 (by decide) ?_
      exact ih _ _ _ _ _ _ _ _ hf p e s m args below meth c _ _ _ _ _ E hR hS (lv_sub hl [1, 2, 3, 4, 0] rfl) hc hs
set_option maxRecDepth 100000 in
def f_X9_putIn_32 : Nat → Nat → Int32 → Int32 → Int32 → Int32 → Mm → Option (Unit × Mm)
  | 0, _, _, _, _, _, _ => none
  | n + 1, v0, v1, v2, v3, v4, σ =>
    if v4 ≤ v3 then (zck (kO σ v0 9) (f_X9_putIn_84 1000 v0 v1 v2 v3 ((mD σ v0 41) + (1 : Int32)) σ)) else (zck (kO σ v0 9) (zrb (mR σ v0 38) (fun b21 => zck (kA σ 1 b21 (v4 - (1 : Int32))) (zck (kA σ 1 b21 v4) (zlt (sD σ b21 (ix v4) (mD σ b21 (ix (v4 - (1 : Int32))))) (fun σ24 => zrb (mR σ24 v0 39) (fun b25 => zck (kA σ24 1 b25 (v4 - (1 : Int32))) (zck (kA σ24 1 b25 v4) (zlt (sD σ24 b25 (ix v4) (mD σ24 b25 (ix (v4 - (1 : Int32))))) (fun σ28 => f_X9_putIn_32 n v0 v1 v2 v3 (v4 + (-1 : Int32)) σ28))))))))))
set_option maxRecDepth 100000 in
set_option maxHeartbeats 4000000 in
theorem V_X9_putIn_32 {g : GG} : ∀ (n : Nat) (v0 : Nat) (v1 : Int32) (v2 : Int32) (v3 : Int32) (v4 : Int32) (σ : Mm) (r : Unit) (σ' : Mm), f_X9_putIn_32 n v0 v1 v2 v3 v4 σ = some (r, σ') → VJ g RX9 cX9_putIn 5 none false rm_X9_putIn none σ' (0) (0) 32 [(0, .ref (gB g + v0)), (1, .int v1), (2, .int v2), (3, .int v3), (4, .int v4)] [] σ := by
  intro n
  induction n with
  | zero =>
    intro v0 v1 v2 v3 v4 σ r σ' hf
    unfold f_X9_putIn_32 at hf
    cases hf
  | succ n ih =>
    intro v0 v1 v2 v3 v4 σ r σ' hf p e s m args below meth c H locs cells slots ls E hR hS hl hc hs
    obtain ⟨hx, hb, hml, hr, hlocks, hown, hts, hin, hT⟩ := id E
    unfold f_X9_putIn_32 at hf
    refine lv_iload hx hb dX9_putIn_32 (lv_at hl 4 rfl) ?_
    refine lv_iload_n hx hb dX9_putIn_34 rfl (lv_at hl 3 rfl) ?_
    refine lv_icmp_le (tgt := 76) hx hb dX9_putIn_35 (by decide) (fun hq18 => ?_) (fun hq18 => ?_)
    · have hf := ite_p hq18 hf
      refine lv_aload_n hx hb dX9_putIn_76 rfl (lv_at hl 0 rfl) ?_
      obtain ⟨hk19, hf⟩ := zc_s hf
      refine x_getI E hR hk19 ok9 41 (Nat.le_of_ble_eq_true rfl) rfl fl_X9_260 dX9_putIn_77 ?_
      refine lv_iconst (v := (1 : Int32)) hx hb dX9_putIn_80 rfl ?_
      refine lv_iadd hx hb dX9_putIn_81 ?_
      refine lv_istore (lv' := [(4, .int ((mD σ v0 41) + (1 : Int32))), (0, .ref (gB g + v0)), (1, .int v1), (2, .int v2), (3, .int v3)]) hx hb dX9_putIn_82 hl (Nat.le_of_ble_eq_true rfl) rfl (fun ls hl => ?_)
      exact V_X9_putIn_84  1000 _ _ _ _ _ _ _ _ hf p e s m args below meth c _ _ _ _ _ E hR hS (lv_sub hl [1, 2, 3, 4, 0] rfl) hc hs
    · have hf := ite_n hq18 hf
      refine lv_aload_n hx hb dX9_putIn_38 rfl (lv_at hl 0 rfl) ?_
      obtain ⟨hk20, hf⟩ := zc_s hf
      obtain ⟨b21, hb21, hf⟩ := zr_s hf
      refine x_getR E hR hk20 hb21 ok9 (Nat.le_of_ble_eq_true rfl) rfl fl_X9_98 dX9_putIn_39 ?_
      refine lv_iload hx hb dX9_putIn_42 (lv_at hl 4 rfl) ?_
      refine lv_aload_n hx hb dX9_putIn_44 rfl (lv_at hl 0 rfl) ?_
      refine x_getR E hR hk20 hb21 ok9 (Nat.le_of_ble_eq_true rfl) rfl fl_X9_98 dX9_putIn_45 ?_
      refine lv_iload hx hb dX9_putIn_48 (lv_at hl 4 rfl) ?_
      refine lv_iconst (v := (1 : Int32)) hx hb dX9_putIn_50 rfl ?_
      refine lv_isub hx hb dX9_putIn_51 ?_
      obtain ⟨hk22, hf⟩ := zc_s hf
      refine x_ild E hR hk22 dX9_putIn_52 ?_
      obtain ⟨hk23, hf⟩ := zc_s hf
      obtain ⟨σ24, eσ24, hf⟩ := zl_s hf
      refine x_ist E hR hS hk23 dX9_putIn_53 (fun H locs hR hS => ?_)
      rw [← eσ24] at hR
      refine lv_aload_n hx hb dX9_putIn_54 rfl (lv_at hl 0 rfl) ?_
      obtain ⟨b25, hb25, hf⟩ := zr_s hf
      refine x_getR E hR (by rw [eσ24]; exact hk20) hb25 ok9 (Nat.le_of_ble_eq_true rfl) rfl fl_X9_101 dX9_putIn_55 ?_
      refine lv_iload hx hb dX9_putIn_58 (lv_at hl 4 rfl) ?_
      refine lv_aload_n hx hb dX9_putIn_60 rfl (lv_at hl 0 rfl) ?_
      refine x_getR E hR (by rw [eσ24]; exact hk20) hb25 ok9 (Nat.le_of_ble_eq_true rfl) rfl fl_X9_101 dX9_putIn_61 ?_
      refine lv_iload hx hb dX9_putIn_64 (lv_at hl 4 rfl) ?_
      refine lv_iconst (v := (1 : Int32)) hx hb dX9_putIn_66 rfl ?_
      refine lv_isub hx hb dX9_putIn_67 ?_
      obtain ⟨hk26, hf⟩ := zc_s hf
      refine x_ild E hR hk26 dX9_putIn_68 ?_
      obtain ⟨hk27, hf⟩ := zc_s hf
      obtain ⟨σ28, eσ28, hf⟩ := zl_s hf
      refine x_ist E hR hS hk27 dX9_putIn_69 (fun H locs hR hS => ?_)
      rw [← eσ28] at hR
      refine lv_iinc (v := (v4 + (-1 : Int32))) (lv' := [(4, .int (v4 + (-1 : Int32))), (0, .ref (gB g + v0)), (1, .int v1), (2, .int v2), (3, .int v3)]) hx hb dX9_putIn_70 hl (k := 4) rfl rfl (Nat.le_of_ble_eq_true rfl) rfl (fun ls hl => ?_)
      refine lv_goto (tgt := 32) hx hb dX9_putIn_73 (by decide) ?_
      exact ih _ _ _ _ _ _ _ _ hf p e s m args below meth c _ _ _ _ _ E hR hS (lv_sub hl [1, 2, 3, 4, 0] rfl) hc hs
set_option maxRecDepth 100000 in
def f_X9_putIn_26 (v0 : Nat) (v1 : Int32) (v2 : Int32) (v3 : Int32) (σ : Mm) : Option (Unit × Mm) :=
  zck (kO σ v0 9) (f_X9_putIn_32 1000 v0 v1 v2 v3 (mD σ v0 41) σ)
set_option maxRecDepth 100000 in
set_option maxHeartbeats 4000000 in
theorem V_X9_putIn_26 {g : GG} (v0 : Nat) (v1 : Int32) (v2 : Int32) (v3 : Int32) (σ : Mm) (r : Unit) (σ' : Mm) (hf : f_X9_putIn_26 v0 v1 v2 v3 σ = some (r, σ')) : VJ g RX9 cX9_putIn 5 none false rm_X9_putIn none σ' (0) (0) 26 [(0, .ref (gB g + v0)), (1, .int v1), (2, .int v2), (3, .int v3)] [] σ := by
  intro p e s m args below meth c H locs cells slots ls E hR hS hl hc hs
  obtain ⟨hx, hb, hml, hr, hlocks, hown, hts, hin, hT⟩ := id E
  unfold f_X9_putIn_26 at hf
  refine lv_aload_n hx hb dX9_putIn_26 rfl (lv_at hl 0 rfl) ?_
  obtain ⟨hk29, hf⟩ := zc_s hf
  refine x_getI E hR hk29 ok9 41 (Nat.le_of_ble_eq_true rfl) rfl fl_X9_260 dX9_putIn_27 ?_
  refine lv_istore (lv' := [(4, .int (mD σ v0 41)), (0, .ref (gB g + v0)), (1, .int v1), (2, .int v2), (3, .int v3)]) hx hb dX9_putIn_30 hl (Nat.le_of_ble_eq_true rfl) rfl (fun ls hl => ?_)
  exact V_X9_putIn_32  1000 _ _ _ _ _ _ _ _ hf p e s m args below meth c _ _ _ _ _ E hR hS (lv_sub hl [1, 2, 3, 4, 0] rfl) hc hs
set_option maxRecDepth 100000 in
def f_X9_putIn_2 : Nat → Nat → Int32 → Int32 → Int32 → Mm → Option (Unit × Mm)
  | 0, _, _, _, _, _ => none
  | n + 1, v0, v1, v2, v3, σ =>
    zck (kO σ v0 9) (if (mD σ v0 41) ≤ v3 then (f_X9_putIn_26 v0 v1 v2 v3 σ) else (zrb (mR σ v0 38) (fun b32 => zck (kA σ 1 b32 v3) (if v1 ≤ (mD σ b32 (ix v3)) then (f_X9_putIn_26 v0 v1 v2 v3 σ) else (f_X9_putIn_2 n v0 v1 v2 (v3 + (1 : Int32)) σ)))))
set_option maxRecDepth 100000 in
set_option maxHeartbeats 4000000 in
theorem V_X9_putIn_2 {g : GG} : ∀ (n : Nat) (v0 : Nat) (v1 : Int32) (v2 : Int32) (v3 : Int32) (σ : Mm) (r : Unit) (σ' : Mm), f_X9_putIn_2 n v0 v1 v2 v3 σ = some (r, σ') → VJ g RX9 cX9_putIn 5 none false rm_X9_putIn none σ' (0) (0) 2 [(0, .ref (gB g + v0)), (1, .int v1), (2, .int v2), (3, .int v3)] [] σ := by
  intro n
  induction n with
  | zero =>
    intro v0 v1 v2 v3 σ r σ' hf
    unfold f_X9_putIn_2 at hf
    cases hf
  | succ n ih =>
    intro v0 v1 v2 v3 σ r σ' hf p e s m args below meth c H locs cells slots ls E hR hS hl hc hs
    obtain ⟨hx, hb, hml, hr, hlocks, hown, hts, hin, hT⟩ := id E
    unfold f_X9_putIn_2 at hf
    refine lv_iload_n hx hb dX9_putIn_2 rfl (lv_at hl 3 rfl) ?_
    refine lv_aload_n hx hb dX9_putIn_3 rfl (lv_at hl 0 rfl) ?_
    obtain ⟨hk30, hf⟩ := zc_s hf
    refine x_getI E hR hk30 ok9 41 (Nat.le_of_ble_eq_true rfl) rfl fl_X9_260 dX9_putIn_4 ?_
    refine lv_icmp_ge (tgt := 26) hx hb dX9_putIn_7 (by decide) (fun hq31 => ?_) (fun hq31 => ?_)
    · have hf := ite_p hq31 hf
      exact V_X9_putIn_26  _ _ _ _ _ _ _ hf p e s m args below meth c _ _ _ _ _ E hR hS (lv_sub hl [0, 1, 2, 3] rfl) hc hs
    · have hf := ite_n hq31 hf
      refine lv_aload_n hx hb dX9_putIn_10 rfl (lv_at hl 0 rfl) ?_
      obtain ⟨b32, hb32, hf⟩ := zr_s hf
      refine x_getR E hR hk30 hb32 ok9 (Nat.le_of_ble_eq_true rfl) rfl fl_X9_98 dX9_putIn_11 ?_
      refine lv_iload_n hx hb dX9_putIn_14 rfl (lv_at hl 3 rfl) ?_
      obtain ⟨hk33, hf⟩ := zc_s hf
      refine x_ild E hR hk33 dX9_putIn_15 ?_
      refine lv_iload_n hx hb dX9_putIn_16 rfl (lv_at hl 1 rfl) ?_
      refine lv_icmp_ge (tgt := 26) hx hb dX9_putIn_17 (by decide) (fun hq34 => ?_) (fun hq34 => ?_)
      · have hf := ite_p hq34 hf
        exact V_X9_putIn_26  _ _ _ _ _ _ _ hf p e s m args below meth c _ _ _ _ _ E hR hS (lv_sub hl [0, 1, 2, 3] rfl) hc hs
      · have hf := ite_n hq34 hf
        refine lv_iinc (v := (v3 + (1 : Int32))) (lv' := [(3, .int (v3 + (1 : Int32))), (0, .ref (gB g + v0)), (1, .int v1), (2, .int v2)]) hx hb dX9_putIn_20 hl (k := 3) rfl rfl (Nat.le_of_ble_eq_true rfl) rfl (fun ls hl => ?_)
        refine lv_goto (tgt := 2) hx hb dX9_putIn_23 (by decide) ?_
        exact ih _ _ _ _ _ _ _ hf p e s m args below meth c _ _ _ _ _ E hR hS (lv_sub hl [1, 2, 3, 0] rfl) hc hs
set_option maxRecDepth 100000 in
def f_X9_putIn (v0 : Nat) (v1 : Int32) (v2 : Int32) (σ : Mm) : Option (Unit × Mm) :=
  f_X9_putIn_2 1000 v0 v1 v2 (0 : Int32) σ
set_option maxRecDepth 100000 in
set_option maxHeartbeats 4000000 in
theorem V_X9_putIn_0 {g : GG} (v0 : Nat) (v1 : Int32) (v2 : Int32) (σ : Mm) (r : Unit) (σ' : Mm) (hf : f_X9_putIn v0 v1 v2 σ = some (r, σ')) : VJ g RX9 cX9_putIn 5 none false rm_X9_putIn none σ' (0) (0) 0 [(0, .ref (gB g + v0)), (1, .int v1), (2, .int v2)] [] σ := by
  intro p e s m args below meth c H locs cells slots ls E hR hS hl hc hs
  obtain ⟨hx, hb, hml, hr, hlocks, hown, hts, hin, hT⟩ := id E
  unfold f_X9_putIn at hf
  refine lv_iconst (v := (0 : Int32)) hx hb dX9_putIn_0 rfl ?_
  refine lv_istore_n (lv' := [(3, .int (0 : Int32)), (0, .ref (gB g + v0)), (1, .int v1), (2, .int v2)]) hx hb dX9_putIn_1 rfl hl (Nat.le_of_ble_eq_true rfl) rfl (fun ls hl => ?_)
  exact V_X9_putIn_2  1000 _ _ _ _ _ _ _ hf p e s m args below meth c _ _ _ _ _ E hR hS (lv_sub hl [1, 2, 3, 0] rfl) hc hs
theorem C_X9_putIn {g : GG} {v0 : Nat} {v1 : Int32} {v2 : Int32} {σ : Mm} {r : Unit} {σ' : Mm} (hf : f_X9_putIn v0 v1 v2 σ = some (r, σ')) : Ct g yX9_putIn cX9_putIn 5 none rm_X9_putIn [.ref (gB g + v0), .int v1, .int v2] σ none σ' :=
  Ct.of false (by decide +kernel) (fun h => by cases h) (Nat.le_of_ble_eq_true rfl) (V_X9_putIn_0 _ _ _ _ _ _ hf)
