abbrev rm_X9_uppermostOf : Room := { frames := 2, cells := 0, slots := 0, locals := 43 }
set_option maxRecDepth 100000 in
def f_X9_uppermostOf_43 (k_6 : Nat → Int32 → Int32 → Int32 → Mm → Option (Int32 × Mm)) (v0 : Nat) (v2 : Int32) (v4 : Int32) (w0 : Int32) (σ : Mm) : Option (Int32 × Mm) :=
  k_6 v0 v2 w0 (v4 + (1 : Int32)) σ
set_option maxRecDepth 100000 in
set_option maxHeartbeats 4000000 in
theorem V_X9_uppermostOf_43 {g : GG} (k_6 : Nat → Int32 → Int32 → Int32 → Mm → Option (Int32 × Mm)) (hk_6 : ∀ (v0 : Nat) (v2 : Int32) (v3 : Int32) (v4 : Int32) (σ : Mm) (r : Int32) (σ' : Mm), k_6 v0 v2 v3 v4 σ = some (r, σ') → VJ g RX9 cX9_uppermostOf 5 (some .int) false rm_X9_uppermostOf (some (.int r)) σ' (0) (0) 6 [(0, .ref (gB g + v0)), (2, .int v2), (3, .int v3), (4, .int v4)] [] σ) (v0 : Nat) (v2 : Int32) (v4 : Int32) (w0 : Int32) (σ : Mm) (r : Int32) (σ' : Mm) (hf : f_X9_uppermostOf_43 k_6 v0 v2 v4 w0 σ = some (r, σ')) : VJ g RX9 cX9_uppermostOf 5 (some .int) false rm_X9_uppermostOf (some (.int r)) σ' (0) (0) 43 [(0, .ref (gB g + v0)), (2, .int v2), (4, .int v4)] [.int w0] σ := by
  intro p e s m args below meth c H locs cells slots ls E hR hS hl hc hs
  obtain ⟨hx, hb, hml, hr, hlocks, hown, hts, hin, hT⟩ := id E
  unfold f_X9_uppermostOf_43 at hf
  refine lv_istore_n (lv' := [(3, .int w0), (0, .ref (gB g + v0)), (2, .int v2), (4, .int v4)]) hx hb dX9_uppermostOf_43 rfl hl (Nat.le_of_ble_eq_true rfl) rfl (fun ls hl => ?_)
  refine lv_iinc (v := (v4 + (1 : Int32))) (lv' := [(4, .int (v4 + (1 : Int32))), (3, .int w0), (0, .ref (gB g + v0)), (2, .int v2)]) hx hb dX9_uppermostOf_44 hl (k := 3) rfl rfl (Nat.le_of_ble_eq_true rfl) rfl (fun ls hl => ?_)
  refine lv_goto (tgt := 6) hx hb dX9_uppermostOf_47 (by decide) ?_
  exact hk_6 _ _ _ _ _ _ _ hf p e s m args below meth c _ _ _ _ _ E hR hS (lv_sub hl [2, 3, 1, 0] rfl) hc hs
set_option maxRecDepth 100000 in
def f_X9_uppermostOf_37 (k_6 : Nat → Int32 → Int32 → Int32 → Mm → Option (Int32 × Mm)) (v0 : Nat) (v2 : Int32) (v4 : Int32) (σ : Mm) : Option (Int32 × Mm) :=
  f_X9_uppermostOf_43 k_6 v0 v2 v4 v4 σ
set_option maxRecDepth 100000 in
set_option maxHeartbeats 4000000 in
theorem V_X9_uppermostOf_37 {g : GG} (k_6 : Nat → Int32 → Int32 → Int32 → Mm → Option (Int32 × Mm)) (hk_6 : ∀ (v0 : Nat) (v2 : Int32) (v3 : Int32) (v4 : Int32) (σ : Mm) (r : Int32) (σ' : Mm), k_6 v0 v2 v3 v4 σ = some (r, σ') → VJ g RX9 cX9_uppermostOf 5 (some .int) false rm_X9_uppermostOf (some (.int r)) σ' (0) (0) 6 [(0, .ref (gB g + v0)), (2, .int v2), (3, .int v3), (4, .int v4)] [] σ) (v0 : Nat) (v2 : Int32) (v4 : Int32) (σ : Mm) (r : Int32) (σ' : Mm) (hf : f_X9_uppermostOf_37 k_6 v0 v2 v4 σ = some (r, σ')) : VJ g RX9 cX9_uppermostOf 5 (some .int) false rm_X9_uppermostOf (some (.int r)) σ' (0) (0) 37 [(0, .ref (gB g + v0)), (2, .int v2), (4, .int v4)] [] σ := by
  intro p e s m args below meth c H locs cells slots ls E hR hS hl hc hs
  obtain ⟨hx, hb, hml, hr, hlocks, hown, hts, hin, hT⟩ := id E
  unfold f_X9_uppermostOf_37 at hf
  refine lv_iload hx hb dX9_uppermostOf_37 (lv_at hl 2 rfl) ?_
  refine lv_goto (tgt := 43) hx hb dX9_uppermostOf_39 (by decide) ?_
  exact V_X9_uppermostOf_43 _ hk_6 _ _ _ _ _ _ _ hf p e s m args below meth c _ _ _ _ _ E hR hS (lv_sub hl [0, 1, 2] rfl) hc hs
set_option maxRecDepth 100000 in
def f_X9_uppermostOf_6 : Nat → Nat → Int32 → Int32 → Int32 → Mm → Option (Int32 × Mm)
  | 0, _, _, _, _, _ => none
  | n + 1, v0, v2, v3, v4, σ =>
    if v2 < v4 then (some (v3, σ)) else (if v3 = (-9 : Int32) then (f_X9_uppermostOf_37 (f_X9_uppermostOf_6 n) v0 v2 v4 σ) else (zck (kO σ v0 9) (zrb (mR σ v0 38) (fun b4 => zck (kA σ 1 b4 v4) (zck (kA σ 1 b4 v3) (zcb (f_X9_isAbove (mD σ b4 (ix v4)) (mD σ b4 (ix v3)) σ) (fun r7 σ8 => if r7 = 0 then (f_X9_uppermostOf_43 (f_X9_uppermostOf_6 n) v0 v2 v4 v3 σ8) else (f_X9_uppermostOf_37 (f_X9_uppermostOf_6 n) v0 v2 v4 σ8))))))))
set_option maxRecDepth 100000 in
set_option maxHeartbeats 4000000 in
theorem V_X9_uppermostOf_6 {g : GG} : ∀ (n : Nat) (v0 : Nat) (v2 : Int32) (v3 : Int32) (v4 : Int32) (σ : Mm) (r : Int32) (σ' : Mm), f_X9_uppermostOf_6 n v0 v2 v3 v4 σ = some (r, σ') → VJ g RX9 cX9_uppermostOf 5 (some .int) false rm_X9_uppermostOf (some (.int r)) σ' (0) (0) 6 [(0, .ref (gB g + v0)), (2, .int v2), (3, .int v3), (4, .int v4)] [] σ := by
  intro n
  induction n with
  | zero =>
    intro v0 v2 v3 v4 σ r σ' hf
    unfold f_X9_uppermostOf_6 at hf
    cases hf
  | succ n ih =>
    intro v0 v2 v3 v4 σ r σ' hf p e s m args below meth c H locs cells slots ls E hR hS hl hc hs
    obtain ⟨hx, hb, hml, hr, hlocks, hown, hts, hin, hT⟩ := id E
    unfold f_X9_uppermostOf_6 at hf
    refine lv_iload hx hb dX9_uppermostOf_6 (lv_at hl 3 rfl) ?_
    refine lv_iload_n hx hb dX9_uppermostOf_8 rfl (lv_at hl 1 rfl) ?_
    refine lv_icmp_gt (tgt := 50) hx hb dX9_uppermostOf_9 (by decide) (fun hq1 => ?_) (fun hq1 => ?_)
    · have hf := ite_p hq1 hf
      refine lv_iload_n hx hb dX9_uppermostOf_50 rfl (lv_at hl 2 rfl) ?_
      obtain ⟨hr1, hs1⟩ := Prod.mk.inj (Option.some.inj hf)
      exact xr_i E hR hS rfl (by rw [hr1]) hs1.symm hc hs dX9_uppermostOf_51
    · have hf := ite_n hq1 hf
      refine lv_iload_n hx hb dX9_uppermostOf_12 rfl (lv_at hl 2 rfl) ?_
      refine lv_bipush (v := (-9 : Int32)) hx hb dX9_uppermostOf_13 rfl ?_
      refine lv_icmp_eq (tgt := 37) hx hb dX9_uppermostOf_15 (by decide) (fun hq2 => ?_) (fun hq2 => ?_)
      · have hf := ite_p hq2 hf
        exact V_X9_uppermostOf_37 _ ih _ _ _ _ _ _ hf p e s m args below meth c _ _ _ _ _ E hR hS (lv_sub hl [0, 1, 3] rfl) hc hs
      · have hf := ite_n hq2 hf
        refine lv_aload_n hx hb dX9_uppermostOf_18 rfl (lv_at hl 0 rfl) ?_
        obtain ⟨hk3, hf⟩ := zc_s hf
        obtain ⟨b4, hb4, hf⟩ := zr_s hf
        refine x_getR E hR hk3 hb4 ok9 (Nat.le_of_ble_eq_true rfl) rfl fl_X9_98 dX9_uppermostOf_19 ?_
        refine lv_iload hx hb dX9_uppermostOf_22 (lv_at hl 3 rfl) ?_
        obtain ⟨hk5, hf⟩ := zc_s hf
        refine x_ild E hR hk5 dX9_uppermostOf_24 ?_
        refine lv_aload_n hx hb dX9_uppermostOf_25 rfl (lv_at hl 0 rfl) ?_
        refine x_getR E hR hk3 hb4 ok9 (Nat.le_of_ble_eq_true rfl) rfl fl_X9_98 dX9_uppermostOf_26 ?_
        refine lv_iload_n hx hb dX9_uppermostOf_29 rfl (lv_at hl 2 rfl) ?_
        obtain ⟨hk6, hf⟩ := zc_s hf
        refine x_ild E hR hk6 dX9_uppermostOf_30 ?_
        obtain ⟨r7, σ8, hcr7, hf⟩ := zq_s hf
        refine xS (As := [.int (mD σ b4 (ix v4)), .int (mD σ b4 (ix v3))]) (rest := []) (st1 := [.int r7]) E hR hS hl (C_X9_isAbove hcr7) lb_X9_isAbove ls_X9_isAbove ml_X9_149 ⟨Nat.le_of_ble_eq_true rfl, Nat.le_of_ble_eq_true rfl⟩ rfl rfl rfl (Nat.le_of_ble_eq_true rfl) dX9_uppermostOf_31 ⟨hc, hs⟩ (fun H locs hR hS => ?_)
        refine lv_if_eq (tgt := 42) hx hb dX9_uppermostOf_34 (by decide) (fun hq9 => ?_) (fun hq9 => ?_)
        · have hf := ite_p hq9 hf
          refine lv_iload_n hx hb dX9_uppermostOf_42 rfl (lv_at hl 2 rfl) ?_
          exact V_X9_uppermostOf_43 _ ih _ _ _ _ _ _ _ hf p e s m args below meth c _ _ _ _ _ E hR hS (lv_sub hl [0, 1, 3] rfl) hc hs
        · have hf := ite_n hq9 hf
          exact V_X9_uppermostOf_37 _ ih _ _ _ _ _ _ hf p e s m args below meth c _ _ _ _ _ E hR hS (lv_sub hl [0, 1, 3] rfl) hc hs
set_option maxRecDepth 100000 in
def f_X9_uppermostOf (v0 : Nat) (v1 : Int32) (v2 : Int32) (σ : Mm) : Option (Int32 × Mm) :=
  f_X9_uppermostOf_6 1000 v0 v2 (-9 : Int32) v1 σ
set_option maxRecDepth 100000 in
set_option maxHeartbeats 4000000 in
theorem V_X9_uppermostOf_0 {g : GG} (v0 : Nat) (v1 : Int32) (v2 : Int32) (σ : Mm) (r : Int32) (σ' : Mm) (hf : f_X9_uppermostOf v0 v1 v2 σ = some (r, σ')) : VJ g RX9 cX9_uppermostOf 5 (some .int) false rm_X9_uppermostOf (some (.int r)) σ' (0) (0) 0 [(0, .ref (gB g + v0)), (1, .int v1), (2, .int v2)] [] σ := by
  intro p e s m args below meth c H locs cells slots ls E hR hS hl hc hs
  obtain ⟨hx, hb, hml, hr, hlocks, hown, hts, hin, hT⟩ := id E
  unfold f_X9_uppermostOf at hf
  refine lv_bipush (v := (-9 : Int32)) hx hb dX9_uppermostOf_0 rfl ?_
  refine lv_istore_n (lv' := [(3, .int (-9 : Int32)), (0, .ref (gB g + v0)), (1, .int v1), (2, .int v2)]) hx hb dX9_uppermostOf_2 rfl hl (Nat.le_of_ble_eq_true rfl) rfl (fun ls hl => ?_)
  refine lv_iload_n hx hb dX9_uppermostOf_3 rfl (lv_at hl 2 rfl) ?_
  refine lv_istore (lv' := [(4, .int v1), (3, .int (-9 : Int32)), (0, .ref (gB g + v0)), (1, .int v1), (2, .int v2)]) hx hb dX9_uppermostOf_4 hl (Nat.le_of_ble_eq_true rfl) rfl (fun ls hl => ?_)
  exact V_X9_uppermostOf_6  1000 _ _ _ _ _ _ _ hf p e s m args below meth c _ _ _ _ _ E hR hS (lv_sub hl [2, 4, 1, 0] rfl) hc hs
theorem C_X9_uppermostOf {g : GG} {v0 : Nat} {v1 : Int32} {v2 : Int32} {σ : Mm} {r : Int32} {σ' : Mm} (hf : f_X9_uppermostOf v0 v1 v2 σ = some (r, σ')) : Ct g yX9_uppermostOf cX9_uppermostOf 5 (some .int) rm_X9_uppermostOf [.ref (gB g + v0), .int v1, .int v2] σ (some (.int r)) σ' :=
  Ct.of false (by decide +kernel) (fun h => by cases h) (Nat.le_of_ble_eq_true rfl) (V_X9_uppermostOf_0 _ _ _ _ _ _ hf)
abbrev rm_X9_hanging : Room := { frames := 0, cells := 0, slots := 0, locals := 0 }
set_option maxRecDepth 100000 in
def f_X9_hanging (v0 : Nat) (v1 : Int32) (σ : Mm) : Option (Int32 × Mm) :=
  if v1 < 0 then (zck (kO σ v0 9) (zrb (mR σ v0 40) (fun b3 => zck (kA σ 1 b3 ((-1000 : Int32) - v1)) (some ((mD σ b3 (ix ((-1000 : Int32) - v1))), σ))))) else (zck (kO σ v0 9) (zrb (mR σ v0 45) (fun b6 => zck (kA σ 1 b6 v1) (some ((mD σ b6 (ix v1)), σ)))))
set_option maxRecDepth 100000 in
set_option maxHeartbeats 4000000 in
theorem V_X9_hanging_0 {g : GG} (v0 : Nat) (v1 : Int32) (σ : Mm) (r : Int32) (σ' : Mm) (hf : f_X9_hanging v0 v1 σ = some (r, σ')) : VJ g RX9 cX9_hanging 2 (some .int) false rm_X9_hanging (some (.int r)) σ' (0) (0) 0 [(0, .ref (gB g + v0)), (1, .int v1)] [] σ := by
  intro p e s m args below meth c H locs cells slots ls E hR hS hl hc hs
  obtain ⟨hx, hb, hml, hr, hlocks, hown, hts, hin, hT⟩ := id E
  unfold f_X9_hanging at hf
  refine lv_iload_n hx hb dX9_hanging_0 rfl (lv_at hl 1 rfl) ?_
  refine lv_if_lt (tgt := 13) hx hb dX9_hanging_1 (by decide) (fun hq1 => ?_) (fun hq1 => ?_)
  · have hf := ite_p hq1 hf
    refine lv_aload_n hx hb dX9_hanging_13 rfl (lv_at hl 0 rfl) ?_
    obtain ⟨hk2, hf⟩ := zc_s hf
    obtain ⟨b3, hb3, hf⟩ := zr_s hf
    refine x_getR E hR hk2 hb3 ok9 (Nat.le_of_ble_eq_true rfl) rfl fl_X9_104 dX9_hanging_14 ?_
    refine lv_sipush (v := (-1000 : Int32)) hx hb dX9_hanging_17 rfl ?_
    refine lv_iload_n hx hb dX9_hanging_20 rfl (lv_at hl 1 rfl) ?_
    refine lv_isub hx hb dX9_hanging_21 ?_
    obtain ⟨hk4, hf⟩ := zc_s hf
    refine x_ild E hR hk4 dX9_hanging_22 ?_
    obtain ⟨hr1, hs1⟩ := Prod.mk.inj (Option.some.inj hf)
    exact xr_i E hR hS rfl (by rw [hr1]) hs1.symm hc hs dX9_hanging_23
  · have hf := ite_n hq1 hf
    refine lv_aload_n hx hb dX9_hanging_4 rfl (lv_at hl 0 rfl) ?_
    obtain ⟨hk5, hf⟩ := zc_s hf
    obtain ⟨b6, hb6, hf⟩ := zr_s hf
    refine x_getR E hR hk5 hb6 ok9 (Nat.le_of_ble_eq_true rfl) rfl fl_X9_116 dX9_hanging_5 ?_
    refine lv_iload_n hx hb dX9_hanging_8 rfl (lv_at hl 1 rfl) ?_
    obtain ⟨hk7, hf⟩ := zc_s hf
    refine x_ild E hR hk7 dX9_hanging_9 ?_
    refine lv_goto (tgt := 23) hx hb dX9_hanging_10 (by decide) ?_
    obtain ⟨hr1, hs1⟩ := Prod.mk.inj (Option.some.inj hf)
    exact xr_i E hR hS rfl (by rw [hr1]) hs1.symm hc hs dX9_hanging_23
theorem C_X9_hanging {g : GG} {v0 : Nat} {v1 : Int32} {σ : Mm} {r : Int32} {σ' : Mm} (hf : f_X9_hanging v0 v1 σ = some (r, σ')) : Ct g yX9_hanging cX9_hanging 2 (some .int) rm_X9_hanging [.ref (gB g + v0), .int v1] σ (some (.int r)) σ' :=
  Ct.of false (by decide +kernel) (fun h => by cases h) (Nat.le_of_ble_eq_true rfl) (V_X9_hanging_0 _ _ _ _ _ hf)
abbrev rm_X9_rowDigest : Room := { frames := 3, cells := 0, slots := 0, locals := 67 }
set_option maxRecDepth 100000 in
def f_X9_rowDigest_191 (k_21 : Nat → Int32 → Mm → Option (Int32 × Mm)) (v0 : Nat) (v1 : Int32) (σ : Mm) : Option (Int32 × Mm) :=
  k_21 v0 v1 σ
set_option maxRecDepth 100000 in
set_option maxHeartbeats 4000000 in
theorem V_X9_rowDigest_191 {g : GG} (k_21 : Nat → Int32 → Mm → Option (Int32 × Mm)) (hk_21 : ∀ (v0 : Nat) (v1 : Int32) (σ : Mm) (r : Int32) (σ' : Mm), k_21 v0 v1 σ = some (r, σ') → VJ g RX9 cX9_rowDigest 8 (some .int) false rm_X9_rowDigest (some (.int r)) σ' (0) (0) 21 [(0, .ref (gB g + v0)), (1, .int v1)] [] σ) (v0 : Nat) (v1 : Int32) (σ : Mm) (r : Int32) (σ' : Mm) (hf : f_X9_rowDigest_191 k_21 v0 v1 σ = some (r, σ')) : VJ g RX9 cX9_rowDigest 8 (some .int) false rm_X9_rowDigest (some (.int r)) σ' (0) (0) 191 [(0, .ref (gB g + v0)), (1, .int v1)] [] σ := by
  intro p e s m args below meth c H locs cells slots ls E hR hS hl hc hs
  obtain ⟨hx, hb, hml, hr, hlocks, hown, hts, hin, hT⟩ := id E
  unfold f_X9_rowDigest_191 at hf
  refine lv_goto (tgt := 21) hx hb dX9_rowDigest_191 (by decide) ?_
  exact hk_21 _ _ _ _ _ hf p e s m args below meth c _ _ _ _ _ E hR hS (lv_sub hl [0, 1] rfl) hc hs
set_option maxRecDepth 100000 in
def f_X9_rowDigest_169 (k_21 : Nat → Int32 → Mm → Option (Int32 × Mm)) (v0 : Nat) (v1 : Int32) (v4 : Int32) (v5 : Int32) (v7 : Int32) (σ : Mm) : Option (Int32 × Mm) :=
  if v4 = (-9 : Int32) then (f_X9_rowDigest_191 k_21 v0 v1 σ) else (if v5 = (1 : Int32) then (zck (kO σ v0 9) (zrb (mR σ v0 44) (fun b4 => zck (kA σ 1 b4 v4) (zlt (sD σ b4 (ix v4) v7) (fun σ6 => f_X9_rowDigest_191 k_21 v0 v1 σ6))))) else (f_X9_rowDigest_191 k_21 v0 v1 σ))
set_option maxRecDepth 100000 in
set_option maxHeartbeats 4000000 in
theorem V_X9_rowDigest_169 {g : GG} (k_21 : Nat → Int32 → Mm → Option (Int32 × Mm)) (hk_21 : ∀ (v0 : Nat) (v1 : Int32) (σ : Mm) (r : Int32) (σ' : Mm), k_21 v0 v1 σ = some (r, σ') → VJ g RX9 cX9_rowDigest 8 (some .int) false rm_X9_rowDigest (some (.int r)) σ' (0) (0) 21 [(0, .ref (gB g + v0)), (1, .int v1)] [] σ) (v0 : Nat) (v1 : Int32) (v4 : Int32) (v5 : Int32) (v7 : Int32) (σ : Mm) (r : Int32) (σ' : Mm) (hf : f_X9_rowDigest_169 k_21 v0 v1 v4 v5 v7 σ = some (r, σ')) : VJ g RX9 cX9_rowDigest 8 (some .int) false rm_X9_rowDigest (some (.int r)) σ' (0) (0) 169 [(0, .ref (gB g + v0)), (1, .int v1), (4, .int v4), (5, .int v5), (7, .int v7)] [] σ := by
  intro p e s m args below meth c H locs cells slots ls E hR hS hl hc hs
  obtain ⟨hx, hb, hml, hr, hlocks, hown, hts, hin, hT⟩ := id E
  unfold f_X9_rowDigest_169 at hf
  refine lv_iload hx hb dX9_rowDigest_169 (lv_at hl 2 rfl) ?_
  refine lv_bipush (v := (-9 : Int32)) hx hb dX9_rowDigest_171 rfl ?_
  refine lv_icmp_eq (tgt := 191) hx hb dX9_rowDigest_173 (by decide) (fun hq1 => ?_) (fun hq1 => ?_)
  · have hf := ite_p hq1 hf
    exact V_X9_rowDigest_191 _ hk_21 _ _ _ _ _ hf p e s m args below meth c _ _ _ _ _ E hR hS (lv_sub hl [0, 1] rfl) hc hs
  · have hf := ite_n hq1 hf
    refine lv_iload hx hb dX9_rowDigest_176 (lv_at hl 3 rfl) ?_
    refine lv_iconst (v := (1 : Int32)) hx hb dX9_rowDigest_178 rfl ?_
    refine lv_icmp_ne (tgt := 191) hx hb dX9_rowDigest_179 (by decide) (fun hq2 => ?_) (fun hq2 => ?_)
    · have hf := ite_n hq2 hf
      exact V_X9_rowDigest_191 _ hk_21 _ _ _ _ _ hf p e s m args below meth c _ _ _ _ _ E hR hS (lv_sub hl [0, 1] rfl) hc hs
    · have hf := ite_p hq2 hf
      refine lv_aload_n hx hb dX9_rowDigest_182 rfl (lv_at hl 0 rfl) ?_
      obtain ⟨hk3, hf⟩ := zc_s hf
      obtain ⟨b4, hb4, hf⟩ := zr_s hf
      refine x_getR E hR hk3 hb4 ok9 (Nat.le_of_ble_eq_true rfl) rfl fl_X9_113 dX9_rowDigest_183 ?_
      refine lv_iload hx hb dX9_rowDigest_186 (lv_at hl 2 rfl) ?_
      refine lv_iload hx hb dX9_rowDigest_188 (lv_at hl 4 rfl) ?_
      obtain ⟨hk5, hf⟩ := zc_s hf
      obtain ⟨σ6, eσ6, hf⟩ := zl_s hf
      refine x_ist E hR hS hk5 dX9_rowDigest_190 (fun H locs hR hS => ?_)
      rw [← eσ6] at hR
      exact V_X9_rowDigest_191 _ hk_21 _ _ _ _ _ hf p e s m args below meth c _ _ _ _ _ E hR hS (lv_sub hl [0, 1] rfl) hc hs
set_option maxRecDepth 100000 in
def f_X9_rowDigest_146 (k_21 : Nat → Int32 → Mm → Option (Int32 × Mm)) (v0 : Nat) (v1 : Int32) (v4 : Int32) (v5 : Int32) (w0 : Int32) (σ : Mm) : Option (Int32 × Mm) :=
  if v4 = (-9 : Int32) then (f_X9_rowDigest_169 k_21 v0 v1 v4 v5 w0 σ) else (if v5 = 0 then (zck (kO σ v0 9) (zrb (mR σ v0 43) (fun b10 => zck (kA σ 1 b10 v4) (zlt (sD σ b10 (ix v4) w0) (fun σ12 => f_X9_rowDigest_169 k_21 v0 v1 v4 v5 w0 σ12))))) else (f_X9_rowDigest_169 k_21 v0 v1 v4 v5 w0 σ))
set_option maxRecDepth 100000 in
set_option maxHeartbeats 4000000 in
theorem V_X9_rowDigest_146 {g : GG} (k_21 : Nat → Int32 → Mm → Option (Int32 × Mm)) (hk_21 : ∀ (v0 : Nat) (v1 : Int32) (σ : Mm) (r : Int32) (σ' : Mm), k_21 v0 v1 σ = some (r, σ') → VJ g RX9 cX9_rowDigest 8 (some .int) false rm_X9_rowDigest (some (.int r)) σ' (0) (0) 21 [(0, .ref (gB g + v0)), (1, .int v1)] [] σ) (v0 : Nat) (v1 : Int32) (v4 : Int32) (v5 : Int32) (w0 : Int32) (σ : Mm) (r : Int32) (σ' : Mm) (hf : f_X9_rowDigest_146 k_21 v0 v1 v4 v5 w0 σ = some (r, σ')) : VJ g RX9 cX9_rowDigest 8 (some .int) false rm_X9_rowDigest (some (.int r)) σ' (0) (0) 146 [(0, .ref (gB g + v0)), (1, .int v1), (4, .int v4), (5, .int v5)] [.int w0] σ := by
  intro p e s m args below meth c H locs cells slots ls E hR hS hl hc hs
  obtain ⟨hx, hb, hml, hr, hlocks, hown, hts, hin, hT⟩ := id E
  unfold f_X9_rowDigest_146 at hf
  refine lv_istore (lv' := [(7, .int w0), (0, .ref (gB g + v0)), (1, .int v1), (4, .int v4), (5, .int v5)]) hx hb dX9_rowDigest_146 hl (Nat.le_of_ble_eq_true rfl) rfl (fun ls hl => ?_)
  refine lv_iload hx hb dX9_rowDigest_148 (lv_at hl 3 rfl) ?_
  refine lv_bipush (v := (-9 : Int32)) hx hb dX9_rowDigest_150 rfl ?_
  refine lv_icmp_eq (tgt := 169) hx hb dX9_rowDigest_152 (by decide) (fun hq7 => ?_) (fun hq7 => ?_)
  · have hf := ite_p hq7 hf
    exact V_X9_rowDigest_169 _ hk_21 _ _ _ _ _ _ _ _ hf p e s m args below meth c _ _ _ _ _ E hR hS (lv_sub hl [1, 2, 3, 4, 0] rfl) hc hs
  · have hf := ite_n hq7 hf
    refine lv_iload hx hb dX9_rowDigest_155 (lv_at hl 4 rfl) ?_
    refine lv_if_ne (tgt := 169) hx hb dX9_rowDigest_157 (by decide) (fun hq8 => ?_) (fun hq8 => ?_)
    · have hf := ite_n hq8 hf
      exact V_X9_rowDigest_169 _ hk_21 _ _ _ _ _ _ _ _ hf p e s m args below meth c _ _ _ _ _ E hR hS (lv_sub hl [1, 2, 3, 4, 0] rfl) hc hs
    · have hf := ite_p hq8 hf
      refine lv_aload_n hx hb dX9_rowDigest_160 rfl (lv_at hl 1 rfl) ?_
      obtain ⟨hk9, hf⟩ := zc_s hf
      obtain ⟨b10, hb10, hf⟩ := zr_s hf
      refine x_getR E hR hk9 hb10 ok9 (Nat.le_of_ble_eq_true rfl) rfl fl_X9_110 dX9_rowDigest_161 ?_
      refine lv_iload hx hb dX9_rowDigest_164 (lv_at hl 3 rfl) ?_
      refine lv_iload hx hb dX9_rowDigest_166 (lv_at hl 0 rfl) ?_
      obtain ⟨hk11, hf⟩ := zc_s hf
      obtain ⟨σ12, eσ12, hf⟩ := zl_s hf
      refine x_ist E hR hS hk11 dX9_rowDigest_168 (fun H locs hR hS => ?_)
      rw [← eσ12] at hR
      exact V_X9_rowDigest_169 _ hk_21 _ _ _ _ _ _ _ _ hf p e s m args below meth c _ _ _ _ _ E hR hS (lv_sub hl [1, 2, 3, 4, 0] rfl) hc hs
set_option maxRecDepth 100000 in
def f_X9_rowDigest_128 (k_21 : Nat → Int32 → Mm → Option (Int32 × Mm)) (v0 : Nat) (v1 : Int32) (v2 : Int32) (v4 : Int32) (v5 : Int32) (v6 : Int32) (σ : Mm) : Option (Int32 × Mm) :=
  if v6 = (-9 : Int32) then (f_X9_rowDigest_146 k_21 v0 v1 v4 v5 ((-1000 : Int32) - v2) σ) else (f_X9_rowDigest_146 k_21 v0 v1 v4 v5 (v1 - (1 : Int32)) σ)
set_option maxRecDepth 100000 in
set_option maxHeartbeats 4000000 in
theorem V_X9_rowDigest_128 {g : GG} (k_21 : Nat → Int32 → Mm → Option (Int32 × Mm)) (hk_21 : ∀ (v0 : Nat) (v1 : Int32) (σ : Mm) (r : Int32) (σ' : Mm), k_21 v0 v1 σ = some (r, σ') → VJ g RX9 cX9_rowDigest 8 (some .int) false rm_X9_rowDigest (some (.int r)) σ' (0) (0) 21 [(0, .ref (gB g + v0)), (1, .int v1)] [] σ) (v0 : Nat) (v1 : Int32) (v2 : Int32) (v4 : Int32) (v5 : Int32) (v6 : Int32) (σ : Mm) (r : Int32) (σ' : Mm) (hf : f_X9_rowDigest_128 k_21 v0 v1 v2 v4 v5 v6 σ = some (r, σ')) : VJ g RX9 cX9_rowDigest 8 (some .int) false rm_X9_rowDigest (some (.int r)) σ' (0) (0) 128 [(0, .ref (gB g + v0)), (1, .int v1), (2, .int v2), (4, .int v4), (5, .int v5), (6, .int v6)] [] σ := by
  intro p e s m args below meth c H locs cells slots ls E hR hS hl hc hs
  obtain ⟨hx, hb, hml, hr, hlocks, hown, hts, hin, hT⟩ := id E
  unfold f_X9_rowDigest_128 at hf
  refine lv_iload hx hb dX9_rowDigest_128 (lv_at hl 5 rfl) ?_
  refine lv_bipush (v := (-9 : Int32)) hx hb dX9_rowDigest_130 rfl ?_
  refine lv_icmp_ne (tgt := 143) hx hb dX9_rowDigest_132 (by decide) (fun hq13 => ?_) (fun hq13 => ?_)
  · have hf := ite_n hq13 hf
    refine lv_iload_n hx hb dX9_rowDigest_143 rfl (lv_at hl 1 rfl) ?_
    refine lv_iconst (v := (1 : Int32)) hx hb dX9_rowDigest_144 rfl ?_
    refine lv_isub hx hb dX9_rowDigest_145 ?_
    exact V_X9_rowDigest_146 _ hk_21 _ _ _ _ _ _ _ _ hf p e s m args below meth c _ _ _ _ _ E hR hS (lv_sub hl [0, 1, 3, 4] rfl) hc hs
  · have hf := ite_p hq13 hf
    refine lv_sipush (v := (-1000 : Int32)) hx hb dX9_rowDigest_135 rfl ?_
    refine lv_iload_n hx hb dX9_rowDigest_138 rfl (lv_at hl 2 rfl) ?_
    refine lv_isub hx hb dX9_rowDigest_139 ?_
    refine lv_goto (tgt := 146) hx hb dX9_rowDigest_140 (by decide) ?_
    exact V_X9_rowDigest_146 _ hk_21 _ _ _ _ _ _ _ _ hf p e s m args below meth c _ _ _ _ _ E hR hS (lv_sub hl [0, 1, 3, 4] rfl) hc hs
set_option maxRecDepth 100000 in
def f_X9_rowDigest_198 : Nat → Nat → Int32 → Int32 → Mm → Option (Int32 × Mm)
  | 0, _, _, _, _ => none
  | n + 1, v0, v1, v2, σ =>
    if v2 < 0 then (if v1 = 0 then (zck (kO σ v0 9) (zrb (mR σ v0 40) (fun b20 => zck (kA σ 1 b20 (0 : Int32)) (some ((mD σ b20 (ix (0 : Int32))), σ))))) else (zck (kO σ v0 9) (zrb (mR σ v0 45) (fun b17 => zck (kA σ 1 b17 (0 : Int32)) (some ((mD σ b17 (ix (0 : Int32))), σ)))))) else (zck (kO σ v0 9) (zrb (mR σ v0 45) (fun b23 => zrb (mR σ v0 38) (fun b24 => zrb (mR σ v0 42) (fun b25 => zck (kA σ 1 b25 v2) (zck (kA σ 1 b24 (mD σ b25 (ix v2))) (zrb (mR σ v0 39) (fun b28 => zck (kA σ 1 b25 v2) (zck (kA σ 1 b28 (mD σ b25 (ix v2))) (zrb (mR σ v0 43) (fun b31 => zck (kA σ 1 b31 v2) (zcb (f_X9_hanging v0 (mD σ b31 (ix v2)) σ) (fun r33 σ34 => zck (kO σ34 v0 9) (zrb (mR σ34 v0 44) (fun b36 => zck (kA σ34 1 b36 v2) (zcb (f_X9_hanging v0 (mD σ34 b36 (ix v2)) σ34) (fun r38 σ39 => zcb (f_X9_digestOf (mD σ b24 (ix (mD σ b25 (ix v2)))) (mD σ b28 (ix (mD σ b25 (ix v2)))) r33 r38 σ39) (fun r40 σ41 => zck (kA σ41 1 b23 v2) (zlt (sD σ41 b23 (ix v2) r40) (fun σ43 => f_X9_rowDigest_198 n v0 v1 (v2 + (-1 : Int32)) σ43))))))))))))))))))))
set_option maxRecDepth 100000 in
set_option maxHeartbeats 4000000 in
theorem V_X9_rowDigest_198 {g : GG} : ∀ (n : Nat) (v0 : Nat) (v1 : Int32) (v2 : Int32) (σ : Mm) (r : Int32) (σ' : Mm), f_X9_rowDigest_198 n v0 v1 v2 σ = some (r, σ') → VJ g RX9 cX9_rowDigest 8 (some .int) false rm_X9_rowDigest (some (.int r)) σ' (0) (0) 198 [(0, .ref (gB g + v0)), (1, .int v1), (2, .int v2)] [] σ := by
  intro n
  induction n with
  | zero =>
    intro v0 v1 v2 σ r σ' hf
    unfold f_X9_rowDigest_198 at hf
    cases hf
  | succ n ih =>
    intro v0 v1 v2 σ r σ' hf p e s m args below meth c H locs cells slots ls E hR hS hl hc hs
    obtain ⟨hx, hb, hml, hr, hlocks, hown, hts, hin, hT⟩ := id E
    unfold f_X9_rowDigest_198 at hf
    refine lv_iload_n hx hb dX9_rowDigest_198 rfl (lv_at hl 2 rfl) ?_
    refine lv_if_lt (tgt := 259) hx hb dX9_rowDigest_199 (by decide) (fun hq14 => ?_) (fun hq14 => ?_)
    · have hf := ite_p hq14 hf
      refine lv_iload_n hx hb dX9_rowDigest_259 rfl (lv_at hl 1 rfl) ?_
      refine lv_if_ne (tgt := 272) hx hb dX9_rowDigest_260 (by decide) (fun hq15 => ?_) (fun hq15 => ?_)
      · have hf := ite_n hq15 hf
        refine lv_aload_n hx hb dX9_rowDigest_272 rfl (lv_at hl 0 rfl) ?_
        obtain ⟨hk16, hf⟩ := zc_s hf
        obtain ⟨b17, hb17, hf⟩ := zr_s hf
        refine x_getR E hR hk16 hb17 ok9 (Nat.le_of_ble_eq_true rfl) rfl fl_X9_116 dX9_rowDigest_273 ?_
        refine lv_iconst (v := (0 : Int32)) hx hb dX9_rowDigest_276 rfl ?_
        obtain ⟨hk18, hf⟩ := zc_s hf
        refine x_ild E hR hk18 dX9_rowDigest_277 ?_
        obtain ⟨hr1, hs1⟩ := Prod.mk.inj (Option.some.inj hf)
        exact xr_i E hR hS rfl (by rw [hr1]) hs1.symm hc hs dX9_rowDigest_278
      · have hf := ite_p hq15 hf
        refine lv_aload_n hx hb dX9_rowDigest_263 rfl (lv_at hl 0 rfl) ?_
        obtain ⟨hk19, hf⟩ := zc_s hf
        obtain ⟨b20, hb20, hf⟩ := zr_s hf
        refine x_getR E hR hk19 hb20 ok9 (Nat.le_of_ble_eq_true rfl) rfl fl_X9_104 dX9_rowDigest_264 ?_
        refine lv_iconst (v := (0 : Int32)) hx hb dX9_rowDigest_267 rfl ?_
        obtain ⟨hk21, hf⟩ := zc_s hf
        refine x_ild E hR hk21 dX9_rowDigest_268 ?_
        refine lv_goto (tgt := 278) hx hb dX9_rowDigest_269 (by decide) ?_
        obtain ⟨hr1, hs1⟩ := Prod.mk.inj (Option.some.inj hf)
        exact xr_i E hR hS rfl (by rw [hr1]) hs1.symm hc hs dX9_rowDigest_278
    · have hf := ite_n hq14 hf
      refine lv_aload_n hx hb dX9_rowDigest_202 rfl (lv_at hl 0 rfl) ?_
      obtain ⟨hk22, hf⟩ := zc_s hf
      obtain ⟨b23, hb23, hf⟩ := zr_s hf
      refine x_getR E hR hk22 hb23 ok9 (Nat.le_of_ble_eq_true rfl) rfl fl_X9_116 dX9_rowDigest_203 ?_
      refine lv_iload_n hx hb dX9_rowDigest_206 rfl (lv_at hl 2 rfl) ?_
      refine lv_aload_n hx hb dX9_rowDigest_207 rfl (lv_at hl 0 rfl) ?_
      obtain ⟨b24, hb24, hf⟩ := zr_s hf
      refine x_getR E hR hk22 hb24 ok9 (Nat.le_of_ble_eq_true rfl) rfl fl_X9_98 dX9_rowDigest_208 ?_
      refine lv_aload_n hx hb dX9_rowDigest_211 rfl (lv_at hl 0 rfl) ?_
      obtain ⟨b25, hb25, hf⟩ := zr_s hf
      refine x_getR E hR hk22 hb25 ok9 (Nat.le_of_ble_eq_true rfl) rfl fl_X9_107 dX9_rowDigest_212 ?_
      refine lv_iload_n hx hb dX9_rowDigest_215 rfl (lv_at hl 2 rfl) ?_
      obtain ⟨hk26, hf⟩ := zc_s hf
      refine x_ild E hR hk26 dX9_rowDigest_216 ?_
      obtain ⟨hk27, hf⟩ := zc_s hf
      refine x_ild E hR hk27 dX9_rowDigest_217 ?_
      refine lv_aload_n hx hb dX9_rowDigest_218 rfl (lv_at hl 0 rfl) ?_
      obtain ⟨b28, hb28, hf⟩ := zr_s hf
      refine x_getR E hR hk22 hb28 ok9 (Nat.le_of_ble_eq_true rfl) rfl fl_X9_101 dX9_rowDigest_219 ?_
      refine lv_aload_n hx hb dX9_rowDigest_222 rfl (lv_at hl 0 rfl) ?_
      refine x_getR E hR hk22 hb25 ok9 (Nat.le_of_ble_eq_true rfl) rfl fl_X9_107 dX9_rowDigest_223 ?_
      refine lv_iload_n hx hb dX9_rowDigest_226 rfl (lv_at hl 2 rfl) ?_
      obtain ⟨hk29, hf⟩ := zc_s hf
      refine x_ild E hR hk29 dX9_rowDigest_227 ?_
      obtain ⟨hk30, hf⟩ := zc_s hf
      refine x_ild E hR hk30 dX9_rowDigest_228 ?_
      refine lv_aload_n hx hb dX9_rowDigest_229 rfl (lv_at hl 0 rfl) ?_
      refine lv_aload_n hx hb dX9_rowDigest_230 rfl (lv_at hl 0 rfl) ?_
      obtain ⟨b31, hb31, hf⟩ := zr_s hf
      refine x_getR E hR hk22 hb31 ok9 (Nat.le_of_ble_eq_true rfl) rfl fl_X9_110 dX9_rowDigest_231 ?_
      refine lv_iload_n hx hb dX9_rowDigest_234 rfl (lv_at hl 2 rfl) ?_
      obtain ⟨hk32, hf⟩ := zc_s hf
      refine x_ild E hR hk32 dX9_rowDigest_235 ?_
      obtain ⟨r33, σ34, hcr33, hf⟩ := zq_s hf
      refine xV (As := [.int (mD σ b31 (ix v2))]) (rest := [.int (mD σ b28 (ix (mD σ b25 (ix v2)))), .int (mD σ b24 (ix (mD σ b25 (ix v2)))), .int v2, .ref (gB g + b23)]) (st1 := [.int r33, .int (mD σ b28 (ix (mD σ b25 (ix v2)))), .int (mD σ b24 (ix (mD σ b25 (ix v2)))), .int v2, .ref (gB g + b23)]) E hR hS hl (C_X9_hanging hcr33) hk22 ok9 lb_X9_hanging lv_X9_hanging ml_X9_269 ⟨Nat.le_of_ble_eq_true rfl, Nat.le_of_ble_eq_true rfl⟩ rfl rfl rfl (Nat.le_of_ble_eq_true rfl) dX9_rowDigest_236 ⟨hc, hs⟩ (fun H locs hR hS => ?_)
      refine lv_aload_n hx hb dX9_rowDigest_239 rfl (lv_at hl 0 rfl) ?_
      refine lv_aload_n hx hb dX9_rowDigest_240 rfl (lv_at hl 0 rfl) ?_
      obtain ⟨hk35, hf⟩ := zc_s hf
      obtain ⟨b36, hb36, hf⟩ := zr_s hf
      refine x_getR E hR hk35 hb36 ok9 (Nat.le_of_ble_eq_true rfl) rfl fl_X9_113 dX9_rowDigest_241 ?_
      refine lv_iload_n hx hb dX9_rowDigest_244 rfl (lv_at hl 2 rfl) ?_
      obtain ⟨hk37, hf⟩ := zc_s hf
      refine x_ild E hR hk37 dX9_rowDigest_245 ?_
      obtain ⟨r38, σ39, hcr38, hf⟩ := zq_s hf
      refine xV (As := [.int (mD σ34 b36 (ix v2))]) (rest := [.int r33, .int (mD σ b28 (ix (mD σ b25 (ix v2)))), .int (mD σ b24 (ix (mD σ b25 (ix v2)))), .int v2, .ref (gB g + b23)]) (st1 := [.int r38, .int r33, .int (mD σ b28 (ix (mD σ b25 (ix v2)))), .int (mD σ b24 (ix (mD σ b25 (ix v2)))), .int v2, .ref (gB g + b23)]) E hR hS hl (C_X9_hanging hcr38) hk35 ok9 lb_X9_hanging lv_X9_hanging ml_X9_269 ⟨Nat.le_of_ble_eq_true rfl, Nat.le_of_ble_eq_true rfl⟩ rfl rfl rfl (Nat.le_of_ble_eq_true rfl) dX9_rowDigest_246 ⟨hc, hs⟩ (fun H locs hR hS => ?_)
      obtain ⟨r40, σ41, hcr40, hf⟩ := zq_s hf
      refine xS (As := [.int (mD σ b24 (ix (mD σ b25 (ix v2)))), .int (mD σ b28 (ix (mD σ b25 (ix v2)))), .int r33, .int r38]) (rest := [.int v2, .ref (gB g + b23)]) (st1 := [.int r40, .int v2, .ref (gB g + b23)]) E hR hS hl (C_X9_digestOf hcr40) lb_X9_digestOf ls_X9_digestOf ml_X9_161 ⟨Nat.le_of_ble_eq_true rfl, Nat.le_of_ble_eq_true rfl⟩ rfl rfl rfl (Nat.le_of_ble_eq_true rfl) dX9_rowDigest_249 ⟨hc, hs⟩ (fun H locs hR hS => ?_)
      obtain ⟨hk42, hf⟩ := zc_s hf
      obtain ⟨σ43, eσ43, hf⟩ := zl_s hf
      refine x_ist E hR hS hk42 dX9_rowDigest_252 (fun H locs hR hS => ?_)
      rw [← eσ43] at hR
      refine lv_iinc (v := (v2 + (-1 : Int32))) (lv' := [(2, .int (v2 + (-1 : Int32))), (0, .ref (gB g + v0)), (1, .int v1)]) hx hb dX9_rowDigest_253 hl (k := 2) rfl rfl (Nat.le_of_ble_eq_true rfl) rfl (fun ls hl => ?_)
      refine lv_goto (tgt := 198) hx hb dX9_rowDigest_256 (by decide) ?_
      exact ih _ _ _ _ _ _ hf p e s m args below meth c _ _ _ _ _ E hR hS (lv_sub hl [1, 2, 0] rfl) hc hs
set_option maxRecDepth 100000 in
def f_X9_rowDigest_21 : Nat → Nat → Int32 → Mm → Option (Int32 × Mm)
  | 0, _, _, _ => none
  | n + 1, v0, v1, σ =>
    zck (kO σ v0 9) (if (mD σ v0 21) ≤ 0 then (f_X9_rowDigest_198 1000 v0 v1 (v1 - (1 : Int32)) σ) else (zlt (sD σ v0 21 ((mD σ v0 21) - (1 : Int32))) (fun σ46 => zrb (mR σ46 v0 17) (fun b47 => zck (kA σ46 1 b47 (mD σ46 v0 21)) (zrb (mR σ46 v0 18) (fun b49 => zck (kA σ46 1 b49 (mD σ46 v0 21)) (zrb (mR σ46 v0 19) (fun b51 => zck (kA σ46 1 b51 (mD σ46 v0 21)) (zrb (mR σ46 v0 20) (fun b53 => zck (kA σ46 1 b53 (mD σ46 v0 21)) (zcb (f_X9_uppermostOf v0 (mD σ46 b47 (ix (mD σ46 v0 21))) (mD σ46 b49 (ix (mD σ46 v0 21))) σ46) (fun r55 σ56 => if r55 = (-9 : Int32) then (f_X9_rowDigest_128 (f_X9_rowDigest_21 n) v0 v1 (mD σ46 b47 (ix (mD σ46 v0 21))) (mD σ46 b51 (ix (mD σ46 v0 21))) (mD σ46 b53 (ix (mD σ46 v0 21))) r55 σ56) else (zck (kO σ56 v0 9) (zrb (mR σ56 v0 42) (fun b59 => zck (kA σ56 1 b59 v1) (zlt (sD σ56 b59 (ix v1) r55) (fun σ61 => zcb (f_X9_want v0 (r55 + (1 : Int32)) (mD σ46 b49 (ix (mD σ46 v0 21))) v1 (1 : Int32) σ61) (fun r62 σ63 => zck (kO σ63 v0 9) (zcb (f_X9_want v0 (mD σ46 b47 (ix (mD σ46 v0 21))) (r55 - (1 : Int32)) v1 (0 : Int32) σ63) (fun r65 σ66 => f_X9_rowDigest_128 (f_X9_rowDigest_21 n) v0 (v1 + (1 : Int32)) (mD σ46 b47 (ix (mD σ46 v0 21))) (mD σ46 b51 (ix (mD σ46 v0 21))) (mD σ46 b53 (ix (mD σ46 v0 21))) r55 σ66))))))))))))))))))))
set_option maxRecDepth 100000 in
set_option maxHeartbeats 4000000 in
theorem V_X9_rowDigest_21 {g : GG} : ∀ (n : Nat) (v0 : Nat) (v1 : Int32) (σ : Mm) (r : Int32) (σ' : Mm), f_X9_rowDigest_21 n v0 v1 σ = some (r, σ') → VJ g RX9 cX9_rowDigest 8 (some .int) false rm_X9_rowDigest (some (.int r)) σ' (0) (0) 21 [(0, .ref (gB g + v0)), (1, .int v1)] [] σ := by
  intro n
  induction n with
  | zero =>
    intro v0 v1 σ r σ' hf
    unfold f_X9_rowDigest_21 at hf
    cases hf
  | succ n ih =>
    intro v0 v1 σ r σ' hf p e s m args below meth c H locs cells slots ls E hR hS hl hc hs
    obtain ⟨hx, hb, hml, hr, hlocks, hown, hts, hin, hT⟩ := id E
    unfold f_X9_rowDigest_21 at hf
    refine lv_aload_n hx hb dX9_rowDigest_21 rfl (lv_at hl 0 rfl) ?_
    obtain ⟨hk44, hf⟩ := zc_s hf
    refine x_getI E hR hk44 ok9 21 (Nat.le_of_ble_eq_true rfl) rfl fl_X9_145 dX9_rowDigest_22 ?_
    refine lv_if_le (tgt := 194) hx hb dX9_rowDigest_25 (by decide) (fun hq45 => ?_) (fun hq45 => ?_)
    · have hf := ite_p hq45 hf
      refine lv_iload_n hx hb dX9_rowDigest_194 rfl (lv_at hl 1 rfl) ?_
      refine lv_iconst (v := (1 : Int32)) hx hb dX9_rowDigest_195 rfl ?_
      refine lv_isub hx hb dX9_rowDigest_196 ?_
      refine lv_istore_n (lv' := [(2, .int (v1 - (1 : Int32))), (0, .ref (gB g + v0)), (1, .int v1)]) hx hb dX9_rowDigest_197 rfl hl (Nat.le_of_ble_eq_true rfl) rfl (fun ls hl => ?_)
      exact V_X9_rowDigest_198  1000 _ _ _ _ _ _ hf p e s m args below meth c _ _ _ _ _ E hR hS (lv_sub hl [1, 2, 0] rfl) hc hs
    · have hf := ite_n hq45 hf
      refine lv_aload_n hx hb dX9_rowDigest_28 rfl (lv_at hl 0 rfl) ?_
      refine lv_dup hx hb dX9_rowDigest_29 rfl ?_
      refine x_getI E hR hk44 ok9 21 (Nat.le_of_ble_eq_true rfl) rfl fl_X9_145 dX9_rowDigest_30 ?_
      refine lv_iconst (v := (1 : Int32)) hx hb dX9_rowDigest_33 rfl ?_
      refine lv_isub hx hb dX9_rowDigest_34 ?_
      obtain ⟨σ46, eσ46, hf⟩ := zl_s hf
      refine x_putI E hR hS hk44 ok9 21 (Nat.le_of_ble_eq_true rfl) rfl fl_X9_145 (Or.inl rfl) rfl rfl dX9_rowDigest_35 (fun H locs hR hS => ?_)
      rw [← eσ46] at hR
      refine lv_aload_n hx hb dX9_rowDigest_38 rfl (lv_at hl 0 rfl) ?_
      obtain ⟨b47, hb47, hf⟩ := zr_s hf
      refine x_getR E hR (by rw [eσ46]; exact hk44) hb47 ok9 (Nat.le_of_ble_eq_true rfl) rfl fl_X9_56 dX9_rowDigest_39 ?_
      refine lv_aload_n hx hb dX9_rowDigest_42 rfl (lv_at hl 0 rfl) ?_
      refine x_getI E hR (by rw [eσ46]; exact hk44) ok9 21 (Nat.le_of_ble_eq_true rfl) rfl fl_X9_145 dX9_rowDigest_43 ?_
      obtain ⟨hk48, hf⟩ := zc_s hf
      refine x_ild E hR hk48 dX9_rowDigest_46 ?_
      refine lv_istore_n (lv' := [(2, .int (mD σ46 b47 (ix (mD σ46 v0 21)))), (0, .ref (gB g + v0)), (1, .int v1)]) hx hb dX9_rowDigest_47 rfl hl (Nat.le_of_ble_eq_true rfl) rfl (fun ls hl => ?_)
      refine lv_aload_n hx hb dX9_rowDigest_48 rfl (lv_at hl 1 rfl) ?_
      obtain ⟨b49, hb49, hf⟩ := zr_s hf
      refine x_getR E hR (by rw [eσ46]; exact hk44) hb49 ok9 (Nat.le_of_ble_eq_true rfl) rfl fl_X9_59 dX9_rowDigest_49 ?_
      refine lv_aload_n hx hb dX9_rowDigest_52 rfl (lv_at hl 1 rfl) ?_
      refine x_getI E hR (by rw [eσ46]; exact hk44) ok9 21 (Nat.le_of_ble_eq_true rfl) rfl fl_X9_145 dX9_rowDigest_53 ?_
      obtain ⟨hk50, hf⟩ := zc_s hf
      refine x_ild E hR hk50 dX9_rowDigest_56 ?_
      refine lv_istore_n (lv' := [(3, .int (mD σ46 b49 (ix (mD σ46 v0 21)))), (2, .int (mD σ46 b47 (ix (mD σ46 v0 21)))), (0, .ref (gB g + v0)), (1, .int v1)]) hx hb dX9_rowDigest_57 rfl hl (Nat.le_of_ble_eq_true rfl) rfl (fun ls hl => ?_)
      refine lv_aload_n hx hb dX9_rowDigest_58 rfl (lv_at hl 2 rfl) ?_
      obtain ⟨b51, hb51, hf⟩ := zr_s hf
      refine x_getR E hR (by rw [eσ46]; exact hk44) hb51 ok9 (Nat.le_of_ble_eq_true rfl) rfl fl_X9_62 dX9_rowDigest_59 ?_
      refine lv_aload_n hx hb dX9_rowDigest_62 rfl (lv_at hl 2 rfl) ?_
      refine x_getI E hR (by rw [eσ46]; exact hk44) ok9 21 (Nat.le_of_ble_eq_true rfl) rfl fl_X9_145 dX9_rowDigest_63 ?_
      obtain ⟨hk52, hf⟩ := zc_s hf
      refine x_ild E hR hk52 dX9_rowDigest_66 ?_
      refine lv_istore (lv' := [(4, .int (mD σ46 b51 (ix (mD σ46 v0 21)))), (3, .int (mD σ46 b49 (ix (mD σ46 v0 21)))), (2, .int (mD σ46 b47 (ix (mD σ46 v0 21)))), (0, .ref (gB g + v0)), (1, .int v1)]) hx hb dX9_rowDigest_67 hl (Nat.le_of_ble_eq_true rfl) rfl (fun ls hl => ?_)
      refine lv_aload_n hx hb dX9_rowDigest_69 rfl (lv_at hl 3 rfl) ?_
      obtain ⟨b53, hb53, hf⟩ := zr_s hf
      refine x_getR E hR (by rw [eσ46]; exact hk44) hb53 ok9 (Nat.le_of_ble_eq_true rfl) rfl fl_X9_65 dX9_rowDigest_70 ?_
      refine lv_aload_n hx hb dX9_rowDigest_73 rfl (lv_at hl 3 rfl) ?_
      refine x_getI E hR (by rw [eσ46]; exact hk44) ok9 21 (Nat.le_of_ble_eq_true rfl) rfl fl_X9_145 dX9_rowDigest_74 ?_
      obtain ⟨hk54, hf⟩ := zc_s hf
      refine x_ild E hR hk54 dX9_rowDigest_77 ?_
      refine lv_istore (lv' := [(5, .int (mD σ46 b53 (ix (mD σ46 v0 21)))), (4, .int (mD σ46 b51 (ix (mD σ46 v0 21)))), (3, .int (mD σ46 b49 (ix (mD σ46 v0 21)))), (2, .int (mD σ46 b47 (ix (mD σ46 v0 21)))), (0, .ref (gB g + v0)), (1, .int v1)]) hx hb dX9_rowDigest_78 hl (Nat.le_of_ble_eq_true rfl) rfl (fun ls hl => ?_)
      refine lv_aload_n hx hb dX9_rowDigest_80 rfl (lv_at hl 4 rfl) ?_
      refine lv_iload_n hx hb dX9_rowDigest_81 rfl (lv_at hl 3 rfl) ?_
      refine lv_iload_n hx hb dX9_rowDigest_82 rfl (lv_at hl 2 rfl) ?_
      obtain ⟨r55, σ56, hcr55, hf⟩ := zq_s hf
      refine xV (As := [.int (mD σ46 b47 (ix (mD σ46 v0 21))), .int (mD σ46 b49 (ix (mD σ46 v0 21)))]) (rest := []) (st1 := [.int r55]) E hR hS hl (C_X9_uppermostOf hcr55) (by rw [eσ46]; exact hk44) ok9 lb_X9_uppermostOf lv_X9_uppermostOf ml_X9_266 ⟨Nat.le_of_ble_eq_true rfl, Nat.le_of_ble_eq_true rfl⟩ rfl rfl rfl (Nat.le_of_ble_eq_true rfl) dX9_rowDigest_83 ⟨hc, hs⟩ (fun H locs hR hS => ?_)
      refine lv_istore (lv' := [(6, .int r55), (5, .int (mD σ46 b53 (ix (mD σ46 v0 21)))), (4, .int (mD σ46 b51 (ix (mD σ46 v0 21)))), (3, .int (mD σ46 b49 (ix (mD σ46 v0 21)))), (2, .int (mD σ46 b47 (ix (mD σ46 v0 21)))), (0, .ref (gB g + v0)), (1, .int v1)]) hx hb dX9_rowDigest_86 hl (Nat.le_of_ble_eq_true rfl) rfl (fun ls hl => ?_)
      refine lv_iload hx hb dX9_rowDigest_88 (lv_at hl 0 rfl) ?_
      refine lv_bipush (v := (-9 : Int32)) hx hb dX9_rowDigest_90 rfl ?_
      refine lv_icmp_eq (tgt := 128) hx hb dX9_rowDigest_92 (by decide) (fun hq57 => ?_) (fun hq57 => ?_)
      · have hf := ite_p hq57 hf
        exact V_X9_rowDigest_128 _ ih _ _ _ _ _ _ _ _ _ hf p e s m args below meth c _ _ _ _ _ E hR hS (lv_sub hl [5, 6, 4, 2, 1, 0] rfl) hc hs
      · have hf := ite_n hq57 hf
        refine lv_aload_n hx hb dX9_rowDigest_95 rfl (lv_at hl 5 rfl) ?_
        obtain ⟨hk58, hf⟩ := zc_s hf
        obtain ⟨b59, hb59, hf⟩ := zr_s hf
        refine x_getR E hR hk58 hb59 ok9 (Nat.le_of_ble_eq_true rfl) rfl fl_X9_107 dX9_rowDigest_96 ?_
        refine lv_iload_n hx hb dX9_rowDigest_99 rfl (lv_at hl 6 rfl) ?_
        refine lv_iload hx hb dX9_rowDigest_100 (lv_at hl 0 rfl) ?_
        obtain ⟨hk60, hf⟩ := zc_s hf
        obtain ⟨σ61, eσ61, hf⟩ := zl_s hf
        refine x_ist E hR hS hk60 dX9_rowDigest_102 (fun H locs hR hS => ?_)
        rw [← eσ61] at hR
        refine lv_aload_n hx hb dX9_rowDigest_103 rfl (lv_at hl 5 rfl) ?_
        refine lv_iload hx hb dX9_rowDigest_104 (lv_at hl 0 rfl) ?_
        refine lv_iconst (v := (1 : Int32)) hx hb dX9_rowDigest_106 rfl ?_
        refine lv_iadd hx hb dX9_rowDigest_107 ?_
        refine lv_iload_n hx hb dX9_rowDigest_108 rfl (lv_at hl 3 rfl) ?_
        refine lv_iload_n hx hb dX9_rowDigest_109 rfl (lv_at hl 6 rfl) ?_
        refine lv_iconst (v := (1 : Int32)) hx hb dX9_rowDigest_110 rfl ?_
        obtain ⟨r62, σ63, hcr62, hf⟩ := zq_s hf
        refine xV (As := [.int (r55 + (1 : Int32)), .int (mD σ46 b49 (ix (mD σ46 v0 21))), .int v1, .int (1 : Int32)]) (rest := []) (st1 := []) E hR hS hl (C_X9_want hcr62) (by rw [eσ61]; exact hk58) ok9 lb_X9_want lv_X9_want ml_X9_153 ⟨Nat.le_of_ble_eq_true rfl, Nat.le_of_ble_eq_true rfl⟩ rfl rfl rfl (Nat.le_of_ble_eq_true rfl) dX9_rowDigest_111 ⟨hc, hs⟩ (fun H locs hR hS => ?_)
        refine lv_aload_n hx hb dX9_rowDigest_114 rfl (lv_at hl 5 rfl) ?_
        refine lv_iload_n hx hb dX9_rowDigest_115 rfl (lv_at hl 4 rfl) ?_
        refine lv_iload hx hb dX9_rowDigest_116 (lv_at hl 0 rfl) ?_
        refine lv_iconst (v := (1 : Int32)) hx hb dX9_rowDigest_118 rfl ?_
        refine lv_isub hx hb dX9_rowDigest_119 ?_
        refine lv_iload_n hx hb dX9_rowDigest_120 rfl (lv_at hl 6 rfl) ?_
        refine lv_iconst (v := (0 : Int32)) hx hb dX9_rowDigest_121 rfl ?_
        obtain ⟨hk64, hf⟩ := zc_s hf
        obtain ⟨r65, σ66, hcr65, hf⟩ := zq_s hf
        refine xV (As := [.int (mD σ46 b47 (ix (mD σ46 v0 21))), .int (r55 - (1 : Int32)), .int v1, .int (0 : Int32)]) (rest := []) (st1 := []) E hR hS hl (C_X9_want hcr65) hk64 ok9 lb_X9_want lv_X9_want ml_X9_153 ⟨Nat.le_of_ble_eq_true rfl, Nat.le_of_ble_eq_true rfl⟩ rfl rfl rfl (Nat.le_of_ble_eq_true rfl) dX9_rowDigest_122 ⟨hc, hs⟩ (fun H locs hR hS => ?_)
        refine lv_iinc (v := (v1 + (1 : Int32))) (lv' := [(1, .int (v1 + (1 : Int32))), (6, .int r55), (5, .int (mD σ46 b53 (ix (mD σ46 v0 21)))), (4, .int (mD σ46 b51 (ix (mD σ46 v0 21)))), (3, .int (mD σ46 b49 (ix (mD σ46 v0 21)))), (2, .int (mD σ46 b47 (ix (mD σ46 v0 21)))), (0, .ref (gB g + v0))]) hx hb dX9_rowDigest_125 hl (k := 6) rfl rfl (Nat.le_of_ble_eq_true rfl) rfl (fun ls hl => ?_)
        exact V_X9_rowDigest_128 _ ih _ _ _ _ _ _ _ _ _ hf p e s m args below meth c _ _ _ _ _ E hR hS (lv_sub hl [6, 0, 5, 3, 2, 1] rfl) hc hs
set_option maxRecDepth 100000 in
def f_X9_rowDigest (v0 : Nat) (σ : Mm) : Option (Int32 × Mm) :=
  zck (kO σ v0 9) (zlt (sD σ v0 21 (0 : Int32)) (fun σ68 => zcb (f_X9_want v0 (0 : Int32) ((mD σ68 v0 41) - (1 : Int32)) (-9 : Int32) (0 : Int32) σ68) (fun r69 σ70 => f_X9_rowDigest_21 1000 v0 (0 : Int32) σ70)))
set_option maxRecDepth 100000 in
set_option maxHeartbeats 4000000 in
theorem V_X9_rowDigest_0 {g : GG} (v0 : Nat) (σ : Mm) (r : Int32) (σ' : Mm) (hf : f_X9_rowDigest v0 σ = some (r, σ')) : VJ g RX9 cX9_rowDigest 8 (some .int) false rm_X9_rowDigest (some (.int r)) σ' (0) (0) 0 [(0, .ref (gB g + v0))] [] σ := by
  intro p e s m args below meth c H locs cells slots ls E hR hS hl hc hs
  obtain ⟨hx, hb, hml, hr, hlocks, hown, hts, hin, hT⟩ := id E
  unfold f_X9_rowDigest at hf
  refine lv_iconst (v := (0 : Int32)) hx hb dX9_rowDigest_0 rfl ?_
  refine lv_istore_n (lv' := [(1, .int (0 : Int32)), (0, .ref (gB g + v0))]) hx hb dX9_rowDigest_1 rfl hl (Nat.le_of_ble_eq_true rfl) rfl (fun ls hl => ?_)
  refine lv_aload_n hx hb dX9_rowDigest_2 rfl (lv_at hl 1 rfl) ?_
  refine lv_iconst (v := (0 : Int32)) hx hb dX9_rowDigest_3 rfl ?_
  obtain ⟨hk67, hf⟩ := zc_s hf
  obtain ⟨σ68, eσ68, hf⟩ := zl_s hf
  refine x_putI E hR hS hk67 ok9 21 (Nat.le_of_ble_eq_true rfl) rfl fl_X9_145 (Or.inl rfl) rfl rfl dX9_rowDigest_4 (fun H locs hR hS => ?_)
  rw [← eσ68] at hR
  refine lv_aload_n hx hb dX9_rowDigest_7 rfl (lv_at hl 1 rfl) ?_
  refine lv_iconst (v := (0 : Int32)) hx hb dX9_rowDigest_8 rfl ?_
  refine lv_aload_n hx hb dX9_rowDigest_9 rfl (lv_at hl 1 rfl) ?_
  refine x_getI E hR (by rw [eσ68]; exact hk67) ok9 41 (Nat.le_of_ble_eq_true rfl) rfl fl_X9_260 dX9_rowDigest_10 ?_
  refine lv_iconst (v := (1 : Int32)) hx hb dX9_rowDigest_13 rfl ?_
  refine lv_isub hx hb dX9_rowDigest_14 ?_
  refine lv_bipush (v := (-9 : Int32)) hx hb dX9_rowDigest_15 rfl ?_
  refine lv_iconst (v := (0 : Int32)) hx hb dX9_rowDigest_17 rfl ?_
  obtain ⟨r69, σ70, hcr69, hf⟩ := zq_s hf
  refine xV (As := [.int (0 : Int32), .int ((mD σ68 v0 41) - (1 : Int32)), .int (-9 : Int32), .int (0 : Int32)]) (rest := []) (st1 := []) E hR hS hl (C_X9_want hcr69) (by rw [eσ68]; exact hk67) ok9 lb_X9_want lv_X9_want ml_X9_153 ⟨Nat.le_of_ble_eq_true rfl, Nat.le_of_ble_eq_true rfl⟩ rfl rfl rfl (Nat.le_of_ble_eq_true rfl) dX9_rowDigest_18 ⟨hc, hs⟩ (fun H locs hR hS => ?_)
  exact V_X9_rowDigest_21  1000 _ _ _ _ _ hf p e s m args below meth c _ _ _ _ _ E hR hS (lv_sub hl [1, 0] rfl) hc hs
theorem C_X9_rowDigest {g : GG} {v0 : Nat} {σ : Mm} {r : Int32} {σ' : Mm} (hf : f_X9_rowDigest v0 σ = some (r, σ')) : Ct g yX9_rowDigest cX9_rowDigest 8 (some .int) rm_X9_rowDigest [.ref (gB g + v0)] σ (some (.int r)) σ' :=
  Ct.of false (by decide +kernel) (fun h => by cases h) (Nat.le_of_ble_eq_true rfl) (V_X9_rowDigest_0 _ _ _ _ hf)
abbrev rm_X9_followed : Room := { frames := 4, cells := 0, slots := 0, locals := 98 }
set_option maxRecDepth 100000 in
def f_X9_followed_118 (v0 : Nat) (σ : Mm) : Option (Int32 × Mm) :=
  zck (kO σ v0 9) (zcb (f_X9_rowDigest v0 σ) (fun r2 σ3 => some (r2, σ3)))
set_option maxRecDepth 100000 in
set_option maxHeartbeats 4000000 in
theorem V_X9_followed_118 {g : GG} (v0 : Nat) (σ : Mm) (r : Int32) (σ' : Mm) (hf : f_X9_followed_118 v0 σ = some (r, σ')) : VJ g RX9 cX9_followed 4 (some .int) false rm_X9_followed (some (.int r)) σ' (0) (0) 118 [(0, .ref (gB g + v0))] [] σ := by
  intro p e s m args below meth c H locs cells slots ls E hR hS hl hc hs
  obtain ⟨hx, hb, hml, hr, hlocks, hown, hts, hin, hT⟩ := id E
  unfold f_X9_followed_118 at hf
  refine lv_aload_n hx hb dX9_followed_118 rfl (lv_at hl 0 rfl) ?_
  obtain ⟨hk1, hf⟩ := zc_s hf
  obtain ⟨r2, σ3, hcr2, hf⟩ := zq_s hf
  refine xV (As := []) (rest := []) (st1 := [.int r2]) E hR hS hl (C_X9_rowDigest hcr2) hk1 ok9 lb_X9_rowDigest lv_X9_rowDigest ml_X9_280 ⟨Nat.le_of_ble_eq_true rfl, Nat.le_of_ble_eq_true rfl⟩ rfl rfl rfl (Nat.le_of_ble_eq_true rfl) dX9_followed_119 ⟨hc, hs⟩ (fun H locs hR hS => ?_)
  obtain ⟨hr1, hs1⟩ := Prod.mk.inj (Option.some.inj hf)
  exact xr_i E hR hS rfl (by rw [hr1]) hs1.symm hc hs dX9_followed_122
set_option maxRecDepth 100000 in
def f_X9_followed_82 (v0 : Nat) (v1 : Int32) (v2 : Int32) (v3 : Int32) (σ : Mm) : Option (Int32 × Mm) :=
  if v2 = (-9 : Int32) then (zck (kO σ v0 9) (zcb (f_X9_takeOut v0 v3 σ) (fun r14 σ15 => f_X9_followed_118 v0 σ15))) else (if v3 = (-9 : Int32) then (zck (kO σ v0 9) (zcb (f_X9_putIn v0 v1 v2 σ) (fun r11 σ12 => f_X9_followed_118 v0 σ12))) else (zck (kO σ v0 9) (zrb (mR σ v0 39) (fun b7 => zck (kA σ 1 b7 v3) (zlt (sD σ b7 (ix v3) v2) (fun σ9 => f_X9_followed_118 v0 σ9))))))
set_option maxRecDepth 100000 in
set_option maxHeartbeats 4000000 in
theorem V_X9_followed_82 {g : GG} (v0 : Nat) (v1 : Int32) (v2 : Int32) (v3 : Int32) (σ : Mm) (r : Int32) (σ' : Mm) (hf : f_X9_followed_82 v0 v1 v2 v3 σ = some (r, σ')) : VJ g RX9 cX9_followed 4 (some .int) false rm_X9_followed (some (.int r)) σ' (0) (0) 82 [(0, .ref (gB g + v0)), (1, .int v1), (2, .int v2), (3, .int v3)] [] σ := by
  intro p e s m args below meth c H locs cells slots ls E hR hS hl hc hs
  obtain ⟨hx, hb, hml, hr, hlocks, hown, hts, hin, hT⟩ := id E
  unfold f_X9_followed_82 at hf
  refine lv_iload_n hx hb dX9_followed_82 rfl (lv_at hl 2 rfl) ?_
  refine lv_bipush (v := (-9 : Int32)) hx hb dX9_followed_83 rfl ?_
  refine lv_icmp_ne (tgt := 96) hx hb dX9_followed_85 (by decide) (fun hq4 => ?_) (fun hq4 => ?_)
  · have hf := ite_n hq4 hf
    refine lv_iload_n hx hb dX9_followed_96 rfl (lv_at hl 3 rfl) ?_
    refine lv_bipush (v := (-9 : Int32)) hx hb dX9_followed_97 rfl ?_
    refine lv_icmp_ne (tgt := 111) hx hb dX9_followed_99 (by decide) (fun hq5 => ?_) (fun hq5 => ?_)
    · have hf := ite_n hq5 hf
      refine lv_aload_n hx hb dX9_followed_111 rfl (lv_at hl 0 rfl) ?_
      obtain ⟨hk6, hf⟩ := zc_s hf
      obtain ⟨b7, hb7, hf⟩ := zr_s hf
      refine x_getR E hR hk6 hb7 ok9 (Nat.le_of_ble_eq_true rfl) rfl fl_X9_101 dX9_followed_112 ?_
      refine lv_iload_n hx hb dX9_followed_115 rfl (lv_at hl 3 rfl) ?_
      refine lv_iload_n hx hb dX9_followed_116 rfl (lv_at hl 2 rfl) ?_
      obtain ⟨hk8, hf⟩ := zc_s hf
      obtain ⟨σ9, eσ9, hf⟩ := zl_s hf
      refine x_ist E hR hS hk8 dX9_followed_117 (fun H locs hR hS => ?_)
      rw [← eσ9] at hR
      exact V_X9_followed_118  _ _ _ _ hf p e s m args below meth c _ _ _ _ _ E hR hS (lv_sub hl [0] rfl) hc hs
    · have hf := ite_p hq5 hf
      refine lv_aload_n hx hb dX9_followed_102 rfl (lv_at hl 0 rfl) ?_
      refine lv_iload_n hx hb dX9_followed_103 rfl (lv_at hl 1 rfl) ?_
      refine lv_iload_n hx hb dX9_followed_104 rfl (lv_at hl 2 rfl) ?_
      obtain ⟨hk10, hf⟩ := zc_s hf
      obtain ⟨r11, σ12, hcr11, hf⟩ := zq_s hf
      refine xV (As := [.int v1, .int v2]) (rest := []) (st1 := []) E hR hS hl (C_X9_putIn hcr11) hk10 ok9 lb_X9_putIn lv_X9_putIn ml_X9_276 ⟨Nat.le_of_ble_eq_true rfl, Nat.le_of_ble_eq_true rfl⟩ rfl rfl rfl (Nat.le_of_ble_eq_true rfl) dX9_followed_105 ⟨hc, hs⟩ (fun H locs hR hS => ?_)
      refine lv_goto (tgt := 118) hx hb dX9_followed_108 (by decide) ?_
      exact V_X9_followed_118  _ _ _ _ hf p e s m args below meth c _ _ _ _ _ E hR hS (lv_sub hl [0] rfl) hc hs
  · have hf := ite_p hq4 hf
    refine lv_aload_n hx hb dX9_followed_88 rfl (lv_at hl 0 rfl) ?_
    refine lv_iload_n hx hb dX9_followed_89 rfl (lv_at hl 3 rfl) ?_
    obtain ⟨hk13, hf⟩ := zc_s hf
    obtain ⟨r14, σ15, hcr14, hf⟩ := zq_s hf
    refine xV (As := [.int v3]) (rest := []) (st1 := []) E hR hS hl (C_X9_takeOut hcr14) hk13 ok9 lb_X9_takeOut lv_X9_takeOut ml_X9_272 ⟨Nat.le_of_ble_eq_true rfl, Nat.le_of_ble_eq_true rfl⟩ rfl rfl rfl (Nat.le_of_ble_eq_true rfl) dX9_followed_90 ⟨hc, hs⟩ (fun H locs hR hS => ?_)
    refine lv_goto (tgt := 118) hx hb dX9_followed_93 (by decide) ?_
    exact V_X9_followed_118  _ _ _ _ hf p e s m args below meth c _ _ _ _ _ E hR hS (lv_sub hl [0] rfl) hc hs
set_option maxRecDepth 100000 in
def f_X9_followed_49 (v0 : Nat) (v1 : Int32) (v2 : Int32) (w0 : Nat) (w1 : Int32) (w2 : Int32) (σ : Mm) : Option (Int32 × Mm) :=
  zck (kO σ w0 9) (zcb (f_X9_reasonOf w0 w1 w2 σ) (fun r17 σ18 => if r17 = 0 then (zck (kO σ18 v0 9) (zcb (f_X9_layRow v0 σ18) (fun r21 σ22 => zck (kO σ22 v0 9) (zcb (f_X9_placeOf v0 v1 σ22) (fun r24 σ25 => if r24 = (-9 : Int32) then (if v2 = (-9 : Int32) then (some ((-1 : Int32), σ25)) else (f_X9_followed_82 v0 v1 v2 r24 σ25)) else (f_X9_followed_82 v0 v1 v2 r24 σ25)))))) else (some ((-3 : Int32), σ18))))
set_option maxRecDepth 100000 in
set_option maxHeartbeats 4000000 in
theorem V_X9_followed_49 {g : GG} (v0 : Nat) (v1 : Int32) (v2 : Int32) (w0 : Nat) (w1 : Int32) (w2 : Int32) (σ : Mm) (r : Int32) (σ' : Mm) (hf : f_X9_followed_49 v0 v1 v2 w0 w1 w2 σ = some (r, σ')) : VJ g RX9 cX9_followed 4 (some .int) false rm_X9_followed (some (.int r)) σ' (0) (0) 49 [(0, .ref (gB g + v0)), (1, .int v1), (2, .int v2)] [.int w2, .int w1, .ref (gB g + w0)] σ := by
  intro p e s m args below meth c H locs cells slots ls E hR hS hl hc hs
  obtain ⟨hx, hb, hml, hr, hlocks, hown, hts, hin, hT⟩ := id E
  unfold f_X9_followed_49 at hf
  obtain ⟨hk16, hf⟩ := zc_s hf
  obtain ⟨r17, σ18, hcr17, hf⟩ := zq_s hf
  refine xV (As := [.int w1, .int w2]) (rest := []) (st1 := [.int r17]) E hR hS hl (C_X9_reasonOf hcr17) hk16 ok9 lb_X9_reasonOf lv_X9_reasonOf ml_X9_252 ⟨Nat.le_of_ble_eq_true rfl, Nat.le_of_ble_eq_true rfl⟩ rfl rfl rfl (Nat.le_of_ble_eq_true rfl) dX9_followed_49 ⟨hc, hs⟩ (fun H locs hR hS => ?_)
  refine lv_if_eq (tgt := 58) hx hb dX9_followed_52 (by decide) (fun hq19 => ?_) (fun hq19 => ?_)
  · have hf := ite_p hq19 hf
    refine lv_aload_n hx hb dX9_followed_58 rfl (lv_at hl 0 rfl) ?_
    obtain ⟨hk20, hf⟩ := zc_s hf
    obtain ⟨r21, σ22, hcr21, hf⟩ := zq_s hf
    refine xV (As := []) (rest := []) (st1 := []) E hR hS hl (C_X9_layRow hcr21) hk20 ok9 lb_X9_layRow lv_X9_layRow ml_X9_257 ⟨Nat.le_of_ble_eq_true rfl, Nat.le_of_ble_eq_true rfl⟩ rfl rfl rfl (Nat.le_of_ble_eq_true rfl) dX9_followed_59 ⟨hc, hs⟩ (fun H locs hR hS => ?_)
    refine lv_aload_n hx hb dX9_followed_62 rfl (lv_at hl 0 rfl) ?_
    refine lv_iload_n hx hb dX9_followed_63 rfl (lv_at hl 1 rfl) ?_
    obtain ⟨hk23, hf⟩ := zc_s hf
    obtain ⟨r24, σ25, hcr24, hf⟩ := zq_s hf
    refine xV (As := [.int v1]) (rest := []) (st1 := [.int r24]) E hR hS hl (C_X9_placeOf hcr24) hk23 ok9 lb_X9_placeOf lv_X9_placeOf ml_X9_263 ⟨Nat.le_of_ble_eq_true rfl, Nat.le_of_ble_eq_true rfl⟩ rfl rfl rfl (Nat.le_of_ble_eq_true rfl) dX9_followed_64 ⟨hc, hs⟩ (fun H locs hR hS => ?_)
    refine lv_istore_n (lv' := [(3, .int r24), (0, .ref (gB g + v0)), (1, .int v1), (2, .int v2)]) hx hb dX9_followed_67 rfl hl (Nat.le_of_ble_eq_true rfl) rfl (fun ls hl => ?_)
    refine lv_iload_n hx hb dX9_followed_68 rfl (lv_at hl 0 rfl) ?_
    refine lv_bipush (v := (-9 : Int32)) hx hb dX9_followed_69 rfl ?_
    refine lv_icmp_ne (tgt := 82) hx hb dX9_followed_71 (by decide) (fun hq26 => ?_) (fun hq26 => ?_)
    · have hf := ite_n hq26 hf
      exact V_X9_followed_82  _ _ _ _ _ _ _ hf p e s m args below meth c _ _ _ _ _ E hR hS (lv_sub hl [1, 2, 3, 0] rfl) hc hs
    · have hf := ite_p hq26 hf
      refine lv_iload_n hx hb dX9_followed_74 rfl (lv_at hl 3 rfl) ?_
      refine lv_bipush (v := (-9 : Int32)) hx hb dX9_followed_75 rfl ?_
      refine lv_icmp_ne (tgt := 82) hx hb dX9_followed_77 (by decide) (fun hq27 => ?_) (fun hq27 => ?_)
      · have hf := ite_n hq27 hf
        exact V_X9_followed_82  _ _ _ _ _ _ _ hf p e s m args below meth c _ _ _ _ _ E hR hS (lv_sub hl [1, 2, 3, 0] rfl) hc hs
      · have hf := ite_p hq27 hf
        refine lv_iconst (v := (-1 : Int32)) hx hb dX9_followed_80 rfl ?_
        obtain ⟨hr1, hs1⟩ := Prod.mk.inj (Option.some.inj hf)
        exact xr_i E hR hS rfl (by rw [hr1]) hs1.symm hc hs dX9_followed_81
  · have hf := ite_n hq19 hf
    refine lv_bipush (v := (-3 : Int32)) hx hb dX9_followed_55 rfl ?_
    obtain ⟨hr1, hs1⟩ := Prod.mk.inj (Option.some.inj hf)
    exact xr_i E hR hS rfl (by rw [hr1]) hs1.symm hc hs dX9_followed_57
set_option maxRecDepth 100000 in
def f_X9_followed_35 (v0 : Nat) (v1 : Int32) (v2 : Int32) (w0 : Nat) (w1 : Int32) (σ : Mm) : Option (Int32 × Mm) :=
  if (99 : Int32) ≤ v1 then (f_X9_followed_49 v0 v1 v2 w0 w1 (99 : Int32) σ) else (f_X9_followed_49 v0 v1 v2 w0 w1 (v1 + (1 : Int32)) σ)
set_option maxRecDepth 100000 in
set_option maxHeartbeats 4000000 in
theorem V_X9_followed_35 {g : GG} (v0 : Nat) (v1 : Int32) (v2 : Int32) (w0 : Nat) (w1 : Int32) (σ : Mm) (r : Int32) (σ' : Mm) (hf : f_X9_followed_35 v0 v1 v2 w0 w1 σ = some (r, σ')) : VJ g RX9 cX9_followed 4 (some .int) false rm_X9_followed (some (.int r)) σ' (0) (0) 35 [(0, .ref (gB g + v0)), (1, .int v1), (2, .int v2)] [.int w1, .ref (gB g + w0)] σ := by
  intro p e s m args below meth c H locs cells slots ls E hR hS hl hc hs
  obtain ⟨hx, hb, hml, hr, hlocks, hown, hts, hin, hT⟩ := id E
  unfold f_X9_followed_35 at hf
  refine lv_iload_n hx hb dX9_followed_35 rfl (lv_at hl 1 rfl) ?_
  refine lv_bipush (v := (99 : Int32)) hx hb dX9_followed_36 rfl ?_
  refine lv_icmp_ge (tgt := 47) hx hb dX9_followed_38 (by decide) (fun hq28 => ?_) (fun hq28 => ?_)
  · have hf := ite_p hq28 hf
    refine lv_bipush (v := (99 : Int32)) hx hb dX9_followed_47 rfl ?_
    exact V_X9_followed_49  _ _ _ _ _ _ _ _ _ hf p e s m args below meth c _ _ _ _ _ E hR hS (lv_sub hl [0, 1, 2] rfl) hc hs
  · have hf := ite_n hq28 hf
    refine lv_iload_n hx hb dX9_followed_41 rfl (lv_at hl 1 rfl) ?_
    refine lv_iconst (v := (1 : Int32)) hx hb dX9_followed_42 rfl ?_
    refine lv_iadd hx hb dX9_followed_43 ?_
    refine lv_goto (tgt := 49) hx hb dX9_followed_44 (by decide) ?_
    exact V_X9_followed_49  _ _ _ _ _ _ _ _ _ hf p e s m args below meth c _ _ _ _ _ E hR hS (lv_sub hl [0, 1, 2] rfl) hc hs
set_option maxRecDepth 100000 in
def f_X9_followed_23 (v0 : Nat) (v1 : Int32) (v2 : Int32) (σ : Mm) : Option (Int32 × Mm) :=
  if v1 ≤ 0 then (f_X9_followed_35 v0 v1 v2 v0 (0 : Int32) σ) else (f_X9_followed_35 v0 v1 v2 v0 (v1 - (1 : Int32)) σ)
set_option maxRecDepth 100000 in
set_option maxHeartbeats 4000000 in
theorem V_X9_followed_23 {g : GG} (v0 : Nat) (v1 : Int32) (v2 : Int32) (σ : Mm) (r : Int32) (σ' : Mm) (hf : f_X9_followed_23 v0 v1 v2 σ = some (r, σ')) : VJ g RX9 cX9_followed 4 (some .int) false rm_X9_followed (some (.int r)) σ' (0) (0) 23 [(0, .ref (gB g + v0)), (1, .int v1), (2, .int v2)] [] σ := by
  intro p e s m args below meth c H locs cells slots ls E hR hS hl hc hs
  obtain ⟨hx, hb, hml, hr, hlocks, hown, hts, hin, hT⟩ := id E
  unfold f_X9_followed_23 at hf
  refine lv_aload_n hx hb dX9_followed_23 rfl (lv_at hl 0 rfl) ?_
  refine lv_iload_n hx hb dX9_followed_24 rfl (lv_at hl 1 rfl) ?_
  refine lv_if_le (tgt := 34) hx hb dX9_followed_25 (by decide) (fun hq29 => ?_) (fun hq29 => ?_)
  · have hf := ite_p hq29 hf
    refine lv_iconst (v := (0 : Int32)) hx hb dX9_followed_34 rfl ?_
    exact V_X9_followed_35  _ _ _ _ _ _ _ _ hf p e s m args below meth c _ _ _ _ _ E hR hS (lv_sub hl [0, 1, 2] rfl) hc hs
  · have hf := ite_n hq29 hf
    refine lv_iload_n hx hb dX9_followed_28 rfl (lv_at hl 1 rfl) ?_
    refine lv_iconst (v := (1 : Int32)) hx hb dX9_followed_29 rfl ?_
    refine lv_isub hx hb dX9_followed_30 ?_
    refine lv_goto (tgt := 35) hx hb dX9_followed_31 (by decide) ?_
    exact V_X9_followed_35  _ _ _ _ _ _ _ _ hf p e s m args below meth c _ _ _ _ _ E hR hS (lv_sub hl [0, 1, 2] rfl) hc hs
set_option maxRecDepth 100000 in
def f_X9_followed (v0 : Nat) (v1 : Int32) (v2 : Int32) (σ : Mm) : Option (Int32 × Mm) :=
  zcb (f_X9_isNumber v1 σ) (fun r30 σ31 => if r30 = 0 then (some ((-2 : Int32), σ31)) else (if v2 = (-9 : Int32) then (f_X9_followed_23 v0 v1 v2 σ31) else (zcb (f_X9_isNumber v2 σ31) (fun r34 σ35 => if r34 = 0 then (some ((-2 : Int32), σ35)) else (f_X9_followed_23 v0 v1 v2 σ35)))))
set_option maxRecDepth 100000 in
set_option maxHeartbeats 4000000 in
theorem V_X9_followed_0 {g : GG} (v0 : Nat) (v1 : Int32) (v2 : Int32) (σ : Mm) (r : Int32) (σ' : Mm) (hf : f_X9_followed v0 v1 v2 σ = some (r, σ')) : VJ g RX9 cX9_followed 4 (some .int) false rm_X9_followed (some (.int r)) σ' (0) (0) 0 [(0, .ref (gB g + v0)), (1, .int v1), (2, .int v2)] [] σ := by
  intro p e s m args below meth c H locs cells slots ls E hR hS hl hc hs
  obtain ⟨hx, hb, hml, hr, hlocks, hown, hts, hin, hT⟩ := id E
  unfold f_X9_followed at hf
  refine lv_iload_n hx hb dX9_followed_0 rfl (lv_at hl 1 rfl) ?_
  obtain ⟨r30, σ31, hcr30, hf⟩ := zq_s hf
  refine xS (As := [.int v1]) (rest := []) (st1 := [.int r30]) E hR hS hl (C_X9_isNumber hcr30) lb_X9_isNumber ls_X9_isNumber ml_X9_125 ⟨Nat.le_of_ble_eq_true rfl, Nat.le_of_ble_eq_true rfl⟩ rfl rfl rfl (Nat.le_of_ble_eq_true rfl) dX9_followed_1 ⟨hc, hs⟩ (fun H locs hR hS => ?_)
  refine lv_if_eq (tgt := 20) hx hb dX9_followed_4 (by decide) (fun hq32 => ?_) (fun hq32 => ?_)
  · have hf := ite_p hq32 hf
    refine lv_bipush (v := (-2 : Int32)) hx hb dX9_followed_20 rfl ?_
    obtain ⟨hr1, hs1⟩ := Prod.mk.inj (Option.some.inj hf)
    exact xr_i E hR hS rfl (by rw [hr1]) hs1.symm hc hs dX9_followed_22
  · have hf := ite_n hq32 hf
    refine lv_iload_n hx hb dX9_followed_7 rfl (lv_at hl 2 rfl) ?_
    refine lv_bipush (v := (-9 : Int32)) hx hb dX9_followed_8 rfl ?_
    refine lv_icmp_eq (tgt := 23) hx hb dX9_followed_10 (by decide) (fun hq33 => ?_) (fun hq33 => ?_)
    · have hf := ite_p hq33 hf
      exact V_X9_followed_23  _ _ _ _ _ _ hf p e s m args below meth c _ _ _ _ _ E hR hS (lv_sub hl [0, 1, 2] rfl) hc hs
    · have hf := ite_n hq33 hf
      refine lv_iload_n hx hb dX9_followed_13 rfl (lv_at hl 2 rfl) ?_
      obtain ⟨r34, σ35, hcr34, hf⟩ := zq_s hf
      refine xS (As := [.int v2]) (rest := []) (st1 := [.int r34]) E hR hS hl (C_X9_isNumber hcr34) lb_X9_isNumber ls_X9_isNumber ml_X9_125 ⟨Nat.le_of_ble_eq_true rfl, Nat.le_of_ble_eq_true rfl⟩ rfl rfl rfl (Nat.le_of_ble_eq_true rfl) dX9_followed_14 ⟨hc, hs⟩ (fun H locs hR hS => ?_)
      refine lv_if_ne (tgt := 23) hx hb dX9_followed_17 (by decide) (fun hq36 => ?_) (fun hq36 => ?_)
      · have hf := ite_n hq36 hf
        exact V_X9_followed_23  _ _ _ _ _ _ hf p e s m args below meth c _ _ _ _ _ E hR hS (lv_sub hl [0, 1, 2] rfl) hc hs
      · have hf := ite_p hq36 hf
        refine lv_bipush (v := (-2 : Int32)) hx hb dX9_followed_20 rfl ?_
        obtain ⟨hr1, hs1⟩ := Prod.mk.inj (Option.some.inj hf)
        exact xr_i E hR hS rfl (by rw [hr1]) hs1.symm hc hs dX9_followed_22
theorem C_X9_followed {g : GG} {v0 : Nat} {v1 : Int32} {v2 : Int32} {σ : Mm} {r : Int32} {σ' : Mm} (hf : f_X9_followed v0 v1 v2 σ = some (r, σ')) : Ct g yX9_followed cX9_followed 4 (some .int) rm_X9_followed [.ref (gB g + v0), .int v1, .int v2] σ (some (.int r)) σ' :=
  Ct.of false (by decide +kernel) (fun h => by cases h) (Nat.le_of_ble_eq_true rfl) (V_X9_followed_0 _ _ _ _ _ _ hf)
abbrev rm_X9_step : Room := { frames := 5, cells := 0, slots := 0, locals := 121 }
set_option maxRecDepth 100000 in
def f_X9_step (v0 : Nat) (v1 : Int32) (v2 : Int32) (σ : Mm) : Option (Int32 × Mm) :=
  zck (kO σ v0 9) (zcb (f_X9_followed v0 v1 v2 σ) (fun r2 σ3 => some (r2, σ3)))
set_option maxRecDepth 100000 in
set_option maxHeartbeats 4000000 in
theorem V_X9_step_0 {g : GG} (v0 : Nat) (v1 : Int32) (v2 : Int32) (σ : Mm) (r : Int32) (σ' : Mm) (hf : f_X9_step v0 v1 v2 σ = some (r, σ')) : VJ g RX9 cX9_step 3 (some .int) false rm_X9_step (some (.int r)) σ' (0) (0) 0 [(0, .ref (gB g + v0)), (1, .int v1), (2, .int v2)] [] σ := by
  intro p e s m args below meth c H locs cells slots ls E hR hS hl hc hs
  obtain ⟨hx, hb, hml, hr, hlocks, hown, hts, hin, hT⟩ := id E
  unfold f_X9_step at hf
  refine lv_aload_n hx hb dX9_step_0 rfl (lv_at hl 0 rfl) ?_
  refine lv_iload_n hx hb dX9_step_1 rfl (lv_at hl 1 rfl) ?_
  refine lv_iload_n hx hb dX9_step_2 rfl (lv_at hl 2 rfl) ?_
  obtain ⟨hk1, hf⟩ := zc_s hf
  obtain ⟨r2, σ3, hcr2, hf⟩ := zq_s hf
  refine xV (As := [.int v1, .int v2]) (rest := []) (st1 := [.int r2]) E hR hS hl (C_X9_followed hcr2) hk1 ok9 lb_X9_followed lv_X9_followed ml_X9_283 ⟨Nat.le_of_ble_eq_true rfl, Nat.le_of_ble_eq_true rfl⟩ rfl rfl rfl (Nat.le_of_ble_eq_true rfl) dX9_step_3 ⟨hc, hs⟩ (fun H locs hR hS => ?_)
  obtain ⟨hr1, hs1⟩ := Prod.mk.inj (Option.some.inj hf)
  exact xr_i E hR hS rfl (by rw [hr1]) hs1.symm hc hs dX9_step_6
theorem C_X9_step {g : GG} {v0 : Nat} {v1 : Int32} {v2 : Int32} {σ : Mm} {r : Int32} {σ' : Mm} (hf : f_X9_step v0 v1 v2 σ = some (r, σ')) : Ct g yX9_step cX9_step 3 (some .int) rm_X9_step [.ref (gB g + v0), .int v1, .int v2] σ (some (.int r)) σ' :=
  Ct.of false (by decide +kernel) (fun h => by cases h) (Nat.le_of_ble_eq_true rfl) (V_X9_step_0 _ _ _ _ _ _ hf)
abbrev rm_X9_follow : Room := { frames := 5, cells := 0, slots := 0, locals := 121 }
set_option maxRecDepth 100000 in
def f_X9_follow (v0 : Nat) (v1 : Int32) (v2 : Int32) (σ : Mm) : Option (Int32 × Mm) :=
  zck (kO σ v0 9) (zcb (f_X9_followed v0 v1 v2 σ) (fun r2 σ3 => if 0 ≤ r2 then (zck (kO σ3 v0 9) (zcb (f_X9_takeTrust v0 r2 σ3) (fun r6 σ7 => some (r6, σ7)))) else (some (r2, σ3))))
set_option maxRecDepth 100000 in
set_option maxHeartbeats 4000000 in
theorem V_X9_follow_0 {g : GG} (v0 : Nat) (v1 : Int32) (v2 : Int32) (σ : Mm) (r : Int32) (σ' : Mm) (hf : f_X9_follow v0 v1 v2 σ = some (r, σ')) : VJ g RX9 cX9_follow 4 (some .int) false rm_X9_follow (some (.int r)) σ' (0) (0) 0 [(0, .ref (gB g + v0)), (1, .int v1), (2, .int v2)] [] σ := by
  intro p e s m args below meth c H locs cells slots ls E hR hS hl hc hs
  obtain ⟨hx, hb, hml, hr, hlocks, hown, hts, hin, hT⟩ := id E
  unfold f_X9_follow at hf
  refine lv_aload_n hx hb dX9_follow_0 rfl (lv_at hl 0 rfl) ?_
  refine lv_iload_n hx hb dX9_follow_1 rfl (lv_at hl 1 rfl) ?_
  refine lv_iload_n hx hb dX9_follow_2 rfl (lv_at hl 2 rfl) ?_
  obtain ⟨hk1, hf⟩ := zc_s hf
  obtain ⟨r2, σ3, hcr2, hf⟩ := zq_s hf
  refine xV (As := [.int v1, .int v2]) (rest := []) (st1 := [.int r2]) E hR hS hl (C_X9_followed hcr2) hk1 ok9 lb_X9_followed lv_X9_followed ml_X9_283 ⟨Nat.le_of_ble_eq_true rfl, Nat.le_of_ble_eq_true rfl⟩ rfl rfl rfl (Nat.le_of_ble_eq_true rfl) dX9_follow_3 ⟨hc, hs⟩ (fun H locs hR hS => ?_)
  refine lv_istore_n (lv' := [(3, .int r2), (0, .ref (gB g + v0)), (1, .int v1), (2, .int v2)]) hx hb dX9_follow_6 rfl hl (Nat.le_of_ble_eq_true rfl) rfl (fun ls hl => ?_)
  refine lv_iload_n hx hb dX9_follow_7 rfl (lv_at hl 0 rfl) ?_
  refine lv_if_ge (tgt := 15) hx hb dX9_follow_8 (by decide) (fun hq4 => ?_) (fun hq4 => ?_)
  · have hf := ite_p hq4 hf
    refine lv_aload_n hx hb dX9_follow_15 rfl (lv_at hl 1 rfl) ?_
    refine lv_iload_n hx hb dX9_follow_16 rfl (lv_at hl 0 rfl) ?_
    obtain ⟨hk5, hf⟩ := zc_s hf
    obtain ⟨r6, σ7, hcr6, hf⟩ := zq_s hf
    refine xV (As := [.int r2]) (rest := []) (st1 := [.int r6]) E hR hS hl (C_X9_takeTrust hcr6) hk5 ok9 lb_X9_takeTrust lv_X9_takeTrust ml_X9_234 ⟨Nat.le_of_ble_eq_true rfl, Nat.le_of_ble_eq_true rfl⟩ rfl rfl rfl (Nat.le_of_ble_eq_true rfl) dX9_follow_17 ⟨hc, hs⟩ (fun H locs hR hS => ?_)
    obtain ⟨hr1, hs1⟩ := Prod.mk.inj (Option.some.inj hf)
    exact xr_i E hR hS rfl (by rw [hr1]) hs1.symm hc hs dX9_follow_20
  · have hf := ite_n hq4 hf
    refine lv_iload_n hx hb dX9_follow_11 rfl (lv_at hl 0 rfl) ?_
    refine lv_goto (tgt := 20) hx hb dX9_follow_12 (by decide) ?_
    obtain ⟨hr1, hs1⟩ := Prod.mk.inj (Option.some.inj hf)
    exact xr_i E hR hS rfl (by rw [hr1]) hs1.symm hc hs dX9_follow_20
theorem C_X9_follow {g : GG} {v0 : Nat} {v1 : Int32} {v2 : Int32} {σ : Mm} {r : Int32} {σ' : Mm} (hf : f_X9_follow v0 v1 v2 σ = some (r, σ')) : Ct g yX9_follow cX9_follow 4 (some .int) rm_X9_follow [.ref (gB g + v0), .int v1, .int v2] σ (some (.int r)) σ' :=
  Ct.of false (by decide +kernel) (fun h => by cases h) (Nat.le_of_ble_eq_true rfl) (V_X9_follow_0 _ _ _ _ _ _ hf)
abbrev rm_X9_judged : Room := { frames := 5, cells := 0, slots := 0, locals := 123 }
set_option maxRecDepth 100000 in
def f_X9_judged (v0 : Nat) (v1 : Int32) (v2 : Int32) (v3 : Int32) (σ : Mm) : Option (Int32 × Mm) :=
  if v1 = (1 : Int32) then (zck (kO σ v0 9) (zrb (mR σ v0 1) (fun b4 => zcb (f_X9_mayPut b4 v2 σ) (fun r5 σ6 => if r5 = 0 then (some ((0 : Int32), σ6)) else (zck (kO σ6 v0 9) (zrb (mR σ6 v0 1) (fun b9 => zck (kA σ6 1 b9 v2) (zlt (sD σ6 b9 (ix v2) v3) (fun σ11 => some ((1 : Int32), σ11)))))))))) else (if v1 = (2 : Int32) then (zck (kO σ v0 9) (zrb (mR σ v0 1) (fun b14 => zck (kA σ 1 b14 v2) (if (mD σ b14 (ix v2)) = (-9 : Int32) then (some ((0 : Int32), σ)) else (if v3 = 0 then (zck (kA σ 1 b14 v2) (zlt (sD σ b14 (ix v2) (-9 : Int32)) (fun σ19 => some ((1 : Int32), σ19)))) else (some ((0 : Int32), σ))))))) else (if v1 = (3 : Int32) then (zck (kO σ v0 9) (zrb (mR σ v0 1) (fun b22 => zck (kA σ 1 b22 v2) (if (mD σ b22 (ix v2)) = v3 then (some ((1 : Int32), σ)) else (some ((0 : Int32), σ)))))) else (if v1 = (4 : Int32) then (zck (kO σ v0 9) (zrb (mR σ v0 1) (fun b27 => zcb (f_X9_make v0 b27 (0 : Int32) σ) (fun r28 σ29 => zck (kO σ29 v0 9) (zrb (mR σ29 v0 1) (fun b31 => zck (kA σ29 1 b31 v2) (if (mD σ29 b31 (ix v2)) = (-9 : Int32) then (some ((0 : Int32), σ29)) else (zrb (mR σ29 v0 10) (fun b34 => zck (kA σ29 1 b34 v2) (if (mD σ29 b34 (ix v2)) = v3 then (some ((1 : Int32), σ29)) else (some ((0 : Int32), σ29)))))))))))) else (if v1 = (5 : Int32) then (zck (kO σ v0 9) (zrb (mR σ v0 1) (fun b39 => zcb (f_X9_prove v0 b39 v2 v2 σ) (fun r40 σ41 => zck (kO σ41 v0 9) (if (mD σ41 v0 23) = v3 then (some ((1 : Int32), σ41)) else (some ((0 : Int32), σ41))))))) else (some ((0 : Int32), σ))))))
set_option maxRecDepth 100000 in
set_option maxHeartbeats 4000000 in
theorem V_X9_judged_0 {g : GG} (v0 : Nat) (v1 : Int32) (v2 : Int32) (v3 : Int32) (σ : Mm) (r : Int32) (σ' : Mm) (hf : f_X9_judged v0 v1 v2 v3 σ = some (r, σ')) : VJ g RX9 cX9_judged 4 (some .boolean) false rm_X9_judged (some (.int r)) σ' (0) (0) 0 [(0, .ref (gB g + v0)), (1, .int v1), (2, .int v2), (3, .int v3)] [] σ := by
  intro p e s m args below meth c H locs cells slots ls E hR hS hl hc hs
  obtain ⟨hx, hb, hml, hr, hlocks, hown, hts, hin, hT⟩ := id E
  unfold f_X9_judged at hf
  refine lv_iload_n hx hb dX9_judged_0 rfl (lv_at hl 1 rfl) ?_
  refine lv_topi (fun x1 ex => ?_)
  subst ex
  by_cases hq2 : x1 = (1 : Int32)
  · have hf := ite_p hq2 hf
    refine lv_tableIn (tgt := 36) (off := 35) hx hb dX9_judged_1 (by rw [hq2]; decide) (by rw [hq2]; decide) (by rw [hq2]; decide) (by decide) ?_
    refine lv_aload_n hx hb dX9_judged_36 rfl (lv_at hl 0 rfl) ?_
    obtain ⟨hk3, hf⟩ := zc_s hf
    obtain ⟨b4, hb4, hf⟩ := zr_s hf
    refine x_getR E hR hk3 hb4 ok9 (Nat.le_of_ble_eq_true rfl) rfl fl_X9_13 dX9_judged_37 ?_
    refine lv_iload_n hx hb dX9_judged_40 rfl (lv_at hl 2 rfl) ?_
    obtain ⟨r5, σ6, hcr5, hf⟩ := zq_s hf
    refine xS (As := [.ref (gB g + b4), .int v2]) (rest := []) (st1 := [.int r5]) E hR hS hl (C_X9_mayPut hcr5) lb_X9_mayPut ls_X9_mayPut ml_X9_179 ⟨Nat.le_of_ble_eq_true rfl, Nat.le_of_ble_eq_true rfl⟩ rfl rfl rfl (Nat.le_of_ble_eq_true rfl) dX9_judged_41 ⟨hc, hs⟩ (fun H locs hR hS => ?_)
    refine lv_if_ne (tgt := 49) hx hb dX9_judged_44 (by decide) (fun hq7 => ?_) (fun hq7 => ?_)
    · have hf := ite_n hq7 hf
      refine lv_aload_n hx hb dX9_judged_49 rfl (lv_at hl 0 rfl) ?_
      obtain ⟨hk8, hf⟩ := zc_s hf
      obtain ⟨b9, hb9, hf⟩ := zr_s hf
      refine x_getR E hR hk8 hb9 ok9 (Nat.le_of_ble_eq_true rfl) rfl fl_X9_13 dX9_judged_50 ?_
      refine lv_iload_n hx hb dX9_judged_53 rfl (lv_at hl 2 rfl) ?_
      refine lv_iload_n hx hb dX9_judged_54 rfl (lv_at hl 3 rfl) ?_
      obtain ⟨hk10, hf⟩ := zc_s hf
      obtain ⟨σ11, eσ11, hf⟩ := zl_s hf
      refine x_ist E hR hS hk10 dX9_judged_55 (fun H locs hR hS => ?_)
      rw [← eσ11] at hR
      refine lv_iconst (v := (1 : Int32)) hx hb dX9_judged_56 rfl ?_
      obtain ⟨hr1, hs1⟩ := Prod.mk.inj (Option.some.inj hf)
      exact xr_z E hR hS rfl rfl (by rw [hr1]) hs1.symm hc hs dX9_judged_57
    · have hf := ite_p hq7 hf
      refine lv_iconst (v := (0 : Int32)) hx hb dX9_judged_47 rfl ?_
      obtain ⟨hr1, hs1⟩ := Prod.mk.inj (Option.some.inj hf)
      exact xr_z E hR hS rfl rfl (by rw [hr1]) hs1.symm hc hs dX9_judged_48
  have hf := ite_n hq2 hf
  by_cases hq12 : x1 = (2 : Int32)
  · have hf := ite_p hq12 hf
    refine lv_tableIn (tgt := 58) (off := 57) hx hb dX9_judged_1 (by rw [hq12]; decide) (by rw [hq12]; decide) (by rw [hq12]; decide) (by decide) ?_
    refine lv_aload_n hx hb dX9_judged_58 rfl (lv_at hl 0 rfl) ?_
    obtain ⟨hk13, hf⟩ := zc_s hf
    obtain ⟨b14, hb14, hf⟩ := zr_s hf
    refine x_getR E hR hk13 hb14 ok9 (Nat.le_of_ble_eq_true rfl) rfl fl_X9_13 dX9_judged_59 ?_
    refine lv_iload_n hx hb dX9_judged_62 rfl (lv_at hl 2 rfl) ?_
    obtain ⟨hk15, hf⟩ := zc_s hf
    refine x_ild E hR hk15 dX9_judged_63 ?_
    refine lv_bipush (v := (-9 : Int32)) hx hb dX9_judged_64 rfl ?_
    refine lv_icmp_eq (tgt := 73) hx hb dX9_judged_66 (by decide) (fun hq16 => ?_) (fun hq16 => ?_)
    · have hf := ite_p hq16 hf
      refine lv_iconst (v := (0 : Int32)) hx hb dX9_judged_73 rfl ?_
      obtain ⟨hr1, hs1⟩ := Prod.mk.inj (Option.some.inj hf)
      exact xr_z E hR hS rfl rfl (by rw [hr1]) hs1.symm hc hs dX9_judged_74
    · have hf := ite_n hq16 hf
      refine lv_iload_n hx hb dX9_judged_69 rfl (lv_at hl 3 rfl) ?_
      refine lv_if_eq (tgt := 75) hx hb dX9_judged_70 (by decide) (fun hq17 => ?_) (fun hq17 => ?_)
      · have hf := ite_p hq17 hf
        refine lv_aload_n hx hb dX9_judged_75 rfl (lv_at hl 0 rfl) ?_
        refine x_getR E hR hk13 hb14 ok9 (Nat.le_of_ble_eq_true rfl) rfl fl_X9_13 dX9_judged_76 ?_
        refine lv_iload_n hx hb dX9_judged_79 rfl (lv_at hl 2 rfl) ?_
        refine lv_bipush (v := (-9 : Int32)) hx hb dX9_judged_80 rfl ?_
        obtain ⟨hk18, hf⟩ := zc_s hf
        obtain ⟨σ19, eσ19, hf⟩ := zl_s hf
        refine x_ist E hR hS hk18 dX9_judged_82 (fun H locs hR hS => ?_)
        rw [← eσ19] at hR
        refine lv_iconst (v := (1 : Int32)) hx hb dX9_judged_83 rfl ?_
        obtain ⟨hr1, hs1⟩ := Prod.mk.inj (Option.some.inj hf)
        exact xr_z E hR hS rfl rfl (by rw [hr1]) hs1.symm hc hs dX9_judged_84
      · have hf := ite_n hq17 hf
        refine lv_iconst (v := (0 : Int32)) hx hb dX9_judged_73 rfl ?_
        obtain ⟨hr1, hs1⟩ := Prod.mk.inj (Option.some.inj hf)
        exact xr_z E hR hS rfl rfl (by rw [hr1]) hs1.symm hc hs dX9_judged_74
  have hf := ite_n hq12 hf
  by_cases hq20 : x1 = (3 : Int32)
  · have hf := ite_p hq20 hf
    refine lv_tableIn (tgt := 85) (off := 84) hx hb dX9_judged_1 (by rw [hq20]; decide) (by rw [hq20]; decide) (by rw [hq20]; decide) (by decide) ?_
    refine lv_aload_n hx hb dX9_judged_85 rfl (lv_at hl 0 rfl) ?_
    obtain ⟨hk21, hf⟩ := zc_s hf
    obtain ⟨b22, hb22, hf⟩ := zr_s hf
    refine x_getR E hR hk21 hb22 ok9 (Nat.le_of_ble_eq_true rfl) rfl fl_X9_13 dX9_judged_86 ?_
    refine lv_iload_n hx hb dX9_judged_89 rfl (lv_at hl 2 rfl) ?_
    obtain ⟨hk23, hf⟩ := zc_s hf
    refine x_ild E hR hk23 dX9_judged_90 ?_
    refine lv_iload_n hx hb dX9_judged_91 rfl (lv_at hl 3 rfl) ?_
    refine lv_icmp_ne (tgt := 99) hx hb dX9_judged_92 (by decide) (fun hq24 => ?_) (fun hq24 => ?_)
    · have hf := ite_n hq24 hf
      refine lv_iconst (v := (0 : Int32)) hx hb dX9_judged_99 rfl ?_
      obtain ⟨hr1, hs1⟩ := Prod.mk.inj (Option.some.inj hf)
      exact xr_z E hR hS rfl rfl (by rw [hr1]) hs1.symm hc hs dX9_judged_100
    · have hf := ite_p hq24 hf
      refine lv_iconst (v := (1 : Int32)) hx hb dX9_judged_95 rfl ?_
      refine lv_goto (tgt := 100) hx hb dX9_judged_96 (by decide) ?_
      obtain ⟨hr1, hs1⟩ := Prod.mk.inj (Option.some.inj hf)
      exact xr_z E hR hS rfl rfl (by rw [hr1]) hs1.symm hc hs dX9_judged_100
  have hf := ite_n hq20 hf
  by_cases hq25 : x1 = (4 : Int32)
  · have hf := ite_p hq25 hf
    refine lv_tableIn (tgt := 101) (off := 100) hx hb dX9_judged_1 (by rw [hq25]; decide) (by rw [hq25]; decide) (by rw [hq25]; decide) (by decide) ?_
    refine lv_aload_n hx hb dX9_judged_101 rfl (lv_at hl 0 rfl) ?_
    refine lv_aload_n hx hb dX9_judged_102 rfl (lv_at hl 0 rfl) ?_
    obtain ⟨hk26, hf⟩ := zc_s hf
    obtain ⟨b27, hb27, hf⟩ := zr_s hf
    refine x_getR E hR hk26 hb27 ok9 (Nat.le_of_ble_eq_true rfl) rfl fl_X9_13 dX9_judged_103 ?_
    refine lv_iconst (v := (0 : Int32)) hx hb dX9_judged_106 rfl ?_
    obtain ⟨r28, σ29, hcr28, hf⟩ := zq_s hf
    refine xV (As := [.ref (gB g + b27), .int (0 : Int32)]) (rest := []) (st1 := []) E hR hS hl (C_X9_make hcr28) hk26 ok9 lb_X9_make lv_X9_make ml_X9_165 ⟨Nat.le_of_ble_eq_true rfl, Nat.le_of_ble_eq_true rfl⟩ rfl rfl rfl (Nat.le_of_ble_eq_true rfl) dX9_judged_107 ⟨hc, hs⟩ (fun H locs hR hS => ?_)
    refine lv_aload_n hx hb dX9_judged_110 rfl (lv_at hl 0 rfl) ?_
    obtain ⟨hk30, hf⟩ := zc_s hf
    obtain ⟨b31, hb31, hf⟩ := zr_s hf
    refine x_getR E hR hk30 hb31 ok9 (Nat.le_of_ble_eq_true rfl) rfl fl_X9_13 dX9_judged_111 ?_
    refine lv_iload_n hx hb dX9_judged_114 rfl (lv_at hl 2 rfl) ?_
    obtain ⟨hk32, hf⟩ := zc_s hf
    refine x_ild E hR hk32 dX9_judged_115 ?_
    refine lv_bipush (v := (-9 : Int32)) hx hb dX9_judged_116 rfl ?_
    refine lv_icmp_eq (tgt := 135) hx hb dX9_judged_118 (by decide) (fun hq33 => ?_) (fun hq33 => ?_)
    · have hf := ite_p hq33 hf
      refine lv_iconst (v := (0 : Int32)) hx hb dX9_judged_135 rfl ?_
      obtain ⟨hr1, hs1⟩ := Prod.mk.inj (Option.some.inj hf)
      exact xr_z E hR hS rfl rfl (by rw [hr1]) hs1.symm hc hs dX9_judged_136
    · have hf := ite_n hq33 hf
      refine lv_aload_n hx hb dX9_judged_121 rfl (lv_at hl 0 rfl) ?_
      obtain ⟨b34, hb34, hf⟩ := zr_s hf
      refine x_getR E hR hk30 hb34 ok9 (Nat.le_of_ble_eq_true rfl) rfl fl_X9_35 dX9_judged_122 ?_
      refine lv_iload_n hx hb dX9_judged_125 rfl (lv_at hl 2 rfl) ?_
      obtain ⟨hk35, hf⟩ := zc_s hf
      refine x_ild E hR hk35 dX9_judged_126 ?_
      refine lv_iload_n hx hb dX9_judged_127 rfl (lv_at hl 3 rfl) ?_
      refine lv_icmp_ne (tgt := 135) hx hb dX9_judged_128 (by decide) (fun hq36 => ?_) (fun hq36 => ?_)
      · have hf := ite_n hq36 hf
        refine lv_iconst (v := (0 : Int32)) hx hb dX9_judged_135 rfl ?_
        obtain ⟨hr1, hs1⟩ := Prod.mk.inj (Option.some.inj hf)
        exact xr_z E hR hS rfl rfl (by rw [hr1]) hs1.symm hc hs dX9_judged_136
      · have hf := ite_p hq36 hf
        refine lv_iconst (v := (1 : Int32)) hx hb dX9_judged_131 rfl ?_
        refine lv_goto (tgt := 136) hx hb dX9_judged_132 (by decide) ?_
        obtain ⟨hr1, hs1⟩ := Prod.mk.inj (Option.some.inj hf)
        exact xr_z E hR hS rfl rfl (by rw [hr1]) hs1.symm hc hs dX9_judged_136
  have hf := ite_n hq25 hf
  by_cases hq37 : x1 = (5 : Int32)
  · have hf := ite_p hq37 hf
    refine lv_tableIn (tgt := 137) (off := 136) hx hb dX9_judged_1 (by rw [hq37]; decide) (by rw [hq37]; decide) (by rw [hq37]; decide) (by decide) ?_
    refine lv_aload_n hx hb dX9_judged_137 rfl (lv_at hl 0 rfl) ?_
    refine lv_aload_n hx hb dX9_judged_138 rfl (lv_at hl 0 rfl) ?_
    obtain ⟨hk38, hf⟩ := zc_s hf
    obtain ⟨b39, hb39, hf⟩ := zr_s hf
    refine x_getR E hR hk38 hb39 ok9 (Nat.le_of_ble_eq_true rfl) rfl fl_X9_13 dX9_judged_139 ?_
    refine lv_iload_n hx hb dX9_judged_142 rfl (lv_at hl 2 rfl) ?_
    refine lv_iload_n hx hb dX9_judged_143 rfl (lv_at hl 2 rfl) ?_
    obtain ⟨r40, σ41, hcr40, hf⟩ := zq_s hf
    refine xV (As := [.ref (gB g + b39), .int v2, .int v2]) (rest := []) (st1 := []) E hR hS hl (C_X9_prove hcr40) hk38 ok9 lb_X9_prove lv_X9_prove ml_X9_223 ⟨Nat.le_of_ble_eq_true rfl, Nat.le_of_ble_eq_true rfl⟩ rfl rfl rfl (Nat.le_of_ble_eq_true rfl) dX9_judged_144 ⟨hc, hs⟩ (fun H locs hR hS => ?_)
    refine lv_aload_n hx hb dX9_judged_147 rfl (lv_at hl 0 rfl) ?_
    obtain ⟨hk42, hf⟩ := zc_s hf
    refine x_getI E hR hk42 ok9 23 (Nat.le_of_ble_eq_true rfl) rfl fl_X9_211 dX9_judged_148 ?_
    refine lv_iload_n hx hb dX9_judged_151 rfl (lv_at hl 3 rfl) ?_
    refine lv_icmp_ne (tgt := 159) hx hb dX9_judged_152 (by decide) (fun hq43 => ?_) (fun hq43 => ?_)
    · have hf := ite_n hq43 hf
      refine lv_iconst (v := (0 : Int32)) hx hb dX9_judged_159 rfl ?_
      obtain ⟨hr1, hs1⟩ := Prod.mk.inj (Option.some.inj hf)
      exact xr_z E hR hS rfl rfl (by rw [hr1]) hs1.symm hc hs dX9_judged_160
    · have hf := ite_p hq43 hf
      refine lv_iconst (v := (1 : Int32)) hx hb dX9_judged_155 rfl ?_
      refine lv_goto (tgt := 160) hx hb dX9_judged_156 (by decide) ?_
      obtain ⟨hr1, hs1⟩ := Prod.mk.inj (Option.some.inj hf)
      exact xr_z E hR hS rfl rfl (by rw [hr1]) hs1.symm hc hs dX9_judged_160
  have hf := ite_n hq37 hf
  refine lv_tableOut (tgt := 161) hx hb dX9_judged_1 (sw_out (fun j h1 h2 => by
      have hj : j = 1 ∨ j = 2 ∨ j = 3 ∨ j = 4 ∨ j = 5 := by omega
      rcases hj with rfl | rfl | rfl | rfl | rfl
      · exact hq2
      · exact hq12
      · exact hq20
      · exact hq25
      · exact hq37
      )) (by decide) ?_
  refine lv_iconst (v := (0 : Int32)) hx hb dX9_judged_161 rfl ?_
  obtain ⟨hr1, hs1⟩ := Prod.mk.inj (Option.some.inj hf)
  exact xr_z E hR hS rfl rfl (by rw [hr1]) hs1.symm hc hs dX9_judged_162
theorem C_X9_judged {g : GG} {v0 : Nat} {v1 : Int32} {v2 : Int32} {v3 : Int32} {σ : Mm} {r : Int32} {σ' : Mm} (hf : f_X9_judged v0 v1 v2 v3 σ = some (r, σ')) : Ct g yX9_judged cX9_judged 4 (some .boolean) rm_X9_judged [.ref (gB g + v0), .int v1, .int v2, .int v3] σ (some (.int r)) σ' :=
  Ct.of false (by decide +kernel) (fun h => by cases h) (Nat.le_of_ble_eq_true rfl) (V_X9_judged_0 _ _ _ _ _ _ _ hf)
abbrev rm_X9_hundredThousands : Room := { frames := 0, cells := 0, slots := 0, locals := 0 }
set_option maxRecDepth 100000 in
def f_X9_hundredThousands_4 : Nat → Int32 → Int64 → Int32 → Mm → Option (Int64 × Mm)
  | 0, _, _, _, _ => none
  | n + 1, v0, v1, v3, σ =>
    if v0 ≤ v3 then (some (v1, σ)) else (f_X9_hundredThousands_4 n v0 (v1 * (100000 : Int64)) (v3 + (1 : Int32)) σ)
set_option maxRecDepth 100000 in
set_option maxHeartbeats 4000000 in
theorem V_X9_hundredThousands_4 {g : GG} : ∀ (n : Nat) (v0 : Int32) (v1 : Int64) (v3 : Int32) (σ : Mm) (r : Int64) (σ' : Mm), f_X9_hundredThousands_4 n v0 v1 v3 σ = some (r, σ') → VJ g RX9 cX9_hundredThousands 4 (some .long) false rm_X9_hundredThousands (some (.long r)) σ' (0) (0) 4 [(0, .int v0), (1, .long v1), (3, .int v3)] [] σ := by
  intro n
  induction n with
  | zero =>
    intro v0 v1 v3 σ r σ' hf
    unfold f_X9_hundredThousands_4 at hf
    cases hf
  | succ n ih =>
    intro v0 v1 v3 σ r σ' hf p e s m args below meth c H locs cells slots ls E hR hS hl hc hs
    obtain ⟨hx, hb, hml, hr, hlocks, hown, hts, hin, hT⟩ := id E
    unfold f_X9_hundredThousands_4 at hf
    refine lv_iload_n hx hb dX9_hundredThousands_4 rfl (lv_at hl 2 rfl) ?_
    refine lv_iload_n hx hb dX9_hundredThousands_5 rfl (lv_at hl 0 rfl) ?_
    refine lv_icmp_ge (tgt := 21) hx hb dX9_hundredThousands_6 (by decide) (fun hq1 => ?_) (fun hq1 => ?_)
    · have hf := ite_p hq1 hf
      refine lv_lload_n hx hb dX9_hundredThousands_21 rfl (lv_at hl 1 rfl) ?_
      obtain ⟨hr1, hs1⟩ := Prod.mk.inj (Option.some.inj hf)
      exact xr_l E hR hS rfl (by rw [hr1]) hs1.symm hc hs dX9_hundredThousands_22
    · have hf := ite_n hq1 hf
      refine lv_lload_n hx hb dX9_hundredThousands_9 rfl (lv_at hl 1 rfl) ?_
      refine lv_ldc2 (v := (100000 : Int64)) hx hb hown (hts _ kl_X9_286) dX9_hundredThousands_10 ?_
      refine lv_lmul hx hb dX9_hundredThousands_13 ?_
      refine lv_lstore_n (lv' := [(1, .long (v1 * (100000 : Int64))), (0, .int v0), (3, .int v3)]) hx hb dX9_hundredThousands_14 rfl hl (Nat.le_of_ble_eq_true rfl) rfl (fun ls hl => ?_)
      refine lv_iinc (v := (v3 + (1 : Int32))) (lv' := [(3, .int (v3 + (1 : Int32))), (1, .long (v1 * (100000 : Int64))), (0, .int v0)]) hx hb dX9_hundredThousands_15 hl (k := 2) rfl rfl (Nat.le_of_ble_eq_true rfl) rfl (fun ls hl => ?_)
      refine lv_goto (tgt := 4) hx hb dX9_hundredThousands_18 (by decide) ?_
      exact ih _ _ _ _ _ _ hf p e s m args below meth c _ _ _ _ _ E hR hS (lv_sub hl [2, 1, 0] rfl) hc hs
set_option maxRecDepth 100000 in
def f_X9_hundredThousands (v0 : Int32) (σ : Mm) : Option (Int64 × Mm) :=
  f_X9_hundredThousands_4 1000 v0 (1 : Int64) (0 : Int32) σ
set_option maxRecDepth 100000 in
set_option maxHeartbeats 4000000 in
theorem V_X9_hundredThousands_0 {g : GG} (v0 : Int32) (σ : Mm) (r : Int64) (σ' : Mm) (hf : f_X9_hundredThousands v0 σ = some (r, σ')) : VJ g RX9 cX9_hundredThousands 4 (some .long) false rm_X9_hundredThousands (some (.long r)) σ' (0) (0) 0 [(0, .int v0)] [] σ := by
  intro p e s m args below meth c H locs cells slots ls E hR hS hl hc hs
  obtain ⟨hx, hb, hml, hr, hlocks, hown, hts, hin, hT⟩ := id E
  unfold f_X9_hundredThousands at hf
  refine lv_lconst (v := (1 : Int64)) hx hb dX9_hundredThousands_0 rfl ?_
  refine lv_lstore_n (lv' := [(1, .long (1 : Int64)), (0, .int v0)]) hx hb dX9_hundredThousands_1 rfl hl (Nat.le_of_ble_eq_true rfl) rfl (fun ls hl => ?_)
  refine lv_iconst (v := (0 : Int32)) hx hb dX9_hundredThousands_2 rfl ?_
  refine lv_istore_n (lv' := [(3, .int (0 : Int32)), (1, .long (1 : Int64)), (0, .int v0)]) hx hb dX9_hundredThousands_3 rfl hl (Nat.le_of_ble_eq_true rfl) rfl (fun ls hl => ?_)
  exact V_X9_hundredThousands_4  1000 _ _ _ _ _ _ hf p e s m args below meth c _ _ _ _ _ E hR hS (lv_sub hl [2, 1, 0] rfl) hc hs
theorem C_X9_hundredThousands {g : GG} {v0 : Int32} {σ : Mm} {r : Int64} {σ' : Mm} (hf : f_X9_hundredThousands v0 σ = some (r, σ')) : Ct g yX9_hundredThousands cX9_hundredThousands 4 (some .long) rm_X9_hundredThousands [.int v0] σ (some (.long r)) σ' :=
  Ct.of false (by decide +kernel) (fun h => by cases h) (Nat.le_of_ble_eq_true rfl) (V_X9_hundredThousands_0 _ _ _ _ hf)
abbrev rm_X9_judge : Room := { frames := 6, cells := 0, slots := 0, locals := 146 }
set_option maxRecDepth 100000 in
def f_X9_judge_62 : Nat → Nat → Int32 → Int64 → Int32 → Mm → Option (Int32 × Mm)
  | 0, _, _, _, _, _ => none
  | n + 1, v0, v1, v2, v4, σ =>
    if v1 ≤ v4 then (some ((-9 : Int32), σ)) else (zcb (f_X9_hundredThousands ((v1 - (1 : Int32)) - v4) σ) (fun r2 σ3 => zck (decide (¬ r2 = 0)) (zck (kO σ3 v0 9) (zcb (f_X9_judged v0 (((((v2 / r2) - (v2 / r2) / (100000 : Int64) * (100000 : Int64))).toInt32) / (10000 : Int32)) ((((((v2 / r2) - (v2 / r2) / (100000 : Int64) * (100000 : Int64))).toInt32) / (100 : Int32)) - (((((v2 / r2) - (v2 / r2) / (100000 : Int64) * (100000 : Int64))).toInt32) / (100 : Int32)) / (100 : Int32) * (100 : Int32)) (((((v2 / r2) - (v2 / r2) / (100000 : Int64) * (100000 : Int64))).toInt32) - ((((v2 / r2) - (v2 / r2) / (100000 : Int64) * (100000 : Int64))).toInt32) / (100 : Int32) * (100 : Int32)) σ3) (fun r6 σ7 => if r6 = 0 then (some (v4, σ7)) else (f_X9_judge_62 n v0 v1 v2 (v4 + (1 : Int32)) σ7))))))
set_option maxRecDepth 100000 in
set_option maxHeartbeats 4000000 in
theorem V_X9_judge_62 {g : GG} : ∀ (n : Nat) (v0 : Nat) (v1 : Int32) (v2 : Int64) (v4 : Int32) (σ : Mm) (r : Int32) (σ' : Mm), f_X9_judge_62 n v0 v1 v2 v4 σ = some (r, σ') → VJ g RX9 cX9_judge 6 (some .int) false rm_X9_judge (some (.int r)) σ' (0) (0) 62 [(0, .ref (gB g + v0)), (1, .int v1), (2, .long v2), (4, .int v4)] [] σ := by
  intro n
  induction n with
  | zero =>
    intro v0 v1 v2 v4 σ r σ' hf
    unfold f_X9_judge_62 at hf
    cases hf
  | succ n ih =>
    intro v0 v1 v2 v4 σ r σ' hf p e s m args below meth c H locs cells slots ls E hR hS hl hc hs
    obtain ⟨hx, hb, hml, hr, hlocks, hown, hts, hin, hT⟩ := id E
    unfold f_X9_judge_62 at hf
    refine lv_iload hx hb dX9_judge_62 (lv_at hl 3 rfl) ?_
    refine lv_iload_n hx hb dX9_judge_64 rfl (lv_at hl 1 rfl) ?_
    refine lv_icmp_ge (tgt := 121) hx hb dX9_judge_65 (by decide) (fun hq1 => ?_) (fun hq1 => ?_)
    · have hf := ite_p hq1 hf
      refine lv_bipush (v := (-9 : Int32)) hx hb dX9_judge_121 rfl ?_
      obtain ⟨hr1, hs1⟩ := Prod.mk.inj (Option.some.inj hf)
      exact xr_i E hR hS rfl (by rw [hr1]) hs1.symm hc hs dX9_judge_123
    · have hf := ite_n hq1 hf
      refine lv_lload_n hx hb dX9_judge_68 rfl (lv_at hl 2 rfl) ?_
      refine lv_iload_n hx hb dX9_judge_69 rfl (lv_at hl 1 rfl) ?_
      refine lv_iconst (v := (1 : Int32)) hx hb dX9_judge_70 rfl ?_
      refine lv_isub hx hb dX9_judge_71 ?_
      refine lv_iload hx hb dX9_judge_72 (lv_at hl 3 rfl) ?_
      refine lv_isub hx hb dX9_judge_74 ?_
      obtain ⟨r2, σ3, hcr2, hf⟩ := zq_s hf
      refine xS (As := [.int ((v1 - (1 : Int32)) - v4)]) (rest := [.long v2]) (st1 := [.long r2, .long v2]) E hR hS hl (C_X9_hundredThousands hcr2) lb_X9_hundredThousands ls_X9_hundredThousands ml_X9_288 ⟨Nat.le_of_ble_eq_true rfl, Nat.le_of_ble_eq_true rfl⟩ rfl rfl rfl (Nat.le_of_ble_eq_true rfl) dX9_judge_75 ⟨hc, hs⟩ (fun H locs hR hS => ?_)
      obtain ⟨hd4, hf⟩ := zc_s hf
      refine lv_ldiv hx hb dX9_judge_78 (of_decide_eq_true hd4) ?_
      refine lv_ldc2 (v := (100000 : Int64)) hx hb hown (hts _ kl_X9_286) dX9_judge_79 ?_
      refine lv_lrem hx hb dX9_judge_82 (by decide) ?_
      refine lv_l2i (v := (((v2 / r2) - (v2 / r2) / (100000 : Int64) * (100000 : Int64))).toInt32) hx hb dX9_judge_83 rfl ?_
      refine lv_istore (lv' := [(5, .int ((((v2 / r2) - (v2 / r2) / (100000 : Int64) * (100000 : Int64))).toInt32)), (0, .ref (gB g + v0)), (1, .int v1), (2, .long v2), (4, .int v4)]) hx hb dX9_judge_84 hl (Nat.le_of_ble_eq_true rfl) rfl (fun ls hl => ?_)
      refine lv_aload_n hx hb dX9_judge_86 rfl (lv_at hl 1 rfl) ?_
      refine lv_iload hx hb dX9_judge_87 (lv_at hl 0 rfl) ?_
      refine lv_sipush (v := (10000 : Int32)) hx hb dX9_judge_89 rfl ?_
      refine lv_idiv hx hb dX9_judge_92 (by decide) ?_
      refine lv_iload hx hb dX9_judge_93 (lv_at hl 0 rfl) ?_
      refine lv_bipush (v := (100 : Int32)) hx hb dX9_judge_95 rfl ?_
      refine lv_idiv hx hb dX9_judge_97 (by decide) ?_
      refine lv_bipush (v := (100 : Int32)) hx hb dX9_judge_98 rfl ?_
      refine lv_irem hx hb dX9_judge_100 (by decide) ?_
      refine lv_iload hx hb dX9_judge_101 (lv_at hl 0 rfl) ?_
      refine lv_bipush (v := (100 : Int32)) hx hb dX9_judge_103 rfl ?_
      refine lv_irem hx hb dX9_judge_105 (by decide) ?_
      obtain ⟨hk5, hf⟩ := zc_s hf
      obtain ⟨r6, σ7, hcr6, hf⟩ := zq_s hf
      refine xV (As := [.int (((((v2 / r2) - (v2 / r2) / (100000 : Int64) * (100000 : Int64))).toInt32) / (10000 : Int32)), .int ((((((v2 / r2) - (v2 / r2) / (100000 : Int64) * (100000 : Int64))).toInt32) / (100 : Int32)) - (((((v2 / r2) - (v2 / r2) / (100000 : Int64) * (100000 : Int64))).toInt32) / (100 : Int32)) / (100 : Int32) * (100 : Int32)), .int (((((v2 / r2) - (v2 / r2) / (100000 : Int64) * (100000 : Int64))).toInt32) - ((((v2 / r2) - (v2 / r2) / (100000 : Int64) * (100000 : Int64))).toInt32) / (100 : Int32) * (100 : Int32))]) (rest := []) (st1 := [.int r6]) E hR hS hl (C_X9_judged hcr6) hk5 ok9 lb_X9_judged lv_X9_judged ml_X9_292 ⟨Nat.le_of_ble_eq_true rfl, Nat.le_of_ble_eq_true rfl⟩ rfl rfl rfl (Nat.le_of_ble_eq_true rfl) dX9_judge_106 ⟨hc, hs⟩ (fun H locs hR hS => ?_)
      refine lv_if_ne (tgt := 115) hx hb dX9_judge_109 (by decide) (fun hq8 => ?_) (fun hq8 => ?_)
      · have hf := ite_n hq8 hf
        refine lv_iinc (v := (v4 + (1 : Int32))) (lv' := [(4, .int (v4 + (1 : Int32))), (5, .int ((((v2 / r2) - (v2 / r2) / (100000 : Int64) * (100000 : Int64))).toInt32)), (0, .ref (gB g + v0)), (1, .int v1), (2, .long v2)]) hx hb dX9_judge_115 hl (k := 4) rfl rfl (Nat.le_of_ble_eq_true rfl) rfl (fun ls hl => ?_)
        refine lv_goto (tgt := 62) hx hb dX9_judge_118 (by decide) ?_
        exact ih _ _ _ _ _ _ _ hf p e s m args below meth c _ _ _ _ _ E hR hS (lv_sub hl [2, 3, 4, 0] rfl) hc hs
      · have hf := ite_p hq8 hf
        refine lv_iload hx hb dX9_judge_112 (lv_at hl 4 rfl) ?_
        obtain ⟨hr1, hs1⟩ := Prod.mk.inj (Option.some.inj hf)
        exact xr_i E hR hS rfl (by rw [hr1]) hs1.symm hc hs dX9_judge_114
set_option maxRecDepth 100000 in
def f_X9_judge_32 : Nat → Nat → Int32 → Int64 → Int32 → Mm → Option (Int32 × Mm)
  | 0, _, _, _, _, _ => none
  | n + 1, v0, v1, v2, v4, σ =>
    if (100 : Int32) ≤ v4 then (f_X9_judge_62 1000 v0 v1 v2 (0 : Int32) σ) else (zck (kO σ v0 9) (zrb (mR σ v0 1) (fun b11 => zrb (mR σ v0 0) (fun b12 => zck (kA σ 1 b12 v4) (zck (kA σ 1 b11 v4) (zlt (sD σ b11 (ix v4) (mD σ b12 (ix v4))) (fun σ15 => f_X9_judge_32 n v0 v1 v2 (v4 + (1 : Int32)) σ15)))))))
set_option maxRecDepth 100000 in
set_option maxHeartbeats 4000000 in
theorem V_X9_judge_32 {g : GG} : ∀ (n : Nat) (v0 : Nat) (v1 : Int32) (v2 : Int64) (v4 : Int32) (σ : Mm) (r : Int32) (σ' : Mm), f_X9_judge_32 n v0 v1 v2 v4 σ = some (r, σ') → VJ g RX9 cX9_judge 6 (some .int) false rm_X9_judge (some (.int r)) σ' (0) (0) 32 [(0, .ref (gB g + v0)), (1, .int v1), (2, .long v2), (4, .int v4)] [] σ := by
  intro n
  induction n with
  | zero =>
    intro v0 v1 v2 v4 σ r σ' hf
    unfold f_X9_judge_32 at hf
    cases hf
  | succ n ih =>
    intro v0 v1 v2 v4 σ r σ' hf p e s m args below meth c H locs cells slots ls E hR hS hl hc hs
    obtain ⟨hx, hb, hml, hr, hlocks, hown, hts, hin, hT⟩ := id E
    unfold f_X9_judge_32 at hf
    refine lv_iload hx hb dX9_judge_32 (lv_at hl 3 rfl) ?_
    refine lv_bipush (v := (100 : Int32)) hx hb dX9_judge_34 rfl ?_
    refine lv_icmp_ge (tgt := 59) hx hb dX9_judge_36 (by decide) (fun hq9 => ?_) (fun hq9 => ?_)
    · have hf := ite_p hq9 hf
      refine lv_iconst (v := (0 : Int32)) hx hb dX9_judge_59 rfl ?_
      refine lv_istore (lv' := [(4, .int (0 : Int32)), (0, .ref (gB g + v0)), (1, .int v1), (2, .long v2)]) hx hb dX9_judge_60 hl (Nat.le_of_ble_eq_true rfl) rfl (fun ls hl => ?_)
      exact V_X9_judge_62  1000 _ _ _ _ _ _ _ hf p e s m args below meth c _ _ _ _ _ E hR hS (lv_sub hl [1, 2, 3, 0] rfl) hc hs
    · have hf := ite_n hq9 hf
      refine lv_aload_n hx hb dX9_judge_39 rfl (lv_at hl 0 rfl) ?_
      obtain ⟨hk10, hf⟩ := zc_s hf
      obtain ⟨b11, hb11, hf⟩ := zr_s hf
      refine x_getR E hR hk10 hb11 ok9 (Nat.le_of_ble_eq_true rfl) rfl fl_X9_13 dX9_judge_40 ?_
      refine lv_iload hx hb dX9_judge_43 (lv_at hl 3 rfl) ?_
      refine lv_aload_n hx hb dX9_judge_45 rfl (lv_at hl 0 rfl) ?_
      obtain ⟨b12, hb12, hf⟩ := zr_s hf
      refine x_getR E hR hk10 hb12 ok9 (Nat.le_of_ble_eq_true rfl) rfl fl_X9_7 dX9_judge_46 ?_
      refine lv_iload hx hb dX9_judge_49 (lv_at hl 3 rfl) ?_
      obtain ⟨hk13, hf⟩ := zc_s hf
      refine x_ild E hR hk13 dX9_judge_51 ?_
      obtain ⟨hk14, hf⟩ := zc_s hf
      obtain ⟨σ15, eσ15, hf⟩ := zl_s hf
      refine x_ist E hR hS hk14 dX9_judge_52 (fun H locs hR hS => ?_)
      rw [← eσ15] at hR
      refine lv_iinc (v := (v4 + (1 : Int32))) (lv' := [(4, .int (v4 + (1 : Int32))), (0, .ref (gB g + v0)), (1, .int v1), (2, .long v2)]) hx hb dX9_judge_53 hl (k := 3) rfl rfl (Nat.le_of_ble_eq_true rfl) rfl (fun ls hl => ?_)
      refine lv_goto (tgt := 32) hx hb dX9_judge_56 (by decide) ?_
      exact ih _ _ _ _ _ _ _ hf p e s m args below meth c _ _ _ _ _ E hR hS (lv_sub hl [1, 2, 3, 0] rfl) hc hs
set_option maxRecDepth 100000 in
def f_X9_judge (v0 : Nat) (v1 : Int32) (v2 : Int64) (σ : Mm) : Option (Int32 × Mm) :=
  zcb (f_X9_in ((v1).toInt64) (1 : Int64) (3 : Int64) σ) (fun r16 σ17 => if r16 = 0 then (some ((-2 : Int32), σ17)) else (zcb (f_X9_hundredThousands v1 σ17) (fun r19 σ20 => zcb (f_X9_in v2 (0 : Int64) (r19 - (1 : Int64)) σ20) (fun r21 σ22 => if r21 = 0 then (some ((-2 : Int32), σ22)) else (f_X9_judge_32 1000 v0 v1 v2 (0 : Int32) σ22)))))
set_option maxRecDepth 100000 in
set_option maxHeartbeats 4000000 in
theorem V_X9_judge_0 {g : GG} (v0 : Nat) (v1 : Int32) (v2 : Int64) (σ : Mm) (r : Int32) (σ' : Mm) (hf : f_X9_judge v0 v1 v2 σ = some (r, σ')) : VJ g RX9 cX9_judge 6 (some .int) false rm_X9_judge (some (.int r)) σ' (0) (0) 0 [(0, .ref (gB g + v0)), (1, .int v1), (2, .long v2)] [] σ := by
  intro p e s m args below meth c H locs cells slots ls E hR hS hl hc hs
  obtain ⟨hx, hb, hml, hr, hlocks, hown, hts, hin, hT⟩ := id E
  unfold f_X9_judge at hf
  refine lv_iload_n hx hb dX9_judge_0 rfl (lv_at hl 1 rfl) ?_
  refine lv_i2l (v := (v1).toInt64) hx hb dX9_judge_1 rfl ?_
  refine lv_lconst (v := (1 : Int64)) hx hb dX9_judge_2 rfl ?_
  refine lv_ldc2 (v := (3 : Int64)) hx hb hown (hts _ kl_X9_129) dX9_judge_3 ?_
  obtain ⟨r16, σ17, hcr16, hf⟩ := zq_s hf
  refine xS (As := [.long ((v1).toInt64), .long (1 : Int64), .long (3 : Int64)]) (rest := []) (st1 := [.int r16]) E hR hS hl (C_X9_in hcr16) lb_X9_in ls_X9_in ml_X9_121 ⟨Nat.le_of_ble_eq_true rfl, Nat.le_of_ble_eq_true rfl⟩ rfl rfl rfl (Nat.le_of_ble_eq_true rfl) dX9_judge_6 ⟨hc, hs⟩ (fun H locs hR hS => ?_)
  refine lv_if_eq (tgt := 26) hx hb dX9_judge_9 (by decide) (fun hq18 => ?_) (fun hq18 => ?_)
  · have hf := ite_p hq18 hf
    refine lv_bipush (v := (-2 : Int32)) hx hb dX9_judge_26 rfl ?_
    obtain ⟨hr1, hs1⟩ := Prod.mk.inj (Option.some.inj hf)
    exact xr_i E hR hS rfl (by rw [hr1]) hs1.symm hc hs dX9_judge_28
  · have hf := ite_n hq18 hf
    refine lv_lload_n hx hb dX9_judge_12 rfl (lv_at hl 2 rfl) ?_
    refine lv_lconst (v := (0 : Int64)) hx hb dX9_judge_13 rfl ?_
    refine lv_iload_n hx hb dX9_judge_14 rfl (lv_at hl 1 rfl) ?_
    obtain ⟨r19, σ20, hcr19, hf⟩ := zq_s hf
    refine xS (As := [.int v1]) (rest := [.long (0 : Int64), .long v2]) (st1 := [.long r19, .long (0 : Int64), .long v2]) E hR hS hl (C_X9_hundredThousands hcr19) lb_X9_hundredThousands ls_X9_hundredThousands ml_X9_288 ⟨Nat.le_of_ble_eq_true rfl, Nat.le_of_ble_eq_true rfl⟩ rfl rfl rfl (Nat.le_of_ble_eq_true rfl) dX9_judge_15 ⟨hc, hs⟩ (fun H locs hR hS => ?_)
    refine lv_lconst (v := (1 : Int64)) hx hb dX9_judge_18 rfl ?_
    refine lv_lsub hx hb dX9_judge_19 ?_
    obtain ⟨r21, σ22, hcr21, hf⟩ := zq_s hf
    refine xS (As := [.long v2, .long (0 : Int64), .long (r19 - (1 : Int64))]) (rest := []) (st1 := [.int r21]) E hR hS hl (C_X9_in hcr21) lb_X9_in ls_X9_in ml_X9_121 ⟨Nat.le_of_ble_eq_true rfl, Nat.le_of_ble_eq_true rfl⟩ rfl rfl rfl (Nat.le_of_ble_eq_true rfl) dX9_judge_20 ⟨hc, hs⟩ (fun H locs hR hS => ?_)
    refine lv_if_ne (tgt := 29) hx hb dX9_judge_23 (by decide) (fun hq23 => ?_) (fun hq23 => ?_)
    · have hf := ite_n hq23 hf
      refine lv_iconst (v := (0 : Int32)) hx hb dX9_judge_29 rfl ?_
      refine lv_istore (lv' := [(4, .int (0 : Int32)), (0, .ref (gB g + v0)), (1, .int v1), (2, .long v2)]) hx hb dX9_judge_30 hl (Nat.le_of_ble_eq_true rfl) rfl (fun ls hl => ?_)
      exact V_X9_judge_32  1000 _ _ _ _ _ _ _ hf p e s m args below meth c _ _ _ _ _ E hR hS (lv_sub hl [1, 2, 3, 0] rfl) hc hs
    · have hf := ite_p hq23 hf
      refine lv_bipush (v := (-2 : Int32)) hx hb dX9_judge_26 rfl ?_
      obtain ⟨hr1, hs1⟩ := Prod.mk.inj (Option.some.inj hf)
      exact xr_i E hR hS rfl (by rw [hr1]) hs1.symm hc hs dX9_judge_28
theorem C_X9_judge {g : GG} {v0 : Nat} {v1 : Int32} {v2 : Int64} {σ : Mm} {r : Int32} {σ' : Mm} (hf : f_X9_judge v0 v1 v2 σ = some (r, σ')) : Ct g yX9_judge cX9_judge 6 (some .int) rm_X9_judge [.ref (gB g + v0), .int v1, .long v2] σ (some (.int r)) σ' :=
  Ct.of false (by decide +kernel) (fun h => by cases h) (Nat.le_of_ble_eq_true rfl) (V_X9_judge_0 _ _ _ _ _ _ hf)
