set_option maxRecDepth 100000 in
def g_X7_digestOr (v0 : Nat) (v1 : Int32) (v2 : Int32) (D : DD) : Option Int32 :=
  pcb (g_X8_isNumber v1) (fun r1 => if r1 = 0 then (if v2 < 0 then (some (0 : Int32)) else (if (100 : Int32) < v2 then (some (0 : Int32)) else (zck (inb v2 101) (some (D (v0 + 4) (ix v2)))))) else (zck (inb v1 100) (some (D (v0 + 3) (ix v1)))))
set_option maxRecDepth 100000 in
set_option maxHeartbeats 4000000 in
theorem G_X7_digestOr {n : Nat} {K : Nat → Nat × Nat} {R : Nat → Nat → Option Nat} (v0 : Nat) (v1 : Int32) (v2 : Int32) (D : DD) (hv0 : isX7 n K R v0) : f_X7_digestOr v0 v1 v2 ((n, K, R, D) : Mm) = (g_X7_digestOr v0 v1 v2 D).map (lP n K R D) := by
  unfold f_X7_digestOr g_X7_digestOr
  refine z_cP (G_X8_isNumber _ _) (fun r1 he2 => ?_)
  refine z_if (fun _ => ?_) (fun _ => ?_)
  ·
    refine z_if (fun _ => ?_) (fun _ => ?_)
    ·
      rfl
    ·
      refine z_if (fun _ => ?_) (fun _ => ?_)
      ·
        rfl
      ·
        refine z_ko (X7_o hv0) ?_
        refine z_rb (X7_r3 hv0) ?_
        refine z_ka (X7_a3 hv0) (fun _ => ?_)
        rfl
  ·
    refine z_ko (X7_o hv0) ?_
    refine z_rb (X7_r2 hv0) ?_
    refine z_ka (X7_a2 hv0) (fun _ => ?_)
    rfl
set_option maxRecDepth 100000 in
def g_X8_mixed (v0 : Int64) (v2 : Int32) : Option Int64 :=
  some ((((1000003 : Int64) * v0) + ((v2).toInt64)) - (((1000003 : Int64) * v0) + ((v2).toInt64)) / (2147483647 : Int64) * (2147483647 : Int64))
set_option maxRecDepth 100000 in
set_option maxHeartbeats 4000000 in
theorem G_X8_mixed {n : Nat} {K : Nat → Nat × Nat} {R : Nat → Nat → Option Nat} (v0 : Int64) (v2 : Int32) (D : DD) : f_X8_mixed v0 v2 ((n, K, R, D) : Mm) = (g_X8_mixed v0 v2).map (lP n K R D) := by
  unfold f_X8_mixed g_X8_mixed
  rfl
set_option maxRecDepth 100000 in
def g_X8_digestOfNode (v0 : Int32) (v1 : Int32) (v2 : Int32) (v3 : Int32) : Option Int32 :=
  pcb (g_X8_mixed (17 : Int64) v0) (fun r1 => pcb (g_X8_mixed r1 v1) (fun r3 => pcb (g_X8_mixed r3 v2) (fun r5 => pcb (g_X8_mixed r5 v3) (fun r7 => some ((((1 : Int64) + r7)).toInt32)))))
set_option maxRecDepth 100000 in
set_option maxHeartbeats 4000000 in
theorem G_X8_digestOfNode {n : Nat} {K : Nat → Nat × Nat} {R : Nat → Nat → Option Nat} (v0 : Int32) (v1 : Int32) (v2 : Int32) (v3 : Int32) (D : DD) : f_X8_digestOfNode v0 v1 v2 v3 ((n, K, R, D) : Mm) = (g_X8_digestOfNode v0 v1 v2 v3).map (lP n K R D) := by
  unfold f_X8_digestOfNode g_X8_digestOfNode
  refine z_cP (G_X8_mixed _ _ _) (fun r1 he2 => ?_)
  refine z_cP (G_X8_mixed _ _ _) (fun r3 he4 => ?_)
  refine z_cP (G_X8_mixed _ _ _) (fun r5 he6 => ?_)
  refine z_cP (G_X8_mixed _ _ _) (fun r7 he8 => ?_)
  rfl
set_option maxRecDepth 100000 in
def g_X7_closeBefore_60 (k_6 : Nat → Int32 → Nat → Int32 → Int32 → DD → Option (Int32 × DD)) (v0 : Nat) (v1 : Int32) (v2 : Nat) (v3 : Int32) (v4 : Int32) (v5 : Int32) (D : DD) : Option (Int32 × DD) :=
  dlt (u2 D v0 5 ((D v0 5) - (1 : Int32))) (fun D1 => zck (inb v5 100) (dlt (u2 D1 (v0 + 2) (ix v5) v3) (fun D2 => pcb (g_X2_valueOf v2 v5 D2) (fun r3 => zck (inb v5 100) (pcb (g_X7_digestOr v0 (D2 (v0 + 1) (ix v5)) v5 D2) (fun r5 => pcb (g_X7_digestOr v0 v3 v1 D2) (fun r7 => pcb (g_X8_digestOfNode v5 r3 r5 r7) (fun r9 => zck (inb v5 100) (dlt (u2 D2 (v0 + 3) (ix v5) r9) (fun D11 => k_6 v0 v1 v2 v5 (v4 + (1 : Int32)) D11))))))))))
set_option maxRecDepth 100000 in
set_option maxHeartbeats 4000000 in
theorem G_X7_closeBefore_60 {n : Nat} {K : Nat → Nat × Nat} {R : Nat → Nat → Option Nat} (k_6 : Nat → Int32 → Nat → Int32 → Int32 → DD → Option (Int32 × DD)) (f_6 : Nat → Int32 → Nat → Int32 → Int32 → Mm → Option (Int32 × Mm)) (hk_6 : ∀ (v0 : Nat) (v1 : Int32) (v2 : Nat) (v3 : Int32) (v4 : Int32) (D : DD) (hv0 : isX7 n K R v0) (hv2 : isX2 n K R v2), f_6 v0 v1 v2 v3 v4 ((n, K, R, D) : Mm) = (k_6 v0 v1 v2 v3 v4 D).map (lS n K R)) (v0 : Nat) (v1 : Int32) (v2 : Nat) (v3 : Int32) (v4 : Int32) (v5 : Int32) (D : DD) (hv0 : isX7 n K R v0) (hv2 : isX2 n K R v2) : f_X7_closeBefore_60 f_6 v0 v1 v2 v3 v4 v5 ((n, K, R, D) : Mm) = (g_X7_closeBefore_60 k_6 v0 v1 v2 v3 v4 v5 D).map (lS n K R) := by
  unfold f_X7_closeBefore_60 g_X7_closeBefore_60
  refine z_ko (X7_o hv0) ?_
  refine z_lt rfl (fun D1 => ?_)
  refine z_rb (X7_r1 hv0) ?_
  refine z_ka (X7_a1 hv0) (fun _ => ?_)
  refine z_lt rfl (fun D2 => ?_)
  refine z_rb (X7_r2 hv0) ?_
  refine z_ko (X2_o hv2) ?_
  refine z_cP (G_X2_valueOf _ _ _ hv2) (fun r3 he4 => ?_)
  refine z_ko (X7_o hv0) ?_
  refine z_rb (X7_r0 hv0) ?_
  refine z_ka (X7_a0 hv0) (fun _ => ?_)
  refine z_cP (G_X7_digestOr _ _ _ _ hv0) (fun r5 he6 => ?_)
  refine z_ko (X7_o hv0) ?_
  refine z_cP (G_X7_digestOr _ _ _ _ hv0) (fun r7 he8 => ?_)
  refine z_cP (G_X8_digestOfNode _ _ _ _ _) (fun r9 he10 => ?_)
  refine z_ka (X7_a2 hv0) (fun _ => ?_)
  refine z_lt rfl (fun D11 => ?_)
  exact hk_6 _ _ _ _ _ _ hv0 hv2
set_option maxRecDepth 100000 in
def g_X7_closeBefore_6 : Nat → Nat → Int32 → Nat → Int32 → Int32 → DD → Option (Int32 × DD)
  | 0, _, _, _, _, _, _ => none
  | n + 1, v0, v1, v2, v3, v4, D =>
    if (100 : Int32) ≤ v4 then (some (v3, D)) else (if (D v0 5) ≤ 0 then (some (v3, D)) else (zck (inb ((D v0 5) - (1 : Int32)) 100) (pcb (g_X8_isNumber (D (v0 + 5) (ix ((D v0 5) - (1 : Int32))))) (fun r12 => if r12 = 0 then (some (v3, D)) else (pcb (g_X8_isNumber v1) (fun r14 => if r14 = 0 then (g_X7_closeBefore_60 (g_X7_closeBefore_6 n) v0 v1 v2 v3 v4 (D (v0 + 5) (ix ((D v0 5) - (1 : Int32)))) D) else (pcb (g_X8_isAbove (D (v0 + 5) (ix ((D v0 5) - (1 : Int32)))) v1) (fun r16 => if r16 = 0 then (g_X7_closeBefore_60 (g_X7_closeBefore_6 n) v0 v1 v2 v3 v4 (D (v0 + 5) (ix ((D v0 5) - (1 : Int32)))) D) else (some (v3, D))))))))))
set_option maxRecDepth 100000 in
set_option maxHeartbeats 4000000 in
theorem G_X7_closeBefore_6 {n : Nat} {K : Nat → Nat × Nat} {R : Nat → Nat → Option Nat} : ∀ (N : Nat) (v0 : Nat) (v1 : Int32) (v2 : Nat) (v3 : Int32) (v4 : Int32) (D : DD) (hv0 : isX7 n K R v0) (hv2 : isX2 n K R v2), f_X7_closeBefore_6 N v0 v1 v2 v3 v4 ((n, K, R, D) : Mm) = (g_X7_closeBefore_6 N v0 v1 v2 v3 v4 D).map (lS n K R) := by
  intro N
  induction N with
  | zero => intros; rfl
  | succ N ih =>
    intro v0 v1 v2 v3 v4 D hv0 hv2
    unfold f_X7_closeBefore_6 g_X7_closeBefore_6
    refine z_if (fun _ => ?_) (fun _ => ?_)
    ·
      rfl
    ·
      refine z_ko (X7_o hv0) ?_
      refine z_if (fun _ => ?_) (fun _ => ?_)
      ·
        rfl
      ·
        refine z_rb (X7_r4 hv0) ?_
        refine z_ka (X7_a4 hv0) (fun _ => ?_)
        refine z_cP (G_X8_isNumber _ _) (fun r12 he13 => ?_)
        refine z_if (fun _ => ?_) (fun _ => ?_)
        ·
          rfl
        ·
          refine z_cP (G_X8_isNumber _ _) (fun r14 he15 => ?_)
          refine z_if (fun _ => ?_) (fun _ => ?_)
          ·
            exact G_X7_closeBefore_60 _ _ ih _ _ _ _ _ _ _ hv0 hv2
          ·
            refine z_cP (G_X8_isAbove _ _ _) (fun r16 he17 => ?_)
            refine z_if (fun _ => ?_) (fun _ => ?_)
            ·
              exact G_X7_closeBefore_60 _ _ ih _ _ _ _ _ _ _ hv0 hv2
            ·
              rfl
set_option maxRecDepth 100000 in
def g_X7_closeBefore (v0 : Nat) (v1 : Int32) (v2 : Nat) (D : DD) : Option (Int32 × DD) :=
  g_X7_closeBefore_6 1000 v0 v1 v2 (-9 : Int32) (0 : Int32) D
set_option maxRecDepth 100000 in
set_option maxHeartbeats 4000000 in
theorem G_X7_closeBefore {n : Nat} {K : Nat → Nat × Nat} {R : Nat → Nat → Option Nat} (v0 : Nat) (v1 : Int32) (v2 : Nat) (D : DD) (hv0 : isX7 n K R v0) (hv2 : isX2 n K R v2) : f_X7_closeBefore v0 v1 v2 ((n, K, R, D) : Mm) = (g_X7_closeBefore v0 v1 v2 D).map (lS n K R) := by
  unfold f_X7_closeBefore g_X7_closeBefore
  exact G_X7_closeBefore_6 1000 _ _ _ _ _ _ hv0 hv2
set_option maxRecDepth 100000 in
def g_X7_grow_70 (k_15 : Nat → Nat → Int32 → DD → Option DD) (v0 : Nat) (v1 : Nat) (v2 : Int32) (D : DD) : Option DD :=
  k_15 v0 v1 (v2 + (1 : Int32)) D
set_option maxRecDepth 100000 in
set_option maxHeartbeats 4000000 in
theorem G_X7_grow_70 {n : Nat} {K : Nat → Nat × Nat} {R : Nat → Nat → Option Nat} (k_15 : Nat → Nat → Int32 → DD → Option DD) (f_15 : Nat → Nat → Int32 → Mm → Option (Unit × Mm)) (hk_15 : ∀ (v0 : Nat) (v1 : Nat) (v2 : Int32) (D : DD) (hv0 : isX7 n K R v0) (hv1 : isX2 n K R v1), f_15 v0 v1 v2 ((n, K, R, D) : Mm) = (k_15 v0 v1 v2 D).map (lV n K R)) (v0 : Nat) (v1 : Nat) (v2 : Int32) (D : DD) (hv0 : isX7 n K R v0) (hv1 : isX2 n K R v1) : f_X7_grow_70 f_15 v0 v1 v2 ((n, K, R, D) : Mm) = (g_X7_grow_70 k_15 v0 v1 v2 D).map (lV n K R) := by
  unfold f_X7_grow_70 g_X7_grow_70
  exact hk_15 _ _ _ _ hv0 hv1
set_option maxRecDepth 100000 in
def g_X7_grow_15 : Nat → Nat → Nat → Int32 → DD → Option DD
  | 0, _, _, _, _ => none
  | n + 1, v0, v1, v2, D =>
    if (100 : Int32) ≤ v2 then (dcb (g_X7_closeBefore v0 (100 : Int32) v1 D) (fun r1 D2 => dlt (u2 D2 v0 6 r1) (fun D3 => some D3))) else (pcb (g_X2_has v1 v2 D) (fun r4 => if r4 = 0 then (g_X7_grow_70 (g_X7_grow_15 n) v0 v1 v2 D) else (dcb (g_X7_closeBefore v0 v2 v1 D) (fun r6 D7 => zck (inb v2 100) (dlt (u2 D7 (v0 + 1) (ix v2) r6) (fun D8 => if (100 : Int32) ≤ (D8 v0 5) then (g_X7_grow_70 (g_X7_grow_15 n) v0 v1 v2 D8) else (zck (inb (D8 v0 5) 100) (dlt (u2 D8 (v0 + 5) (ix (D8 v0 5)) v2) (fun D9 => dlt (u2 D9 v0 5 ((D9 v0 5) + (1 : Int32))) (fun D10 => g_X7_grow_70 (g_X7_grow_15 n) v0 v1 v2 D10))))))))))
set_option maxRecDepth 100000 in
set_option maxHeartbeats 4000000 in
theorem G_X7_grow_15 {n : Nat} {K : Nat → Nat × Nat} {R : Nat → Nat → Option Nat} : ∀ (N : Nat) (v0 : Nat) (v1 : Nat) (v2 : Int32) (D : DD) (hv0 : isX7 n K R v0) (hv1 : isX2 n K R v1), f_X7_grow_15 N v0 v1 v2 ((n, K, R, D) : Mm) = (g_X7_grow_15 N v0 v1 v2 D).map (lV n K R) := by
  intro N
  induction N with
  | zero => intros; rfl
  | succ N ih =>
    intro v0 v1 v2 D hv0 hv1
    unfold f_X7_grow_15 g_X7_grow_15
    refine z_if (fun _ => ?_) (fun _ => ?_)
    ·
      refine z_ko (X7_o hv0) ?_
      refine z_cS (G_X7_closeBefore _ _ _ _ hv0 hv1) (fun r1 D2 => ?_)
      refine z_ko (X7_o hv0) ?_
      refine z_lt rfl (fun D3 => ?_)
      rfl
    ·
      refine z_ko (X2_o hv1) ?_
      refine z_cP (G_X2_has _ _ _ hv1) (fun r4 he5 => ?_)
      refine z_if (fun _ => ?_) (fun _ => ?_)
      ·
        exact G_X7_grow_70 _ _ ih _ _ _ _ hv0 hv1
      ·
        refine z_ko (X7_o hv0) ?_
        refine z_rb (X7_r0 hv0) ?_
        refine z_cS (G_X7_closeBefore _ _ _ _ hv0 hv1) (fun r6 D7 => ?_)
        refine z_ka (X7_a0 hv0) (fun _ => ?_)
        refine z_lt rfl (fun D8 => ?_)
        refine z_ko (X7_o hv0) ?_
        refine z_if (fun _ => ?_) (fun _ => ?_)
        ·
          exact G_X7_grow_70 _ _ ih _ _ _ _ hv0 hv1
        ·
          refine z_rb (X7_r4 hv0) ?_
          refine z_ka (X7_a4 hv0) (fun _ => ?_)
          refine z_lt rfl (fun D9 => ?_)
          refine z_lt rfl (fun D10 => ?_)
          exact G_X7_grow_70 _ _ ih _ _ _ _ hv0 hv1
set_option maxRecDepth 100000 in
def g_X7_grow (v0 : Nat) (v1 : Nat) (D : DD) : Option DD :=
  vcb (g_J7_fill_53178 100 (v0 + 3) (0 : Int32) D) (fun D12 => dlt (u2 D12 v0 5 (0 : Int32)) (fun D13 => g_X7_grow_15 1000 v0 v1 (0 : Int32) D13))
set_option maxRecDepth 100000 in
set_option maxHeartbeats 4000000 in
theorem G_X7_grow {n : Nat} {K : Nat → Nat × Nat} {R : Nat → Nat → Option Nat} (v0 : Nat) (v1 : Nat) (D : DD) (hv0 : isX7 n K R v0) (hv1 : isX2 n K R v1) : f_X7_grow v0 v1 ((n, K, R, D) : Mm) = (g_X7_grow v0 v1 D).map (lV n K R) := by
  unfold f_X7_grow g_X7_grow
  refine z_ko (X7_o hv0) ?_
  refine z_rb (X7_r2 hv0) ?_
  refine z_cV (G_J7_fill_53178 _ _ _ (X7_a2 hv0)) (fun _ D12 => ?_)
  refine z_ko (X7_o hv0) ?_
  refine z_lt rfl (fun D13 => ?_)
  exact G_X7_grow_15 1000 _ _ _ _ hv0 hv1
set_option maxRecDepth 100000 in
def g_X7_rootDigest (v0 : Nat) (D : DD) : Option Int32 :=
  pcb (g_X7_digestOr v0 (D v0 6) (100 : Int32) D) (fun r1 => some r1)
set_option maxRecDepth 100000 in
set_option maxHeartbeats 4000000 in
theorem G_X7_rootDigest {n : Nat} {K : Nat → Nat × Nat} {R : Nat → Nat → Option Nat} (v0 : Nat) (D : DD) (hv0 : isX7 n K R v0) : f_X7_rootDigest v0 ((n, K, R, D) : Mm) = (g_X7_rootDigest v0 D).map (lP n K R D) := by
  unfold f_X7_rootDigest g_X7_rootDigest
  refine z_ko (X7_o hv0) ?_
  refine z_cP (G_X7_digestOr _ _ _ _ hv0) (fun r1 he2 => ?_)
  rfl
set_option maxRecDepth 100000 in
def g_X5_reasonBy (v0 : Nat) (v1 : Int32) (v2 : Int32) (D : DD) : Option (Int32 × DD) :=
  dcb (g_X5_takeIn v0 v1 v2 D) (fun r1 D2 => if r1 = 0 then (vcb (g_X7_grow (v0 + 6) (v0 + 4) D2) (fun D4 => pcb (g_X7_rootDigest (v0 + 6) D4) (fun r5 => if r5 = (D4 v0 1) then (some ((0 : Int32), D4)) else (pcb (g_X5_isFormer v0 r5 D4) (fun r7 => if r7 = 0 then (some ((6 : Int32), D4)) else (some ((7 : Int32), D4))))))) else (some (r1, D2)))
set_option maxRecDepth 100000 in
set_option maxHeartbeats 4000000 in
theorem G_X5_reasonBy {n : Nat} {K : Nat → Nat × Nat} {R : Nat → Nat → Option Nat} (v0 : Nat) (v1 : Int32) (v2 : Int32) (D : DD) (hv0 : isX5 n K R v0) : f_X5_reasonBy v0 v1 v2 ((n, K, R, D) : Mm) = (g_X5_reasonBy v0 v1 v2 D).map (lS n K R) := by
  unfold f_X5_reasonBy g_X5_reasonBy
  refine z_ko (X5_o hv0) ?_
  refine z_cS (G_X5_takeIn _ _ _ _ hv0) (fun r1 D2 => ?_)
  refine z_if (fun _ => ?_) (fun _ => ?_)
  ·
    refine z_ko (X5_o hv0) ?_
    refine z_rb (X5_r5 hv0) ?_
    refine z_rb (X5_r4 hv0) ?_
    refine z_ko (X7_o (X5_s5 hv0)) ?_
    refine z_cV (G_X7_grow _ _ _ (X5_s5 hv0) (X5_s4 hv0)) (fun _ D4 => ?_)
    refine z_ko (X5_o hv0) ?_
    refine z_rb (X5_r5 hv0) ?_
    refine z_ko (X7_o (X5_s5 hv0)) ?_
    refine z_cP (G_X7_rootDigest _ _ (X5_s5 hv0)) (fun r5 he6 => ?_)
    refine z_ko (X5_o hv0) ?_
    refine z_if (fun _ => ?_) (fun _ => ?_)
    ·
      rfl
    ·
      refine z_cP (G_X5_isFormer _ _ _ hv0) (fun r7 he8 => ?_)
      refine z_if (fun _ => ?_) (fun _ => ?_)
      ·
        rfl
      ·
        rfl
  ·
    rfl
set_option maxRecDepth 100000 in
def g_J9_max_7cf53 (v0 : Int32) (v1 : Int32) : Option Int32 :=
  if v0 < v1 then (some v1) else (some v0)
set_option maxRecDepth 100000 in
set_option maxHeartbeats 4000000 in
theorem G_J9_max_7cf53 {n : Nat} {K : Nat → Nat × Nat} {R : Nat → Nat → Option Nat} (v0 : Int32) (v1 : Int32) (D : DD) : f_J9_max_7cf53 v0 v1 ((n, K, R, D) : Mm) = (g_J9_max_7cf53 v0 v1).map (lP n K R D) := by
  unfold f_J9_max_7cf53 g_J9_max_7cf53
  refine z_if (fun _ => ?_) (fun _ => ?_)
  ·
    rfl
  ·
    rfl
set_option maxRecDepth 100000 in
def g_X5_digestAfter_73 (v0 : Nat) (D : DD) : Option (Int32 × DD) :=
  vcb (g_X7_grow (v0 + 6) (v0 + 4) D) (fun D2 => pcb (g_X7_rootDigest (v0 + 6) D2) (fun r3 => some (r3, D2)))
set_option maxRecDepth 100000 in
set_option maxHeartbeats 4000000 in
theorem G_X5_digestAfter_73 {n : Nat} {K : Nat → Nat × Nat} {R : Nat → Nat → Option Nat} (v0 : Nat) (D : DD) (hv0 : isX5 n K R v0) : f_X5_digestAfter_73 v0 ((n, K, R, D) : Mm) = (g_X5_digestAfter_73 v0 D).map (lS n K R) := by
  unfold f_X5_digestAfter_73 g_X5_digestAfter_73
  refine z_ko (X5_o hv0) ?_
  refine z_rb (X5_r5 hv0) ?_
  refine z_rb (X5_r4 hv0) ?_
  refine z_ko (X7_o (X5_s5 hv0)) ?_
  refine z_cV (G_X7_grow _ _ _ (X5_s5 hv0) (X5_s4 hv0)) (fun _ D2 => ?_)
  refine z_ko (X5_o hv0) ?_
  refine z_rb (X5_r5 hv0) ?_
  refine z_ko (X7_o (X5_s5 hv0)) ?_
  refine z_cP (G_X7_rootDigest _ _ (X5_s5 hv0)) (fun r3 he4 => ?_)
  rfl
set_option maxRecDepth 100000 in
def g_X5_digestAfter (v0 : Nat) (v1 : Int32) (v2 : Int32) (D : DD) : Option (Int32 × DD) :=
  pcb (g_J9_max_7cf53 (v1 - (1 : Int32)) (0 : Int32)) (fun r5 => pcb (g_J9_min_7cf53 (v1 + (1 : Int32)) (99 : Int32)) (fun r7 => dcb (g_X5_reasonBy v0 r5 r7 D) (fun r9 D10 => if r9 = 0 then (if v2 = (-9 : Int32) then (pcb (g_X2_has (v0 + 4) v1 D10) (fun r11 => if r11 = 0 then (some ((-1 : Int32), D10)) else (vcb (g_X2_drop (v0 + 4) v1 D10) (fun D14 => g_X5_digestAfter_73 v0 D14)))) else (vcb (g_X2_give (v0 + 4) v1 v2 D10) (fun D16 => g_X5_digestAfter_73 v0 D16))) else (some ((-3 : Int32), D10)))))
set_option maxRecDepth 100000 in
set_option maxHeartbeats 4000000 in
theorem G_X5_digestAfter {n : Nat} {K : Nat → Nat × Nat} {R : Nat → Nat → Option Nat} (v0 : Nat) (v1 : Int32) (v2 : Int32) (D : DD) (hv0 : isX5 n K R v0) : f_X5_digestAfter v0 v1 v2 ((n, K, R, D) : Mm) = (g_X5_digestAfter v0 v1 v2 D).map (lS n K R) := by
  unfold f_X5_digestAfter g_X5_digestAfter
  refine z_cP (G_J9_max_7cf53 _ _ _) (fun r5 he6 => ?_)
  refine z_cP (G_J9_min_7cf53 _ _ _) (fun r7 he8 => ?_)
  refine z_ko (X5_o hv0) ?_
  refine z_cS (G_X5_reasonBy _ _ _ _ hv0) (fun r9 D10 => ?_)
  refine z_if (fun _ => ?_) (fun _ => ?_)
  ·
    refine z_if (fun _ => ?_) (fun _ => ?_)
    ·
      refine z_ko (X5_o hv0) ?_
      refine z_rb (X5_r4 hv0) ?_
      refine z_ko (X2_o (X5_s4 hv0)) ?_
      refine z_cP (G_X2_has _ _ _ (X5_s4 hv0)) (fun r11 he12 => ?_)
      refine z_if (fun _ => ?_) (fun _ => ?_)
      ·
        rfl
      ·
        refine z_ko (X5_o hv0) ?_
        refine z_rb (X5_r4 hv0) ?_
        refine z_ko (X2_o (X5_s4 hv0)) ?_
        refine z_cV (G_X2_drop _ _ _ (X5_s4 hv0)) (fun _ D14 => ?_)
        exact G_X5_digestAfter_73 _ _ hv0
    ·
      refine z_ko (X5_o hv0) ?_
      refine z_rb (X5_r4 hv0) ?_
      refine z_ko (X2_o (X5_s4 hv0)) ?_
      refine z_cV (G_X2_give _ _ _ _ (X5_s4 hv0)) (fun _ D16 => ?_)
      exact G_X5_digestAfter_73 _ _ hv0
  ·
    rfl
set_option maxRecDepth 100000 in
def g_X6_isFilled (v0 : Nat) (D : DD) : Option Int32 :=
  zck (zb (D v0 1)) (some (D v0 1))
set_option maxRecDepth 100000 in
set_option maxHeartbeats 4000000 in
theorem G_X6_isFilled {n : Nat} {K : Nat → Nat × Nat} {R : Nat → Nat → Option Nat} (v0 : Nat) (D : DD) (hv0 : isX6 n K R v0) : f_X6_isFilled v0 ((n, K, R, D) : Mm) = (g_X6_isFilled v0 D).map (lP n K R D) := by
  unfold f_X6_isFilled g_X6_isFilled
  refine z_ko (X6_o hv0) ?_
  refine z_ck (fun _ => ?_)
  rfl
set_option maxRecDepth 100000 in
def g_X6_fill (v0 : Nat) (v1 : Nat) (D : DD) : Option DD :=
  vcb (g_X2_become (v0 + 1) v1 D) (fun D2 => dlt (u2 D2 v0 1 (1 : Int32)) (fun D3 => some D3))
set_option maxRecDepth 100000 in
set_option maxHeartbeats 4000000 in
theorem G_X6_fill {n : Nat} {K : Nat → Nat × Nat} {R : Nat → Nat → Option Nat} (v0 : Nat) (v1 : Nat) (D : DD) (hv0 : isX6 n K R v0) (hv1 : isX2 n K R v1) : f_X6_fill v0 v1 ((n, K, R, D) : Mm) = (g_X6_fill v0 v1 D).map (lV n K R) := by
  unfold f_X6_fill g_X6_fill
  refine z_ko (X6_o hv0) ?_
  refine z_rb (X6_r0 hv0) ?_
  refine z_ko (X2_o (X6_s0 hv0)) ?_
  refine z_cV (G_X2_become _ _ _ (X6_s0 hv0) hv1) (fun _ D2 => ?_)
  refine z_ko (X6_o hv0) ?_
  refine z_lt rfl (fun D3 => ?_)
  rfl
set_option maxRecDepth 100000 in
def g_X7_leftOf (v0 : Nat) (v1 : Int32) (D : DD) : Option Int32 :=
  pcb (g_X8_isNumber v1) (fun r1 => if r1 = 0 then (some (-9 : Int32)) else (zck (inb v1 100) (some (D (v0 + 1) (ix v1)))))
set_option maxRecDepth 100000 in
set_option maxHeartbeats 4000000 in
theorem G_X7_leftOf {n : Nat} {K : Nat → Nat × Nat} {R : Nat → Nat → Option Nat} (v0 : Nat) (v1 : Int32) (D : DD) (hv0 : isX7 n K R v0) : f_X7_leftOf v0 v1 ((n, K, R, D) : Mm) = (g_X7_leftOf v0 v1 D).map (lP n K R D) := by
  unfold f_X7_leftOf g_X7_leftOf
  refine z_cP (G_X8_isNumber _ _) (fun r1 he2 => ?_)
  refine z_if (fun _ => ?_) (fun _ => ?_)
  ·
    rfl
  ·
    refine z_ko (X7_o hv0) ?_
    refine z_rb (X7_r0 hv0) ?_
    refine z_ka (X7_a0 hv0) (fun _ => ?_)
    rfl
set_option maxRecDepth 100000 in
def g_X7_rightOf (v0 : Nat) (v1 : Int32) (D : DD) : Option Int32 :=
  pcb (g_X8_isNumber v1) (fun r1 => if r1 = 0 then (some (-9 : Int32)) else (zck (inb v1 100) (some (D (v0 + 2) (ix v1)))))
set_option maxRecDepth 100000 in
set_option maxHeartbeats 4000000 in
theorem G_X7_rightOf {n : Nat} {K : Nat → Nat × Nat} {R : Nat → Nat → Option Nat} (v0 : Nat) (v1 : Int32) (D : DD) (hv0 : isX7 n K R v0) : f_X7_rightOf v0 v1 ((n, K, R, D) : Mm) = (g_X7_rightOf v0 v1 D).map (lP n K R D) := by
  unfold f_X7_rightOf g_X7_rightOf
  refine z_cP (G_X8_isNumber _ _) (fun r1 he2 => ?_)
  refine z_if (fun _ => ?_) (fun _ => ?_)
  ·
    rfl
  ·
    refine z_ko (X7_o hv0) ?_
    refine z_rb (X7_r1 hv0) ?_
    refine z_ka (X7_a1 hv0) (fun _ => ?_)
    rfl
set_option maxRecDepth 100000 in
def g_X7_digestOf (v0 : Nat) (v1 : Int32) (D : DD) : Option Int32 :=
  pcb (g_X8_isNumber v1) (fun r1 => if r1 = 0 then (some (0 : Int32)) else (zck (inb v1 100) (some (D (v0 + 3) (ix v1)))))
set_option maxRecDepth 100000 in
set_option maxHeartbeats 4000000 in
theorem G_X7_digestOf {n : Nat} {K : Nat → Nat × Nat} {R : Nat → Nat → Option Nat} (v0 : Nat) (v1 : Int32) (D : DD) (hv0 : isX7 n K R v0) : f_X7_digestOf v0 v1 ((n, K, R, D) : Mm) = (g_X7_digestOf v0 v1 D).map (lP n K R D) := by
  unfold f_X7_digestOf g_X7_digestOf
  refine z_cP (G_X8_isNumber _ _) (fun r1 he2 => ?_)
  refine z_if (fun _ => ?_) (fun _ => ?_)
  ·
    rfl
  ·
    refine z_ko (X7_o hv0) ?_
    refine z_rb (X7_r2 hv0) ?_
    refine z_ka (X7_a2 hv0) (fun _ => ?_)
    rfl
set_option maxRecDepth 100000 in
def g_X7_childTowards (v0 : Nat) (v1 : Int32) (v2 : Int32) (D : DD) : Option Int32 :=
  if v2 = v1 then (some (-9 : Int32)) else (if v1 ≤ v2 then (pcb (g_X7_rightOf v0 v1 D) (fun r1 => some r1)) else (pcb (g_X7_leftOf v0 v1 D) (fun r3 => some r3)))
set_option maxRecDepth 100000 in
set_option maxHeartbeats 4000000 in
theorem G_X7_childTowards {n : Nat} {K : Nat → Nat × Nat} {R : Nat → Nat → Option Nat} (v0 : Nat) (v1 : Int32) (v2 : Int32) (D : DD) (hv0 : isX7 n K R v0) : f_X7_childTowards v0 v1 v2 ((n, K, R, D) : Mm) = (g_X7_childTowards v0 v1 v2 D).map (lP n K R D) := by
  unfold f_X7_childTowards g_X7_childTowards
  refine z_if (fun _ => ?_) (fun _ => ?_)
  ·
    rfl
  ·
    refine z_if (fun _ => ?_) (fun _ => ?_)
    ·
      refine z_ko (X7_o hv0) ?_
      refine z_cP (G_X7_rightOf _ _ _ hv0) (fun r1 he2 => ?_)
      rfl
    ·
      refine z_ko (X7_o hv0) ?_
      refine z_cP (G_X7_leftOf _ _ _ hv0) (fun r3 he4 => ?_)
      rfl
set_option maxRecDepth 100000 in
def g_X7_countNodesAround_10 : Nat → Nat → Int32 → Int32 → Int32 → Int32 → DD → Option Int32
  | 0, _, _, _, _, _, _ => none
  | n + 1, v0, v1, v2, v3, v4, D =>
    if (100 : Int32) ≤ v4 then (some v2) else (pcb (g_X8_isNumber v3) (fun r1 => if r1 = 0 then (some v2) else (pcb (g_X7_childTowards v0 v3 v1 D) (fun r3 => g_X7_countNodesAround_10 n v0 v1 (v2 + (1 : Int32)) r3 (v4 + (1 : Int32)) D))))
set_option maxRecDepth 100000 in
set_option maxHeartbeats 4000000 in
theorem G_X7_countNodesAround_10 {n : Nat} {K : Nat → Nat × Nat} {R : Nat → Nat → Option Nat} : ∀ (N : Nat) (v0 : Nat) (v1 : Int32) (v2 : Int32) (v3 : Int32) (v4 : Int32) (D : DD) (hv0 : isX7 n K R v0), f_X7_countNodesAround_10 N v0 v1 v2 v3 v4 ((n, K, R, D) : Mm) = (g_X7_countNodesAround_10 N v0 v1 v2 v3 v4 D).map (lP n K R D) := by
  intro N
  induction N with
  | zero => intros; rfl
  | succ N ih =>
    intro v0 v1 v2 v3 v4 D hv0
    unfold f_X7_countNodesAround_10 g_X7_countNodesAround_10
    refine z_if (fun _ => ?_) (fun _ => ?_)
    ·
      rfl
    ·
      refine z_cP (G_X8_isNumber _ _) (fun r1 he2 => ?_)
      refine z_if (fun _ => ?_) (fun _ => ?_)
      ·
        rfl
      ·
        refine z_ko (X7_o hv0) ?_
        refine z_cP (G_X7_childTowards _ _ _ _ hv0) (fun r3 he4 => ?_)
        exact ih _ _ _ _ _ _ hv0
set_option maxRecDepth 100000 in
def g_X7_countNodesAround (v0 : Nat) (v1 : Int32) (D : DD) : Option Int32 :=
  g_X7_countNodesAround_10 1000 v0 v1 (0 : Int32) (D v0 6) (0 : Int32) D
set_option maxRecDepth 100000 in
set_option maxHeartbeats 4000000 in
theorem G_X7_countNodesAround {n : Nat} {K : Nat → Nat × Nat} {R : Nat → Nat → Option Nat} (v0 : Nat) (v1 : Int32) (D : DD) (hv0 : isX7 n K R v0) : f_X7_countNodesAround v0 v1 ((n, K, R, D) : Mm) = (g_X7_countNodesAround v0 v1 D).map (lP n K R D) := by
  unfold f_X7_countNodesAround g_X7_countNodesAround
  refine z_ko (X7_o hv0) ?_
  exact G_X7_countNodesAround_10 1000 _ _ _ _ _ _ hv0
set_option maxRecDepth 100000 in
def g_X7_proofLengthOf (v0 : Nat) (v1 : Int32) (D : DD) : Option Int32 :=
  pcb (g_X7_countNodesAround v0 v1 D) (fun r1 => some (((2 : Int32) * r1) + (1 : Int32)))
set_option maxRecDepth 100000 in
set_option maxHeartbeats 4000000 in
theorem G_X7_proofLengthOf {n : Nat} {K : Nat → Nat × Nat} {R : Nat → Nat → Option Nat} (v0 : Nat) (v1 : Int32) (D : DD) (hv0 : isX7 n K R v0) : f_X7_proofLengthOf v0 v1 ((n, K, R, D) : Mm) = (g_X7_proofLengthOf v0 v1 D).map (lP n K R D) := by
  unfold f_X7_proofLengthOf g_X7_proofLengthOf
  refine z_ko (X7_o hv0) ?_
  refine z_cP (G_X7_countNodesAround _ _ _ hv0) (fun r1 he2 => ?_)
  rfl
set_option maxRecDepth 100000 in
def g_X7_height_4 : Nat → Nat → Int32 → Int32 → DD → Option Int32
  | 0, _, _, _, _ => none
  | n + 1, v0, v1, v2, D =>
    if (100 : Int32) ≤ v2 then (some v1) else (pcb (g_X7_countNodesAround v0 v2 D) (fun r1 => pcb (g_J9_max_7cf53 v1 r1) (fun r3 => g_X7_height_4 n v0 r3 (v2 + (1 : Int32)) D)))
set_option maxRecDepth 100000 in
set_option maxHeartbeats 4000000 in
theorem G_X7_height_4 {n : Nat} {K : Nat → Nat × Nat} {R : Nat → Nat → Option Nat} : ∀ (N : Nat) (v0 : Nat) (v1 : Int32) (v2 : Int32) (D : DD) (hv0 : isX7 n K R v0), f_X7_height_4 N v0 v1 v2 ((n, K, R, D) : Mm) = (g_X7_height_4 N v0 v1 v2 D).map (lP n K R D) := by
  intro N
  induction N with
  | zero => intros; rfl
  | succ N ih =>
    intro v0 v1 v2 D hv0
    unfold f_X7_height_4 g_X7_height_4
    refine z_if (fun _ => ?_) (fun _ => ?_)
    ·
      rfl
    ·
      refine z_ko (X7_o hv0) ?_
      refine z_cP (G_X7_countNodesAround _ _ _ hv0) (fun r1 he2 => ?_)
      refine z_cP (G_J9_max_7cf53 _ _ _) (fun r3 he4 => ?_)
      exact ih _ _ _ _ hv0
set_option maxRecDepth 100000 in
def g_X7_height (v0 : Nat) (D : DD) : Option Int32 :=
  g_X7_height_4 1000 v0 (0 : Int32) (0 : Int32) D
set_option maxRecDepth 100000 in
set_option maxHeartbeats 4000000 in
theorem G_X7_height {n : Nat} {K : Nat → Nat × Nat} {R : Nat → Nat → Option Nat} (v0 : Nat) (D : DD) (hv0 : isX7 n K R v0) : f_X7_height v0 ((n, K, R, D) : Mm) = (g_X7_height v0 D).map (lP n K R D) := by
  unfold f_X7_height g_X7_height
  exact G_X7_height_4 1000 _ _ _ _ hv0
set_option maxRecDepth 100000 in
def g_X7_isLike (v0 : Nat) (v1 : Int32) (v2 : Nat) (D : DD) : Option Int32 :=
  pcb (g_X7_digestOf v0 v1 D) (fun r1 => if r1 = 0 then (some (0 : Int32)) else (pcb (g_X7_digestOf v0 v1 D) (fun r3 => pcb (g_X7_digestOf v2 v1 D) (fun r5 => if r3 = r5 then (some (1 : Int32)) else (some (0 : Int32))))))
set_option maxRecDepth 100000 in
set_option maxHeartbeats 4000000 in
theorem G_X7_isLike {n : Nat} {K : Nat → Nat × Nat} {R : Nat → Nat → Option Nat} (v0 : Nat) (v1 : Int32) (v2 : Nat) (D : DD) (hv0 : isX7 n K R v0) (hv2 : isX7 n K R v2) : f_X7_isLike v0 v1 v2 ((n, K, R, D) : Mm) = (g_X7_isLike v0 v1 v2 D).map (lP n K R D) := by
  unfold f_X7_isLike g_X7_isLike
  refine z_ko (X7_o hv0) ?_
  refine z_cP (G_X7_digestOf _ _ _ hv0) (fun r1 he2 => ?_)
  refine z_if (fun _ => ?_) (fun _ => ?_)
  ·
    rfl
  ·
    refine z_ko (X7_o hv0) ?_
    refine z_cP (G_X7_digestOf _ _ _ hv0) (fun r3 he4 => ?_)
    refine z_ko (X7_o hv2) ?_
    refine z_cP (G_X7_digestOf _ _ _ hv2) (fun r5 he6 => ?_)
    refine z_if (fun _ => ?_) (fun _ => ?_)
    ·
      rfl
    ·
      rfl
set_option maxRecDepth 100000 in
def g_X7_isFirstLike_51 (v0 : Nat) (v1 : Int32) (v2 : Nat) (v3 : Int32) (D : DD) : Option Int32 :=
  if v3 = v1 then (pcb (g_X7_isLike v0 v1 v2 D) (fun r1 => if r1 = 0 then (some (0 : Int32)) else (some (1 : Int32)))) else (some (0 : Int32))
set_option maxRecDepth 100000 in
set_option maxHeartbeats 4000000 in
theorem G_X7_isFirstLike_51 {n : Nat} {K : Nat → Nat × Nat} {R : Nat → Nat → Option Nat} (v0 : Nat) (v1 : Int32) (v2 : Nat) (v3 : Int32) (D : DD) (hv0 : isX7 n K R v0) (hv2 : isX7 n K R v2) : f_X7_isFirstLike_51 v0 v1 v2 v3 ((n, K, R, D) : Mm) = (g_X7_isFirstLike_51 v0 v1 v2 v3 D).map (lP n K R D) := by
  unfold f_X7_isFirstLike_51 g_X7_isFirstLike_51
  refine z_if (fun _ => ?_) (fun _ => ?_)
  ·
    refine z_ko (X7_o hv0) ?_
    refine z_cP (G_X7_isLike _ _ _ _ hv0 hv2) (fun r1 he2 => ?_)
    refine z_if (fun _ => ?_) (fun _ => ?_)
    ·
      rfl
    ·
      rfl
  ·
    rfl
set_option maxRecDepth 100000 in
def g_X7_isFirstLike_8 : Nat → Nat → Int32 → Nat → Int32 → Int32 → DD → Option Int32
  | 0, _, _, _, _, _, _ => none
  | n + 1, v0, v1, v2, v3, v4, D =>
    if (100 : Int32) ≤ v4 then (g_X7_isFirstLike_51 v0 v1 v2 v3 D) else (pcb (g_X8_isNumber v3) (fun r3 => if r3 = 0 then (g_X7_isFirstLike_51 v0 v1 v2 v3 D) else (if v3 = v1 then (g_X7_isFirstLike_51 v0 v1 v2 v3 D) else (pcb (g_X7_isLike v0 v3 v2 D) (fun r5 => if r5 = 0 then (pcb (g_X7_childTowards v0 v3 v1 D) (fun r7 => g_X7_isFirstLike_8 n v0 v1 v2 r7 (v4 + (1 : Int32)) D)) else (some (0 : Int32)))))))
set_option maxRecDepth 100000 in
set_option maxHeartbeats 4000000 in
theorem G_X7_isFirstLike_8 {n : Nat} {K : Nat → Nat × Nat} {R : Nat → Nat → Option Nat} : ∀ (N : Nat) (v0 : Nat) (v1 : Int32) (v2 : Nat) (v3 : Int32) (v4 : Int32) (D : DD) (hv0 : isX7 n K R v0) (hv2 : isX7 n K R v2), f_X7_isFirstLike_8 N v0 v1 v2 v3 v4 ((n, K, R, D) : Mm) = (g_X7_isFirstLike_8 N v0 v1 v2 v3 v4 D).map (lP n K R D) := by
  intro N
  induction N with
  | zero => intros; rfl
  | succ N ih =>
    intro v0 v1 v2 v3 v4 D hv0 hv2
    unfold f_X7_isFirstLike_8 g_X7_isFirstLike_8
    refine z_if (fun _ => ?_) (fun _ => ?_)
    ·
      exact G_X7_isFirstLike_51 _ _ _ _ _ hv0 hv2
    ·
      refine z_cP (G_X8_isNumber _ _) (fun r3 he4 => ?_)
      refine z_if (fun _ => ?_) (fun _ => ?_)
      ·
        exact G_X7_isFirstLike_51 _ _ _ _ _ hv0 hv2
      ·
        refine z_if (fun _ => ?_) (fun _ => ?_)
        ·
          exact G_X7_isFirstLike_51 _ _ _ _ _ hv0 hv2
        ·
          refine z_ko (X7_o hv0) ?_
          refine z_cP (G_X7_isLike _ _ _ _ hv0 hv2) (fun r5 he6 => ?_)
          refine z_if (fun _ => ?_) (fun _ => ?_)
          ·
            refine z_ko (X7_o hv0) ?_
            refine z_cP (G_X7_childTowards _ _ _ _ hv0) (fun r7 he8 => ?_)
            exact ih _ _ _ _ _ _ hv0 hv2
          ·
            rfl
set_option maxRecDepth 100000 in
def g_X7_isFirstLike (v0 : Nat) (v1 : Int32) (v2 : Nat) (D : DD) : Option Int32 :=
  g_X7_isFirstLike_8 1000 v0 v1 v2 (D v0 6) (0 : Int32) D
set_option maxRecDepth 100000 in
set_option maxHeartbeats 4000000 in
theorem G_X7_isFirstLike {n : Nat} {K : Nat → Nat × Nat} {R : Nat → Nat → Option Nat} (v0 : Nat) (v1 : Int32) (v2 : Nat) (D : DD) (hv0 : isX7 n K R v0) (hv2 : isX7 n K R v2) : f_X7_isFirstLike v0 v1 v2 ((n, K, R, D) : Mm) = (g_X7_isFirstLike v0 v1 v2 D).map (lP n K R D) := by
  unfold f_X7_isFirstLike g_X7_isFirstLike
  refine z_ko (X7_o hv0) ?_
  exact G_X7_isFirstLike_8 1000 _ _ _ _ _ _ hv0 hv2
set_option maxRecDepth 100000 in
def g_X8_nodeItem (v0 : Int32) (v1 : Int32) : Option Int32 :=
  some ((-100 : Int32) - (((100 : Int32) * v0) + v1))
set_option maxRecDepth 100000 in
set_option maxHeartbeats 4000000 in
theorem G_X8_nodeItem {n : Nat} {K : Nat → Nat × Nat} {R : Nat → Nat → Option Nat} (v0 : Int32) (v1 : Int32) (D : DD) : f_X8_nodeItem v0 v1 ((n, K, R, D) : Mm) = (g_X8_nodeItem v0 v1).map (lP n K R D) := by
  unfold f_X8_nodeItem g_X8_nodeItem
  rfl
set_option maxRecDepth 100000 in
def g_X7_writeProof_157 (k_29 : Nat → Nat → Int32 → Int32 → Nat → Int32 → Int32 → Int32 → Int32 → DD → Option DD) (v0 : Nat) (v1 : Nat) (v2 : Int32) (v3 : Int32) (v4 : Nat) (v5 : Int32) (v6 : Int32) (v7 : Int32) (v8 : Int32) (D : DD) : Option DD :=
  k_29 v0 v1 v2 v3 v4 v5 v6 v7 (v8 + (1 : Int32)) D
set_option maxRecDepth 100000 in
set_option maxHeartbeats 4000000 in
theorem G_X7_writeProof_157 {n : Nat} {K : Nat → Nat × Nat} {R : Nat → Nat → Option Nat} (k_29 : Nat → Nat → Int32 → Int32 → Nat → Int32 → Int32 → Int32 → Int32 → DD → Option DD) (f_29 : Nat → Nat → Int32 → Int32 → Nat → Int32 → Int32 → Int32 → Int32 → Mm → Option (Unit × Mm)) (hk_29 : ∀ (v0 : Nat) (v1 : Nat) (v2 : Int32) (v3 : Int32) (v4 : Nat) (v5 : Int32) (v6 : Int32) (v7 : Int32) (v8 : Int32) (D : DD) (hv0 : isX7 n K R v0) (hv1 : isX2 n K R v1) (hv4 : isX1 n K R v4), f_29 v0 v1 v2 v3 v4 v5 v6 v7 v8 ((n, K, R, D) : Mm) = (k_29 v0 v1 v2 v3 v4 v5 v6 v7 v8 D).map (lV n K R)) (v0 : Nat) (v1 : Nat) (v2 : Int32) (v3 : Int32) (v4 : Nat) (v5 : Int32) (v6 : Int32) (v7 : Int32) (v8 : Int32) (D : DD) (hv0 : isX7 n K R v0) (hv1 : isX2 n K R v1) (hv4 : isX1 n K R v4) : f_X7_writeProof_157 f_29 v0 v1 v2 v3 v4 v5 v6 v7 v8 ((n, K, R, D) : Mm) = (g_X7_writeProof_157 k_29 v0 v1 v2 v3 v4 v5 v6 v7 v8 D).map (lV n K R) := by
  unfold f_X7_writeProof_157 g_X7_writeProof_157
  exact hk_29 _ _ _ _ _ _ _ _ _ _ hv0 hv1 hv4
set_option maxRecDepth 100000 in
def g_X7_writeProof_100 (k_29 : Nat → Nat → Int32 → Int32 → Nat → Int32 → Int32 → Int32 → Int32 → DD → Option DD) (v0 : Nat) (v1 : Nat) (v2 : Int32) (v3 : Int32) (v4 : Nat) (v5 : Int32) (v8 : Int32) (D : DD) : Option DD :=
  pcb (g_X7_digestOf v0 v5 D) (fun r1 => vcb (g_X1_add v4 r1 D) (fun D4 => dcb (g_X3_pop (v0 + 6) D4) (fun r5 D6 => if r5 = 0 then (some D6) else (pcb (g_X3_key (v0 + 6) D6) (fun r7 => pcb (g_X7_rightOf v0 r7 D6) (fun r9 => pcb (g_X3_key (v0 + 6) D6) (fun r11 => pcb (g_X3_hi (v0 + 6) D6) (fun r13 => g_X7_writeProof_157 k_29 v0 v1 v2 v3 v4 r9 (r11 + (1 : Int32)) r13 v8 D6))))))))
set_option maxRecDepth 100000 in
set_option maxHeartbeats 4000000 in
theorem G_X7_writeProof_100 {n : Nat} {K : Nat → Nat × Nat} {R : Nat → Nat → Option Nat} (k_29 : Nat → Nat → Int32 → Int32 → Nat → Int32 → Int32 → Int32 → Int32 → DD → Option DD) (f_29 : Nat → Nat → Int32 → Int32 → Nat → Int32 → Int32 → Int32 → Int32 → Mm → Option (Unit × Mm)) (hk_29 : ∀ (v0 : Nat) (v1 : Nat) (v2 : Int32) (v3 : Int32) (v4 : Nat) (v5 : Int32) (v6 : Int32) (v7 : Int32) (v8 : Int32) (D : DD) (hv0 : isX7 n K R v0) (hv1 : isX2 n K R v1) (hv4 : isX1 n K R v4), f_29 v0 v1 v2 v3 v4 v5 v6 v7 v8 ((n, K, R, D) : Mm) = (k_29 v0 v1 v2 v3 v4 v5 v6 v7 v8 D).map (lV n K R)) (v0 : Nat) (v1 : Nat) (v2 : Int32) (v3 : Int32) (v4 : Nat) (v5 : Int32) (v8 : Int32) (D : DD) (hv0 : isX7 n K R v0) (hv1 : isX2 n K R v1) (hv4 : isX1 n K R v4) : f_X7_writeProof_100 f_29 v0 v1 v2 v3 v4 v5 v8 ((n, K, R, D) : Mm) = (g_X7_writeProof_100 k_29 v0 v1 v2 v3 v4 v5 v8 D).map (lV n K R) := by
  unfold f_X7_writeProof_100 g_X7_writeProof_100
  refine z_ko (X7_o hv0) ?_
  refine z_cP (G_X7_digestOf _ _ _ hv0) (fun r1 he2 => ?_)
  refine z_ko (X1_o hv4) ?_
  refine z_cV (G_X1_add _ _ _ hv4) (fun _ D4 => ?_)
  refine z_ko (X7_o hv0) ?_
  refine z_rb (X7_r7 hv0) ?_
  refine z_ko (X3_o (X7_s7 hv0)) ?_
  refine z_cS (G_X3_pop _ _ (X7_s7 hv0)) (fun r5 D6 => ?_)
  refine z_if (fun _ => ?_) (fun _ => ?_)
  ·
    rfl
  ·
    refine z_ko (X7_o hv0) ?_
    refine z_rb (X7_r7 hv0) ?_
    refine z_ko (X3_o (X7_s7 hv0)) ?_
    refine z_cP (G_X3_key _ _ (X7_s7 hv0)) (fun r7 he8 => ?_)
    refine z_ko (X7_o hv0) ?_
    refine z_cP (G_X7_rightOf _ _ _ hv0) (fun r9 he10 => ?_)
    refine z_ko (X7_o hv0) ?_
    refine z_rb (X7_r7 hv0) ?_
    refine z_ko (X3_o (X7_s7 hv0)) ?_
    refine z_cP (G_X3_key _ _ (X7_s7 hv0)) (fun r11 he12 => ?_)
    refine z_ko (X7_o hv0) ?_
    refine z_rb (X7_r7 hv0) ?_
    refine z_ko (X3_o (X7_s7 hv0)) ?_
    refine z_cP (G_X3_hi _ _ (X7_s7 hv0)) (fun r13 he14 => ?_)
    exact G_X7_writeProof_157 _ _ hk_29 _ _ _ _ _ _ _ _ _ _ hv0 hv1 hv4
set_option maxRecDepth 100000 in
def g_X7_writeProof_29 : Nat → Nat → Nat → Int32 → Int32 → Nat → Int32 → Int32 → Int32 → Int32 → DD → Option DD
  | 0, _, _, _, _, _, _, _, _, _, _ => none
  | n + 1, v0, v1, v2, v3, v4, v5, v6, v7, v8, D =>
    if (100 : Int32) ≤ v8 then (some D) else (pcb (g_X8_isNumber v5) (fun r15 => if r15 = 0 then (g_X7_writeProof_100 (g_X7_writeProof_29 n) v0 v1 v2 v3 v4 v5 v8 D) else (if v3 < v6 then (g_X7_writeProof_100 (g_X7_writeProof_29 n) v0 v1 v2 v3 v4 v5 v8 D) else (if v7 < v2 then (g_X7_writeProof_100 (g_X7_writeProof_29 n) v0 v1 v2 v3 v4 v5 v8 D) else (pcb (g_X2_valueOf v1 v5 D) (fun r17 => pcb (g_X8_nodeItem v5 r17) (fun r19 => vcb (g_X1_add v4 r19 D) (fun D22 => vcb (g_X3_push (v0 + 6) v5 v7 D22) (fun D24 => pcb (g_X7_leftOf v0 v5 D24) (fun r25 => g_X7_writeProof_157 (g_X7_writeProof_29 n) v0 v1 v2 v3 v4 r25 v6 (v5 - (1 : Int32)) v8 D24))))))))))
set_option maxRecDepth 100000 in
set_option maxHeartbeats 4000000 in
theorem G_X7_writeProof_29 {n : Nat} {K : Nat → Nat × Nat} {R : Nat → Nat → Option Nat} : ∀ (N : Nat) (v0 : Nat) (v1 : Nat) (v2 : Int32) (v3 : Int32) (v4 : Nat) (v5 : Int32) (v6 : Int32) (v7 : Int32) (v8 : Int32) (D : DD) (hv0 : isX7 n K R v0) (hv1 : isX2 n K R v1) (hv4 : isX1 n K R v4), f_X7_writeProof_29 N v0 v1 v2 v3 v4 v5 v6 v7 v8 ((n, K, R, D) : Mm) = (g_X7_writeProof_29 N v0 v1 v2 v3 v4 v5 v6 v7 v8 D).map (lV n K R) := by
  intro N
  induction N with
  | zero => intros; rfl
  | succ N ih =>
    intro v0 v1 v2 v3 v4 v5 v6 v7 v8 D hv0 hv1 hv4
    unfold f_X7_writeProof_29 g_X7_writeProof_29
    refine z_if (fun _ => ?_) (fun _ => ?_)
    ·
      rfl
    ·
      refine z_cP (G_X8_isNumber _ _) (fun r15 he16 => ?_)
      refine z_if (fun _ => ?_) (fun _ => ?_)
      ·
        exact G_X7_writeProof_100 _ _ ih _ _ _ _ _ _ _ _ hv0 hv1 hv4
      ·
        refine z_if (fun _ => ?_) (fun _ => ?_)
        ·
          exact G_X7_writeProof_100 _ _ ih _ _ _ _ _ _ _ _ hv0 hv1 hv4
        ·
          refine z_if (fun _ => ?_) (fun _ => ?_)
          ·
            exact G_X7_writeProof_100 _ _ ih _ _ _ _ _ _ _ _ hv0 hv1 hv4
          ·
            refine z_ko (X2_o hv1) ?_
            refine z_cP (G_X2_valueOf _ _ _ hv1) (fun r17 he18 => ?_)
            refine z_cP (G_X8_nodeItem _ _ _) (fun r19 he20 => ?_)
            refine z_ko (X1_o hv4) ?_
            refine z_cV (G_X1_add _ _ _ hv4) (fun _ D22 => ?_)
            refine z_ko (X7_o hv0) ?_
            refine z_rb (X7_r7 hv0) ?_
            refine z_ko (X3_o (X7_s7 hv0)) ?_
            refine z_cV (G_X3_push _ _ _ _ (X7_s7 hv0)) (fun _ D24 => ?_)
            refine z_ko (X7_o hv0) ?_
            refine z_cP (G_X7_leftOf _ _ _ hv0) (fun r25 he26 => ?_)
            exact G_X7_writeProof_157 _ _ ih _ _ _ _ _ _ _ _ _ _ hv0 hv1 hv4
set_option maxRecDepth 100000 in
def g_X7_writeProof (v0 : Nat) (v1 : Nat) (v2 : Int32) (v3 : Int32) (v4 : Nat) (D : DD) : Option DD :=
  vcb (g_X1_shorten v4 (0 : Int32) D) (fun D28 => vcb (g_X3_clear (v0 + 6) D28) (fun D30 => g_X7_writeProof_29 1000 v0 v1 v2 v3 v4 (D30 v0 6) (0 : Int32) (99 : Int32) (0 : Int32) D30))
set_option maxRecDepth 100000 in
set_option maxHeartbeats 4000000 in
theorem G_X7_writeProof {n : Nat} {K : Nat → Nat × Nat} {R : Nat → Nat → Option Nat} (v0 : Nat) (v1 : Nat) (v2 : Int32) (v3 : Int32) (v4 : Nat) (D : DD) (hv0 : isX7 n K R v0) (hv1 : isX2 n K R v1) (hv4 : isX1 n K R v4) : f_X7_writeProof v0 v1 v2 v3 v4 ((n, K, R, D) : Mm) = (g_X7_writeProof v0 v1 v2 v3 v4 D).map (lV n K R) := by
  unfold f_X7_writeProof g_X7_writeProof
  refine z_ko (X1_o hv4) ?_
  refine z_cV (G_X1_shorten _ _ _ hv4) (fun _ D28 => ?_)
  refine z_ko (X7_o hv0) ?_
  refine z_rb (X7_r7 hv0) ?_
  refine z_ko (X3_o (X7_s7 hv0)) ?_
  refine z_cV (G_X3_clear _ _ (X7_s7 hv0)) (fun _ D30 => ?_)
  refine z_ko (X7_o hv0) ?_
  exact G_X7_writeProof_29 1000 _ _ _ _ _ _ _ _ _ _ hv0 hv1 hv4
set_option maxRecDepth 100000 in
def g_X8_put (v0 : Nat) (v1 : Int32) (v2 : Int32) (D : DD) : Option (Int32 × DD) :=
  pcb (g_X8_isNumber v1) (fun r1 => if r1 = 0 then (some ((-2 : Int32), D)) else (pcb (g_X8_isNumber v2) (fun r3 => if r3 = 0 then (some ((-2 : Int32), D)) else (pcb (g_X2_hasRoomFor (v0 + 1) v1 D) (fun r5 => if r5 = 0 then (some ((-4 : Int32), D)) else (pcb (g_X2_valueOf (v0 + 1) v1 D) (fun r7 => vcb (g_X0_note (v0 + 12) (v0 + 1) D) (fun D10 => vcb (g_X2_give (v0 + 1) v1 v2 D10) (fun D12 => vcb (g_X7_grow (v0 + 3) (v0 + 1) D12) (fun D14 => some (r7, D14)))))))))))
set_option maxRecDepth 100000 in
set_option maxHeartbeats 4000000 in
theorem G_X8_put {n : Nat} {K : Nat → Nat × Nat} {R : Nat → Nat → Option Nat} (v0 : Nat) (v1 : Int32) (v2 : Int32) (D : DD) (hv0 : isX8 n K R v0) : f_X8_put v0 v1 v2 ((n, K, R, D) : Mm) = (g_X8_put v0 v1 v2 D).map (lS n K R) := by
  unfold f_X8_put g_X8_put
  refine z_cP (G_X8_isNumber _ _) (fun r1 he2 => ?_)
  refine z_if (fun _ => ?_) (fun _ => ?_)
  ·
    rfl
  ·
    refine z_cP (G_X8_isNumber _ _) (fun r3 he4 => ?_)
    refine z_if (fun _ => ?_) (fun _ => ?_)
    ·
      rfl
    ·
      refine z_ko (X8_o hv0) ?_
      refine z_rb (X8_r0 hv0) ?_
      refine z_ko (X2_o (X8_s0 hv0)) ?_
      refine z_cP (G_X2_hasRoomFor _ _ _ (X8_s0 hv0)) (fun r5 he6 => ?_)
      refine z_if (fun _ => ?_) (fun _ => ?_)
      ·
        rfl
      ·
        refine z_ko (X8_o hv0) ?_
        refine z_rb (X8_r0 hv0) ?_
        refine z_ko (X2_o (X8_s0 hv0)) ?_
        refine z_cP (G_X2_valueOf _ _ _ (X8_s0 hv0)) (fun r7 he8 => ?_)
        refine z_ko (X8_o hv0) ?_
        refine z_rb (X8_r2 hv0) ?_
        refine z_rb (X8_r0 hv0) ?_
        refine z_ko (X0_o (X8_s2 hv0)) ?_
        refine z_cV (G_X0_note _ _ _ (X8_s2 hv0) (X8_s0 hv0)) (fun _ D10 => ?_)
        refine z_ko (X8_o hv0) ?_
        refine z_rb (X8_r0 hv0) ?_
        refine z_ko (X2_o (X8_s0 hv0)) ?_
        refine z_cV (G_X2_give _ _ _ _ (X8_s0 hv0)) (fun _ D12 => ?_)
        refine z_ko (X8_o hv0) ?_
        refine z_rb (X8_r1 hv0) ?_
        refine z_rb (X8_r0 hv0) ?_
        refine z_ko (X7_o (X8_s1 hv0)) ?_
        refine z_cV (G_X7_grow _ _ _ (X8_s1 hv0) (X8_s0 hv0)) (fun _ D14 => ?_)
        rfl
set_option maxRecDepth 100000 in
def g_X8_remove (v0 : Nat) (v1 : Int32) (D : DD) : Option (Int32 × DD) :=
  pcb (g_X8_isNumber v1) (fun r1 => if r1 = 0 then (some ((-2 : Int32), D)) else (pcb (g_X2_has (v0 + 1) v1 D) (fun r3 => if r3 = 0 then (some ((-1 : Int32), D)) else (pcb (g_X2_valueOf (v0 + 1) v1 D) (fun r5 => vcb (g_X0_note (v0 + 12) (v0 + 1) D) (fun D8 => vcb (g_X2_drop (v0 + 1) v1 D8) (fun D10 => vcb (g_X7_grow (v0 + 3) (v0 + 1) D10) (fun D12 => some (r5, D12)))))))))
set_option maxRecDepth 100000 in
set_option maxHeartbeats 4000000 in
theorem G_X8_remove {n : Nat} {K : Nat → Nat × Nat} {R : Nat → Nat → Option Nat} (v0 : Nat) (v1 : Int32) (D : DD) (hv0 : isX8 n K R v0) : f_X8_remove v0 v1 ((n, K, R, D) : Mm) = (g_X8_remove v0 v1 D).map (lS n K R) := by
  unfold f_X8_remove g_X8_remove
  refine z_cP (G_X8_isNumber _ _) (fun r1 he2 => ?_)
  refine z_if (fun _ => ?_) (fun _ => ?_)
  ·
    rfl
  ·
    refine z_ko (X8_o hv0) ?_
    refine z_rb (X8_r0 hv0) ?_
    refine z_ko (X2_o (X8_s0 hv0)) ?_
    refine z_cP (G_X2_has _ _ _ (X8_s0 hv0)) (fun r3 he4 => ?_)
    refine z_if (fun _ => ?_) (fun _ => ?_)
    ·
      rfl
    ·
      refine z_ko (X8_o hv0) ?_
      refine z_rb (X8_r0 hv0) ?_
      refine z_ko (X2_o (X8_s0 hv0)) ?_
      refine z_cP (G_X2_valueOf _ _ _ (X8_s0 hv0)) (fun r5 he6 => ?_)
      refine z_ko (X8_o hv0) ?_
      refine z_rb (X8_r2 hv0) ?_
      refine z_rb (X8_r0 hv0) ?_
      refine z_ko (X0_o (X8_s2 hv0)) ?_
      refine z_cV (G_X0_note _ _ _ (X8_s2 hv0) (X8_s0 hv0)) (fun _ D8 => ?_)
      refine z_ko (X8_o hv0) ?_
      refine z_rb (X8_r0 hv0) ?_
      refine z_ko (X2_o (X8_s0 hv0)) ?_
      refine z_cV (G_X2_drop _ _ _ (X8_s0 hv0)) (fun _ D10 => ?_)
      refine z_ko (X8_o hv0) ?_
      refine z_rb (X8_r1 hv0) ?_
      refine z_rb (X8_r0 hv0) ?_
      refine z_ko (X7_o (X8_s1 hv0)) ?_
      refine z_cV (G_X7_grow _ _ _ (X8_s1 hv0) (X8_s0 hv0)) (fun _ D12 => ?_)
      rfl
set_option maxRecDepth 100000 in
def g_X8_get (v0 : Nat) (v1 : Int32) (D : DD) : Option Int32 :=
  pcb (g_X8_isNumber v1) (fun r1 => if r1 = 0 then (some (-2 : Int32)) else (pcb (g_X2_valueOf (v0 + 1) v1 D) (fun r3 => some r3)))
set_option maxRecDepth 100000 in
set_option maxHeartbeats 4000000 in
theorem G_X8_get {n : Nat} {K : Nat → Nat × Nat} {R : Nat → Nat → Option Nat} (v0 : Nat) (v1 : Int32) (D : DD) (hv0 : isX8 n K R v0) : f_X8_get v0 v1 ((n, K, R, D) : Mm) = (g_X8_get v0 v1 D).map (lP n K R D) := by
  unfold f_X8_get g_X8_get
  refine z_cP (G_X8_isNumber _ _) (fun r1 he2 => ?_)
  refine z_if (fun _ => ?_) (fun _ => ?_)
  ·
    rfl
  ·
    refine z_ko (X8_o hv0) ?_
    refine z_rb (X8_r0 hv0) ?_
    refine z_ko (X2_o (X8_s0 hv0)) ?_
    refine z_cP (G_X2_valueOf _ _ _ (X8_s0 hv0)) (fun r3 he4 => ?_)
    rfl
set_option maxRecDepth 100000 in
def g_X8_scatter_94 (k_31 : Nat → Int32 → Int64 → Int32 → DD → Option (Int32 × DD)) (v0 : Nat) (v1 : Int32) (v4 : Int64) (v6 : Int32) (D : DD) : Option (Int32 × DD) :=
  k_31 v0 v1 v4 (v6 + (1 : Int32)) D
set_option maxRecDepth 100000 in
set_option maxHeartbeats 4000000 in
theorem G_X8_scatter_94 {n : Nat} {K : Nat → Nat × Nat} {R : Nat → Nat → Option Nat} (k_31 : Nat → Int32 → Int64 → Int32 → DD → Option (Int32 × DD)) (f_31 : Nat → Int32 → Int64 → Int32 → Mm → Option (Int32 × Mm)) (hk_31 : ∀ (v0 : Nat) (v1 : Int32) (v4 : Int64) (v6 : Int32) (D : DD) (hv0 : isX8 n K R v0), f_31 v0 v1 v4 v6 ((n, K, R, D) : Mm) = (k_31 v0 v1 v4 v6 D).map (lS n K R)) (v0 : Nat) (v1 : Int32) (v4 : Int64) (v6 : Int32) (D : DD) (hv0 : isX8 n K R v0) : f_X8_scatter_94 f_31 v0 v1 v4 v6 ((n, K, R, D) : Mm) = (g_X8_scatter_94 k_31 v0 v1 v4 v6 D).map (lS n K R) := by
  unfold f_X8_scatter_94 g_X8_scatter_94
  exact hk_31 _ _ _ _ _ hv0
set_option maxRecDepth 100000 in
def g_X8_scatter_31 : Nat → Nat → Int32 → Int64 → Int32 → DD → Option (Int32 × DD)
  | 0, _, _, _, _, _ => none
  | n + 1, v0, v1, v4, v6, D =>
    if v1 ≤ v6 then (vcb (g_X7_grow (v0 + 3) (v0 + 1) D) (fun D2 => pcb (g_X2_count (v0 + 1) D2) (fun r3 => some (r3, D2)))) else (pcb (g_X2_hasRoomFor (v0 + 1) (((((((v4 * (6364136223846793005 : Int64)) + (1442695040888963407 : Int64)).toUInt64 >>> ((33 : Int32).toInt64.toUInt64 &&& Int64.toUInt64 63)).toInt64)).toInt32) - ((((((v4 * (6364136223846793005 : Int64)) + (1442695040888963407 : Int64)).toUInt64 >>> ((33 : Int32).toInt64.toUInt64 &&& Int64.toUInt64 63)).toInt64)).toInt32) / (100 : Int32) * (100 : Int32)) D) (fun r5 => if r5 = 0 then (g_X8_scatter_94 (g_X8_scatter_31 n) v0 v1 ((v4 * (6364136223846793005 : Int64)) + (1442695040888963407 : Int64)) v6 D) else (vcb (g_X2_give (v0 + 1) (((((((v4 * (6364136223846793005 : Int64)) + (1442695040888963407 : Int64)).toUInt64 >>> ((33 : Int32).toInt64.toUInt64 &&& Int64.toUInt64 63)).toInt64)).toInt32) - ((((((v4 * (6364136223846793005 : Int64)) + (1442695040888963407 : Int64)).toUInt64 >>> ((33 : Int32).toInt64.toUInt64 &&& Int64.toUInt64 63)).toInt64)).toInt32) / (100 : Int32) * (100 : Int32)) ((((((((v4 * (6364136223846793005 : Int64)) + (1442695040888963407 : Int64)).toUInt64 >>> ((33 : Int32).toInt64.toUInt64 &&& Int64.toUInt64 63)).toInt64)).toInt32) / (128 : Int32)) - (((((((v4 * (6364136223846793005 : Int64)) + (1442695040888963407 : Int64)).toUInt64 >>> ((33 : Int32).toInt64.toUInt64 &&& Int64.toUInt64 63)).toInt64)).toInt32) / (128 : Int32)) / (100 : Int32) * (100 : Int32)) D) (fun D8 => g_X8_scatter_94 (g_X8_scatter_31 n) v0 v1 ((v4 * (6364136223846793005 : Int64)) + (1442695040888963407 : Int64)) v6 D8))))
set_option maxRecDepth 100000 in
set_option maxHeartbeats 4000000 in
theorem G_X8_scatter_31 {n : Nat} {K : Nat → Nat × Nat} {R : Nat → Nat → Option Nat} : ∀ (N : Nat) (v0 : Nat) (v1 : Int32) (v4 : Int64) (v6 : Int32) (D : DD) (hv0 : isX8 n K R v0), f_X8_scatter_31 N v0 v1 v4 v6 ((n, K, R, D) : Mm) = (g_X8_scatter_31 N v0 v1 v4 v6 D).map (lS n K R) := by
  intro N
  induction N with
  | zero => intros; rfl
  | succ N ih =>
    intro v0 v1 v4 v6 D hv0
    unfold f_X8_scatter_31 g_X8_scatter_31
    refine z_if (fun _ => ?_) (fun _ => ?_)
    ·
      refine z_ko (X8_o hv0) ?_
      refine z_rb (X8_r1 hv0) ?_
      refine z_rb (X8_r0 hv0) ?_
      refine z_ko (X7_o (X8_s1 hv0)) ?_
      refine z_cV (G_X7_grow _ _ _ (X8_s1 hv0) (X8_s0 hv0)) (fun _ D2 => ?_)
      refine z_ko (X8_o hv0) ?_
      refine z_rb (X8_r0 hv0) ?_
      refine z_ko (X2_o (X8_s0 hv0)) ?_
      refine z_cP (G_X2_count _ _ (X8_s0 hv0)) (fun r3 he4 => ?_)
      rfl
    ·
      refine z_ko (X8_o hv0) ?_
      refine z_rb (X8_r0 hv0) ?_
      refine z_ko (X2_o (X8_s0 hv0)) ?_
      refine z_cP (G_X2_hasRoomFor _ _ _ (X8_s0 hv0)) (fun r5 he6 => ?_)
      refine z_if (fun _ => ?_) (fun _ => ?_)
      ·
        exact G_X8_scatter_94 _ _ ih _ _ _ _ _ hv0
      ·
        refine z_ko (X8_o hv0) ?_
        refine z_rb (X8_r0 hv0) ?_
        refine z_ko (X2_o (X8_s0 hv0)) ?_
        refine z_cV (G_X2_give _ _ _ _ (X8_s0 hv0)) (fun _ D8 => ?_)
        exact G_X8_scatter_94 _ _ ih _ _ _ _ _ hv0
set_option maxRecDepth 100000 in
def g_X8_scatter (v0 : Nat) (v1 : Int32) (v2 : Int64) (D : DD) : Option (Int32 × DD) :=
  if v1 < (1 : Int32) then (some ((-2 : Int32), D)) else (if v1 ≤ (20 : Int32) then (vcb (g_X0_note (v0 + 12) (v0 + 1) D) (fun D10 => g_X8_scatter_31 1000 v0 v1 v2 (0 : Int32) D10)) else (some ((-2 : Int32), D)))
set_option maxRecDepth 100000 in
set_option maxHeartbeats 4000000 in
theorem G_X8_scatter {n : Nat} {K : Nat → Nat × Nat} {R : Nat → Nat → Option Nat} (v0 : Nat) (v1 : Int32) (v2 : Int64) (D : DD) (hv0 : isX8 n K R v0) : f_X8_scatter v0 v1 v2 ((n, K, R, D) : Mm) = (g_X8_scatter v0 v1 v2 D).map (lS n K R) := by
  unfold f_X8_scatter g_X8_scatter
  refine z_if (fun _ => ?_) (fun _ => ?_)
  ·
    rfl
  ·
    refine z_if (fun _ => ?_) (fun _ => ?_)
    ·
      refine z_ko (X8_o hv0) ?_
      refine z_rb (X8_r2 hv0) ?_
      refine z_rb (X8_r0 hv0) ?_
      refine z_ko (X0_o (X8_s2 hv0)) ?_
      refine z_cV (G_X0_note _ _ _ (X8_s2 hv0) (X8_s0 hv0)) (fun _ D10 => ?_)
      exact G_X8_scatter_31 1000 _ _ _ _ _ hv0
    ·
      rfl
set_option maxRecDepth 100000 in
def g_X8_undo (v0 : Nat) (D : DD) : Option (Int32 × DD) :=
  pcb (g_X0_count (v0 + 12) D) (fun r1 => if r1 = 0 then (some ((-3 : Int32), D)) else (vcb (g_X0_takeBack (v0 + 12) (v0 + 1) D) (fun D4 => vcb (g_X7_grow (v0 + 3) (v0 + 1) D4) (fun D6 => pcb (g_X0_count (v0 + 12) D6) (fun r7 => some (r7, D6))))))
set_option maxRecDepth 100000 in
set_option maxHeartbeats 4000000 in
theorem G_X8_undo {n : Nat} {K : Nat → Nat × Nat} {R : Nat → Nat → Option Nat} (v0 : Nat) (D : DD) (hv0 : isX8 n K R v0) : f_X8_undo v0 ((n, K, R, D) : Mm) = (g_X8_undo v0 D).map (lS n K R) := by
  unfold f_X8_undo g_X8_undo
  refine z_ko (X8_o hv0) ?_
  refine z_rb (X8_r2 hv0) ?_
  refine z_ko (X0_o (X8_s2 hv0)) ?_
  refine z_cP (G_X0_count _ _ (X8_s2 hv0)) (fun r1 he2 => ?_)
  refine z_if (fun _ => ?_) (fun _ => ?_)
  ·
    rfl
  ·
    refine z_ko (X8_o hv0) ?_
    refine z_rb (X8_r2 hv0) ?_
    refine z_rb (X8_r0 hv0) ?_
    refine z_ko (X0_o (X8_s2 hv0)) ?_
    refine z_cV (G_X0_takeBack _ _ _ (X8_s2 hv0) (X8_s0 hv0)) (fun _ D4 => ?_)
    refine z_ko (X8_o hv0) ?_
    refine z_rb (X8_r1 hv0) ?_
    refine z_rb (X8_r0 hv0) ?_
    refine z_ko (X7_o (X8_s1 hv0)) ?_
    refine z_cV (G_X7_grow _ _ _ (X8_s1 hv0) (X8_s0 hv0)) (fun _ D6 => ?_)
    refine z_ko (X8_o hv0) ?_
    refine z_rb (X8_r2 hv0) ?_
    refine z_ko (X0_o (X8_s2 hv0)) ?_
    refine z_cP (G_X0_count _ _ (X8_s2 hv0)) (fun r7 he8 => ?_)
    rfl
set_option maxRecDepth 100000 in
def g_X8_about (v0 : Nat) (v1 : Int32) (D : DD) : Option Int32 :=
  if v1 = (0 : Int32) then (pcb (g_X2_count (v0 + 1) D) (fun r1 => some r1)) else (if v1 = (1 : Int32) then (pcb (g_X7_rootDigest (v0 + 3) D) (fun r3 => some r3)) else (if v1 = (2 : Int32) then (pcb (g_X7_height (v0 + 3) D) (fun r5 => some r5)) else (if v1 = (3 : Int32) then (pcb (g_X2_sumWithin (v0 + 1) (0 : Int32) (99 : Int32) D) (fun r7 => some r7)) else (if v1 = (4 : Int32) then (pcb (g_X0_count (v0 + 12) D) (fun r9 => some r9)) else (if v1 = (5 : Int32) then (pcb (g_X1_count ((v0 + 42) + 1) D) (fun r11 => some r11)) else (if v1 = (6 : Int32) then (pcb (g_X5_trusted (v0 + 42) D) (fun r13 => some r13)) else (if v1 = (7 : Int32) then (pcb (g_X5_formerCount (v0 + 42) D) (fun r15 => some r15)) else (some (-2 : Int32)))))))))
set_option maxRecDepth 100000 in
set_option maxHeartbeats 4000000 in
theorem G_X8_about {n : Nat} {K : Nat → Nat × Nat} {R : Nat → Nat → Option Nat} (v0 : Nat) (v1 : Int32) (D : DD) (hv0 : isX8 n K R v0) : f_X8_about v0 v1 ((n, K, R, D) : Mm) = (g_X8_about v0 v1 D).map (lP n K R D) := by
  unfold f_X8_about g_X8_about
  refine z_if (fun _ => ?_) (fun _ => ?_)
  ·
    refine z_ko (X8_o hv0) ?_
    refine z_rb (X8_r0 hv0) ?_
    refine z_ko (X2_o (X8_s0 hv0)) ?_
    refine z_cP (G_X2_count _ _ (X8_s0 hv0)) (fun r1 he2 => ?_)
    rfl
  refine z_if (fun _ => ?_) (fun _ => ?_)
  ·
    refine z_ko (X8_o hv0) ?_
    refine z_rb (X8_r1 hv0) ?_
    refine z_ko (X7_o (X8_s1 hv0)) ?_
    refine z_cP (G_X7_rootDigest _ _ (X8_s1 hv0)) (fun r3 he4 => ?_)
    rfl
  refine z_if (fun _ => ?_) (fun _ => ?_)
  ·
    refine z_ko (X8_o hv0) ?_
    refine z_rb (X8_r1 hv0) ?_
    refine z_ko (X7_o (X8_s1 hv0)) ?_
    refine z_cP (G_X7_height _ _ (X8_s1 hv0)) (fun r5 he6 => ?_)
    rfl
  refine z_if (fun _ => ?_) (fun _ => ?_)
  ·
    refine z_ko (X8_o hv0) ?_
    refine z_rb (X8_r0 hv0) ?_
    refine z_ko (X2_o (X8_s0 hv0)) ?_
    refine z_cP (G_X2_sumWithin _ _ _ _ (X8_s0 hv0)) (fun r7 he8 => ?_)
    rfl
  refine z_if (fun _ => ?_) (fun _ => ?_)
  ·
    refine z_ko (X8_o hv0) ?_
    refine z_rb (X8_r2 hv0) ?_
    refine z_ko (X0_o (X8_s2 hv0)) ?_
    refine z_cP (G_X0_count _ _ (X8_s2 hv0)) (fun r9 he10 => ?_)
    rfl
  refine z_if (fun _ => ?_) (fun _ => ?_)
  ·
    refine z_ko (X8_o hv0) ?_
    refine z_rb (X8_r3 hv0) ?_
    refine z_ko (X5_o (X8_s3 hv0)) ?_
    refine z_cG (q_X5_row (X8_s3 hv0)) ?_
    refine z_ko (X1_o (X5_s0 (X8_s3 hv0))) ?_
    refine z_cP (G_X1_count _ _ (X5_s0 (X8_s3 hv0))) (fun r11 he12 => ?_)
    rfl
  refine z_if (fun _ => ?_) (fun _ => ?_)
  ·
    refine z_ko (X8_o hv0) ?_
    refine z_rb (X8_r3 hv0) ?_
    refine z_ko (X5_o (X8_s3 hv0)) ?_
    refine z_cP (G_X5_trusted _ _ (X8_s3 hv0)) (fun r13 he14 => ?_)
    rfl
  refine z_if (fun _ => ?_) (fun _ => ?_)
  ·
    refine z_ko (X8_o hv0) ?_
    refine z_rb (X8_r3 hv0) ?_
    refine z_ko (X5_o (X8_s3 hv0)) ?_
    refine z_cP (G_X5_formerCount _ _ (X8_s3 hv0)) (fun r15 he16 => ?_)
    rfl
  rfl
