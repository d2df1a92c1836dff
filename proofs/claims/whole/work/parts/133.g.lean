set_option maxRecDepth 100000 in
def g_X8_rank (v0 : Nat) (v1 : Int32) : Option Int32 :=
  pcb (g_X8_isNumber v1) (fun r1 => if r1 = 0 then (some (-2 : Int32)) else (pcb (g_X8_rankOf v1) (fun r3 => some r3)))
set_option maxRecDepth 100000 in
set_option maxHeartbeats 4000000 in
theorem G_X8_rank {n : Nat} {K : Nat → Nat × Nat} {R : Nat → Nat → Option Nat} (v0 : Nat) (v1 : Int32) (D : DD) (hv0 : isX8 n K R v0) : f_X8_rank v0 v1 ((n, K, R, D) : Mm) = (g_X8_rank v0 v1).map (lP n K R D) := by
  unfold f_X8_rank g_X8_rank
  refine z_cP (G_X8_isNumber _ _) (fun r1 he2 => ?_)
  refine z_if (fun _ => ?_) (fun _ => ?_)
  ·
    rfl
  ·
    refine z_cP (G_X8_rankOf _ _) (fun r3 he4 => ?_)
    rfl
set_option maxRecDepth 100000 in
def g_X8_isRange (v0 : Int32) (v1 : Int32) : Option Int32 :=
  if v0 < (0 : Int32) then (some (0 : Int32)) else (if v1 < v0 then (some (0 : Int32)) else (if (100 : Int32) ≤ v1 then (some (0 : Int32)) else (some (1 : Int32))))
set_option maxRecDepth 100000 in
set_option maxHeartbeats 4000000 in
theorem G_X8_isRange {n : Nat} {K : Nat → Nat × Nat} {R : Nat → Nat → Option Nat} (v0 : Int32) (v1 : Int32) (D : DD) : f_X8_isRange v0 v1 ((n, K, R, D) : Mm) = (g_X8_isRange v0 v1).map (lP n K R D) := by
  unfold f_X8_isRange g_X8_isRange
  refine z_if (fun _ => ?_) (fun _ => ?_)
  ·
    rfl
  ·
    refine z_if (fun _ => ?_) (fun _ => ?_)
    ·
      rfl
    ·
      refine z_if (fun _ => ?_) (fun _ => ?_)
      ·
        rfl
      ·
        rfl
set_option maxRecDepth 100000 in
def g_X8_proof (v0 : Nat) (v1 : Int32) (v2 : Int32) (v3 : Int32) (D : DD) : Option (Int32 × DD) :=
  pcb (g_X8_isRange v1 v2) (fun r1 => if r1 = 0 then (some ((-2 : Int32), D)) else (if v3 < 0 then (some ((-2 : Int32), D)) else (if v3 ≤ (2 : Int32) then (vcb (g_X7_writeProof (v0 + 3) (v0 + 1) v1 v2 (v0 + 72) D) (fun D4 => if v3 = 0 then (pcb (g_X1_count (v0 + 72) D4) (fun r5 => some (r5, D4))) else (if v3 = (1 : Int32) then (pcb (g_X1_countDigests (v0 + 72) D4) (fun r7 => some (r7, D4))) else (pcb (g_X1_countNodes (v0 + 72) D4) (fun r9 => some (r9, D4)))))) else (some ((-2 : Int32), D)))))
set_option maxRecDepth 100000 in
set_option maxHeartbeats 4000000 in
theorem G_X8_proof {n : Nat} {K : Nat → Nat × Nat} {R : Nat → Nat → Option Nat} (v0 : Nat) (v1 : Int32) (v2 : Int32) (v3 : Int32) (D : DD) (hv0 : isX8 n K R v0) : f_X8_proof v0 v1 v2 v3 ((n, K, R, D) : Mm) = (g_X8_proof v0 v1 v2 v3 D).map (lS n K R) := by
  unfold f_X8_proof g_X8_proof
  refine z_cP (G_X8_isRange _ _ _) (fun r1 he2 => ?_)
  refine z_if (fun _ => ?_) (fun _ => ?_)
  ·
    rfl
  ·
    refine z_if (fun _ => ?_) (fun _ => ?_)
    ·
      rfl
    ·
      refine z_if (fun _ => ?_) (fun _ => ?_)
      ·
        refine z_ko (X8_o hv0) ?_
        refine z_rb (X8_r1 hv0) ?_
        refine z_rb (X8_r0 hv0) ?_
        refine z_rb (X8_r7 hv0) ?_
        refine z_ko (X7_o (X8_s1 hv0)) ?_
        refine z_cV (G_X7_writeProof _ _ _ _ _ _ (X8_s1 hv0) (X8_s0 hv0) (X8_s7 hv0)) (fun _ D4 => ?_)
        refine z_if (fun _ => ?_) (fun _ => ?_)
        ·
          refine z_ko (X8_o hv0) ?_
          refine z_rb (X8_r7 hv0) ?_
          refine z_ko (X1_o (X8_s7 hv0)) ?_
          refine z_cP (G_X1_count _ _ (X8_s7 hv0)) (fun r5 he6 => ?_)
          rfl
        ·
          refine z_if (fun _ => ?_) (fun _ => ?_)
          ·
            refine z_ko (X8_o hv0) ?_
            refine z_rb (X8_r7 hv0) ?_
            refine z_ko (X1_o (X8_s7 hv0)) ?_
            refine z_cP (G_X1_countDigests _ _ (X8_s7 hv0)) (fun r7 he8 => ?_)
            rfl
          ·
            refine z_ko (X8_o hv0) ?_
            refine z_rb (X8_r7 hv0) ?_
            refine z_ko (X1_o (X8_s7 hv0)) ?_
            refine z_cP (G_X1_countNodes _ _ (X8_s7 hv0)) (fun r9 he10 => ?_)
            rfl
      ·
        rfl
set_option maxRecDepth 100000 in
def g_X8_item (v0 : Nat) (v1 : Int32) (v2 : Int32) (v3 : Int32) (D : DD) : Option (Int32 × DD) :=
  pcb (g_X8_isRange v1 v2) (fun r1 => if r1 = 0 then (some ((-2 : Int32), D)) else (vcb (g_X7_writeProof (v0 + 3) (v0 + 1) v1 v2 (v0 + 72) D) (fun D4 => pcb (g_X1_hasPlace (v0 + 72) v3 D4) (fun r5 => if r5 = 0 then (some ((-1 : Int32), D4)) else (pcb (g_X1_itemAt (v0 + 72) v3 D4) (fun r7 => some (r7, D4)))))))
set_option maxRecDepth 100000 in
set_option maxHeartbeats 4000000 in
theorem G_X8_item {n : Nat} {K : Nat → Nat × Nat} {R : Nat → Nat → Option Nat} (v0 : Nat) (v1 : Int32) (v2 : Int32) (v3 : Int32) (D : DD) (hv0 : isX8 n K R v0) : f_X8_item v0 v1 v2 v3 ((n, K, R, D) : Mm) = (g_X8_item v0 v1 v2 v3 D).map (lS n K R) := by
  unfold f_X8_item g_X8_item
  refine z_cP (G_X8_isRange _ _ _) (fun r1 he2 => ?_)
  refine z_if (fun _ => ?_) (fun _ => ?_)
  ·
    rfl
  ·
    refine z_ko (X8_o hv0) ?_
    refine z_rb (X8_r1 hv0) ?_
    refine z_rb (X8_r0 hv0) ?_
    refine z_rb (X8_r7 hv0) ?_
    refine z_ko (X7_o (X8_s1 hv0)) ?_
    refine z_cV (G_X7_writeProof _ _ _ _ _ _ (X8_s1 hv0) (X8_s0 hv0) (X8_s7 hv0)) (fun _ D4 => ?_)
    refine z_ko (X8_o hv0) ?_
    refine z_rb (X8_r7 hv0) ?_
    refine z_ko (X1_o (X8_s7 hv0)) ?_
    refine z_cP (G_X1_hasPlace _ _ _ (X8_s7 hv0)) (fun r5 he6 => ?_)
    refine z_if (fun _ => ?_) (fun _ => ?_)
    ·
      rfl
    ·
      refine z_ko (X8_o hv0) ?_
      refine z_rb (X8_r7 hv0) ?_
      refine z_ko (X1_o (X8_s7 hv0)) ?_
      refine z_cP (G_X1_itemAt _ _ _ (X8_s7 hv0)) (fun r7 he8 => ?_)
      rfl
set_option maxRecDepth 100000 in
def g_X8_lengths_47 (k_22 : Nat → Int32 → Int32 → Int32 → Int32 → Int32 → DD → Option Int32) (v0 : Nat) (v1 : Int32) (v2 : Int32) (v3 : Int32) (v4 : Int32) (v5 : Int32) (D : DD) : Option Int32 :=
  k_22 v0 v1 v2 v3 v4 (v5 + (-1 : Int32)) D
set_option maxRecDepth 100000 in
set_option maxHeartbeats 4000000 in
theorem G_X8_lengths_47 {n : Nat} {K : Nat → Nat × Nat} {R : Nat → Nat → Option Nat} (k_22 : Nat → Int32 → Int32 → Int32 → Int32 → Int32 → DD → Option Int32) (f_22 : Nat → Int32 → Int32 → Int32 → Int32 → Int32 → Mm → Option (Int32 × Mm)) (hk_22 : ∀ (v0 : Nat) (v1 : Int32) (v2 : Int32) (v3 : Int32) (v4 : Int32) (v5 : Int32) (D : DD) (hv0 : isX8 n K R v0), f_22 v0 v1 v2 v3 v4 v5 ((n, K, R, D) : Mm) = (k_22 v0 v1 v2 v3 v4 v5 D).map (lP n K R D)) (v0 : Nat) (v1 : Int32) (v2 : Int32) (v3 : Int32) (v4 : Int32) (v5 : Int32) (D : DD) (hv0 : isX8 n K R v0) : f_X8_lengths_47 f_22 v0 v1 v2 v3 v4 v5 ((n, K, R, D) : Mm) = (g_X8_lengths_47 k_22 v0 v1 v2 v3 v4 v5 D).map (lP n K R D) := by
  unfold f_X8_lengths_47 g_X8_lengths_47
  exact hk_22 _ _ _ _ _ _ _ hv0
set_option maxRecDepth 100000 in
def g_X8_lengths_22 : Nat → Nat → Int32 → Int32 → Int32 → Int32 → Int32 → DD → Option Int32
  | 0, _, _, _, _, _, _, _ => none
  | n + 1, v0, v1, v2, v3, v4, v5, D =>
    if v5 < 0 then (if v2 = 0 then (some v3) else (some v4)) else (pcb (g_X7_proofLengthOf (v0 + 3) v5 D) (fun r1 => if r1 = v1 then (g_X8_lengths_47 (g_X8_lengths_22 n) v0 v1 v2 (v3 + (1 : Int32)) v5 v5 D) else (g_X8_lengths_47 (g_X8_lengths_22 n) v0 v1 v2 v3 v4 v5 D)))
set_option maxRecDepth 100000 in
set_option maxHeartbeats 4000000 in
theorem G_X8_lengths_22 {n : Nat} {K : Nat → Nat × Nat} {R : Nat → Nat → Option Nat} : ∀ (N : Nat) (v0 : Nat) (v1 : Int32) (v2 : Int32) (v3 : Int32) (v4 : Int32) (v5 : Int32) (D : DD) (hv0 : isX8 n K R v0), f_X8_lengths_22 N v0 v1 v2 v3 v4 v5 ((n, K, R, D) : Mm) = (g_X8_lengths_22 N v0 v1 v2 v3 v4 v5 D).map (lP n K R D) := by
  intro N
  induction N with
  | zero => intros; rfl
  | succ N ih =>
    intro v0 v1 v2 v3 v4 v5 D hv0
    unfold f_X8_lengths_22 g_X8_lengths_22
    refine z_if (fun _ => ?_) (fun _ => ?_)
    ·
      refine z_if (fun _ => ?_) (fun _ => ?_)
      ·
        rfl
      ·
        rfl
    ·
      refine z_ko (X8_o hv0) ?_
      refine z_rb (X8_r1 hv0) ?_
      refine z_ko (X7_o (X8_s1 hv0)) ?_
      refine z_cP (G_X7_proofLengthOf _ _ _ (X8_s1 hv0)) (fun r1 he2 => ?_)
      refine z_if (fun _ => ?_) (fun _ => ?_)
      ·
        exact G_X8_lengths_47 _ _ ih _ _ _ _ _ _ _ hv0
      ·
        exact G_X8_lengths_47 _ _ ih _ _ _ _ _ _ _ hv0
set_option maxRecDepth 100000 in
def g_X8_lengths_12 (v0 : Nat) (v1 : Int32) (v2 : Int32) (D : DD) : Option Int32 :=
  g_X8_lengths_22 1000 v0 v1 v2 (0 : Int32) (-9 : Int32) (99 : Int32) D
set_option maxRecDepth 100000 in
set_option maxHeartbeats 4000000 in
theorem G_X8_lengths_12 {n : Nat} {K : Nat → Nat × Nat} {R : Nat → Nat → Option Nat} (v0 : Nat) (v1 : Int32) (v2 : Int32) (D : DD) (hv0 : isX8 n K R v0) : f_X8_lengths_12 v0 v1 v2 ((n, K, R, D) : Mm) = (g_X8_lengths_12 v0 v1 v2 D).map (lP n K R D) := by
  unfold f_X8_lengths_12 g_X8_lengths_12
  exact G_X8_lengths_22 1000 _ _ _ _ _ _ _ hv0
set_option maxRecDepth 100000 in
def g_X8_lengths (v0 : Nat) (v1 : Int32) (v2 : Int32) (D : DD) : Option Int32 :=
  if v2 = 0 then (g_X8_lengths_12 v0 v1 v2 D) else (if v2 = (1 : Int32) then (g_X8_lengths_12 v0 v1 v2 D) else (some (-2 : Int32)))
set_option maxRecDepth 100000 in
set_option maxHeartbeats 4000000 in
theorem G_X8_lengths {n : Nat} {K : Nat → Nat × Nat} {R : Nat → Nat → Option Nat} (v0 : Nat) (v1 : Int32) (v2 : Int32) (D : DD) (hv0 : isX8 n K R v0) : f_X8_lengths v0 v1 v2 ((n, K, R, D) : Mm) = (g_X8_lengths v0 v1 v2 D).map (lP n K R D) := by
  unfold f_X8_lengths g_X8_lengths
  refine z_if (fun _ => ?_) (fun _ => ?_)
  ·
    exact G_X8_lengths_12 _ _ _ _ hv0
  ·
    refine z_if (fun _ => ?_) (fun _ => ?_)
    ·
      exact G_X8_lengths_12 _ _ _ _ hv0
    ·
      rfl
set_option maxRecDepth 100000 in
def g_X8_send (v0 : Nat) (v1 : Int32) (v2 : Int32) (D : DD) : Option (Int32 × DD) :=
  pcb (g_X8_isRange v1 v2) (fun r1 => if r1 = 0 then (some ((-2 : Int32), D)) else (vcb (g_X7_writeProof (v0 + 3) (v0 + 1) v1 v2 ((v0 + 42) + 1) D) (fun D4 => pcb (g_X1_count ((v0 + 42) + 1) D4) (fun r5 => some (r5, D4)))))
set_option maxRecDepth 100000 in
set_option maxHeartbeats 4000000 in
theorem G_X8_send {n : Nat} {K : Nat → Nat × Nat} {R : Nat → Nat → Option Nat} (v0 : Nat) (v1 : Int32) (v2 : Int32) (D : DD) (hv0 : isX8 n K R v0) : f_X8_send v0 v1 v2 ((n, K, R, D) : Mm) = (g_X8_send v0 v1 v2 D).map (lS n K R) := by
  unfold f_X8_send g_X8_send
  refine z_cP (G_X8_isRange _ _ _) (fun r1 he2 => ?_)
  refine z_if (fun _ => ?_) (fun _ => ?_)
  ·
    rfl
  ·
    refine z_ko (X8_o hv0) ?_
    refine z_rb (X8_r1 hv0) ?_
    refine z_rb (X8_r0 hv0) ?_
    refine z_rb (X8_r3 hv0) ?_
    refine z_ko (X5_o (X8_s3 hv0)) ?_
    refine z_cG (q_X5_row (X8_s3 hv0)) ?_
    refine z_ko (X7_o (X8_s1 hv0)) ?_
    refine z_cV (G_X7_writeProof _ _ _ _ _ _ (X8_s1 hv0) (X8_s0 hv0) (X5_s0 (X8_s3 hv0))) (fun _ D4 => ?_)
    refine z_ko (X8_o hv0) ?_
    refine z_rb (X8_r3 hv0) ?_
    refine z_ko (X5_o (X8_s3 hv0)) ?_
    refine z_cG (q_X5_row (X8_s3 hv0)) ?_
    refine z_ko (X1_o (X5_s0 (X8_s3 hv0))) ?_
    refine z_cP (G_X1_count _ _ (X5_s0 (X8_s3 hv0))) (fun r5 he6 => ?_)
    rfl
set_option maxRecDepth 100000 in
def g_X8_isNodeItem (v0 : Int32) : Option Int32 :=
  if (-100 : Int32) < v0 then (some (0 : Int32)) else (if v0 < (-10099 : Int32) then (some (0 : Int32)) else (some (1 : Int32)))
set_option maxRecDepth 100000 in
set_option maxHeartbeats 4000000 in
theorem G_X8_isNodeItem {n : Nat} {K : Nat → Nat × Nat} {R : Nat → Nat → Option Nat} (v0 : Int32) (D : DD) : f_X8_isNodeItem v0 ((n, K, R, D) : Mm) = (g_X8_isNodeItem v0).map (lP n K R D) := by
  unfold f_X8_isNodeItem g_X8_isNodeItem
  refine z_if (fun _ => ?_) (fun _ => ?_)
  ·
    rfl
  ·
    refine z_if (fun _ => ?_) (fun _ => ?_)
    ·
      rfl
    ·
      rfl
set_option maxRecDepth 100000 in
def g_X8_isItem (v0 : Int32) : Option Int32 :=
  if 0 ≤ v0 then (some (1 : Int32)) else (pcb (g_X8_isNodeItem v0) (fun r1 => if r1 = 0 then (some (0 : Int32)) else (some (1 : Int32))))
set_option maxRecDepth 100000 in
set_option maxHeartbeats 4000000 in
theorem G_X8_isItem {n : Nat} {K : Nat → Nat × Nat} {R : Nat → Nat → Option Nat} (v0 : Int32) (D : DD) : f_X8_isItem v0 ((n, K, R, D) : Mm) = (g_X8_isItem v0).map (lP n K R D) := by
  unfold f_X8_isItem g_X8_isItem
  refine z_if (fun _ => ?_) (fun _ => ?_)
  ·
    rfl
  ·
    refine z_cP (G_X8_isNodeItem _ _) (fun r1 he2 => ?_)
    refine z_if (fun _ => ?_) (fun _ => ?_)
    ·
      rfl
    ·
      rfl
set_option maxRecDepth 100000 in
def g_X8_tell (v0 : Nat) (v1 : Int32) (D : DD) : Option (Int32 × DD) :=
  pcb (g_X8_isItem v1) (fun r1 => if r1 = 0 then (some ((-2 : Int32), D)) else (pcb (g_X1_isFull ((v0 + 42) + 1) D) (fun r3 => if r3 = 0 then (vcb (g_X1_add ((v0 + 42) + 1) v1 D) (fun D6 => pcb (g_X1_count ((v0 + 42) + 1) D6) (fun r7 => some (r7, D6)))) else (some ((-4 : Int32), D)))))
set_option maxRecDepth 100000 in
set_option maxHeartbeats 4000000 in
theorem G_X8_tell {n : Nat} {K : Nat → Nat × Nat} {R : Nat → Nat → Option Nat} (v0 : Nat) (v1 : Int32) (D : DD) (hv0 : isX8 n K R v0) : f_X8_tell v0 v1 ((n, K, R, D) : Mm) = (g_X8_tell v0 v1 D).map (lS n K R) := by
  unfold f_X8_tell g_X8_tell
  refine z_cP (G_X8_isItem _ _) (fun r1 he2 => ?_)
  refine z_if (fun _ => ?_) (fun _ => ?_)
  ·
    rfl
  ·
    refine z_ko (X8_o hv0) ?_
    refine z_rb (X8_r3 hv0) ?_
    refine z_ko (X5_o (X8_s3 hv0)) ?_
    refine z_cG (q_X5_row (X8_s3 hv0)) ?_
    refine z_ko (X1_o (X5_s0 (X8_s3 hv0))) ?_
    refine z_cP (G_X1_isFull _ _ (X5_s0 (X8_s3 hv0))) (fun r3 he4 => ?_)
    refine z_if (fun _ => ?_) (fun _ => ?_)
    ·
      refine z_ko (X8_o hv0) ?_
      refine z_rb (X8_r3 hv0) ?_
      refine z_ko (X5_o (X8_s3 hv0)) ?_
      refine z_cG (q_X5_row (X8_s3 hv0)) ?_
      refine z_ko (X1_o (X5_s0 (X8_s3 hv0))) ?_
      refine z_cV (G_X1_add _ _ _ (X5_s0 (X8_s3 hv0))) (fun _ D6 => ?_)
      refine z_ko (X8_o hv0) ?_
      refine z_rb (X8_r3 hv0) ?_
      refine z_ko (X5_o (X8_s3 hv0)) ?_
      refine z_cG (q_X5_row (X8_s3 hv0)) ?_
      refine z_ko (X1_o (X5_s0 (X8_s3 hv0))) ?_
      refine z_cP (G_X1_count _ _ (X5_s0 (X8_s3 hv0))) (fun r7 he8 => ?_)
      rfl
    ·
      rfl
set_option maxRecDepth 100000 in
def g_X8_alter (v0 : Nat) (v1 : Int32) (v2 : Int32) (D : DD) : Option (Int32 × DD) :=
  pcb (g_X1_hasPlace ((v0 + 42) + 1) v1 D) (fun r1 => if r1 = 0 then (some ((-1 : Int32), D)) else (pcb (g_X8_isItem v2) (fun r3 => if r3 = 0 then (some ((-2 : Int32), D)) else (pcb (g_X1_itemAt ((v0 + 42) + 1) v1 D) (fun r5 => vcb (g_X1_replace ((v0 + 42) + 1) v1 v2 D) (fun D8 => some (r5, D8)))))))
set_option maxRecDepth 100000 in
set_option maxHeartbeats 4000000 in
theorem G_X8_alter {n : Nat} {K : Nat → Nat × Nat} {R : Nat → Nat → Option Nat} (v0 : Nat) (v1 : Int32) (v2 : Int32) (D : DD) (hv0 : isX8 n K R v0) : f_X8_alter v0 v1 v2 ((n, K, R, D) : Mm) = (g_X8_alter v0 v1 v2 D).map (lS n K R) := by
  unfold f_X8_alter g_X8_alter
  refine z_ko (X8_o hv0) ?_
  refine z_rb (X8_r3 hv0) ?_
  refine z_ko (X5_o (X8_s3 hv0)) ?_
  refine z_cG (q_X5_row (X8_s3 hv0)) ?_
  refine z_ko (X1_o (X5_s0 (X8_s3 hv0))) ?_
  refine z_cP (G_X1_hasPlace _ _ _ (X5_s0 (X8_s3 hv0))) (fun r1 he2 => ?_)
  refine z_if (fun _ => ?_) (fun _ => ?_)
  ·
    rfl
  ·
    refine z_cP (G_X8_isItem _ _) (fun r3 he4 => ?_)
    refine z_if (fun _ => ?_) (fun _ => ?_)
    ·
      rfl
    ·
      refine z_ko (X8_o hv0) ?_
      refine z_rb (X8_r3 hv0) ?_
      refine z_ko (X5_o (X8_s3 hv0)) ?_
      refine z_cG (q_X5_row (X8_s3 hv0)) ?_
      refine z_ko (X1_o (X5_s0 (X8_s3 hv0))) ?_
      refine z_cP (G_X1_itemAt _ _ _ (X5_s0 (X8_s3 hv0))) (fun r5 he6 => ?_)
      refine z_ko (X8_o hv0) ?_
      refine z_rb (X8_r3 hv0) ?_
      refine z_ko (X5_o (X8_s3 hv0)) ?_
      refine z_cG (q_X5_row (X8_s3 hv0)) ?_
      refine z_ko (X1_o (X5_s0 (X8_s3 hv0))) ?_
      refine z_cV (G_X1_replace _ _ _ _ (X5_s0 (X8_s3 hv0))) (fun _ D8 => ?_)
      rfl
set_option maxRecDepth 100000 in
def g_X8_cut (v0 : Nat) (v1 : Int32) (D : DD) : Option (Int32 × DD) :=
  pcb (g_X1_count ((v0 + 42) + 1) D) (fun r1 => if v1 < 0 then (some ((-2 : Int32), D)) else (if v1 ≤ r1 then (vcb (g_X1_shorten ((v0 + 42) + 1) v1 D) (fun D4 => some (r1, D4))) else (some ((-2 : Int32), D))))
set_option maxRecDepth 100000 in
set_option maxHeartbeats 4000000 in
theorem G_X8_cut {n : Nat} {K : Nat → Nat × Nat} {R : Nat → Nat → Option Nat} (v0 : Nat) (v1 : Int32) (D : DD) (hv0 : isX8 n K R v0) : f_X8_cut v0 v1 ((n, K, R, D) : Mm) = (g_X8_cut v0 v1 D).map (lS n K R) := by
  unfold f_X8_cut g_X8_cut
  refine z_ko (X8_o hv0) ?_
  refine z_rb (X8_r3 hv0) ?_
  refine z_ko (X5_o (X8_s3 hv0)) ?_
  refine z_cG (q_X5_row (X8_s3 hv0)) ?_
  refine z_ko (X1_o (X5_s0 (X8_s3 hv0))) ?_
  refine z_cP (G_X1_count _ _ (X5_s0 (X8_s3 hv0))) (fun r1 he2 => ?_)
  refine z_if (fun _ => ?_) (fun _ => ?_)
  ·
    rfl
  ·
    refine z_if (fun _ => ?_) (fun _ => ?_)
    ·
      refine z_ko (X8_o hv0) ?_
      refine z_rb (X8_r3 hv0) ?_
      refine z_ko (X5_o (X8_s3 hv0)) ?_
      refine z_cG (q_X5_row (X8_s3 hv0)) ?_
      refine z_ko (X1_o (X5_s0 (X8_s3 hv0))) ?_
      refine z_cV (G_X1_shorten _ _ _ (X5_s0 (X8_s3 hv0))) (fun _ D4 => ?_)
      rfl
    ·
      rfl
set_option maxRecDepth 100000 in
def g_X8_trust (v0 : Nat) (D : DD) : Option (Int32 × DD) :=
  pcb (g_X7_rootDigest (v0 + 3) D) (fun r1 => dcb (g_X5_nowTrust (v0 + 42) r1 D) (fun r3 D4 => some (r3, D4)))
set_option maxRecDepth 100000 in
set_option maxHeartbeats 4000000 in
theorem G_X8_trust {n : Nat} {K : Nat → Nat × Nat} {R : Nat → Nat → Option Nat} (v0 : Nat) (D : DD) (hv0 : isX8 n K R v0) : f_X8_trust v0 ((n, K, R, D) : Mm) = (g_X8_trust v0 D).map (lS n K R) := by
  unfold f_X8_trust g_X8_trust
  refine z_ko (X8_o hv0) ?_
  refine z_rb (X8_r3 hv0) ?_
  refine z_rb (X8_r1 hv0) ?_
  refine z_ko (X7_o (X8_s1 hv0)) ?_
  refine z_cP (G_X7_rootDigest _ _ (X8_s1 hv0)) (fun r1 he2 => ?_)
  refine z_ko (X5_o (X8_s3 hv0)) ?_
  refine z_cS (G_X5_nowTrust _ _ _ (X8_s3 hv0)) (fun r3 D4 => ?_)
  rfl
set_option maxRecDepth 100000 in
def g_X8_believe (v0 : Nat) (v1 : Int32) (D : DD) : Option (Int32 × DD) :=
  if 0 ≤ v1 then (dcb (g_X5_nowTrust (v0 + 42) v1 D) (fun r1 D2 => some (r1, D2))) else (some ((-2 : Int32), D))
set_option maxRecDepth 100000 in
set_option maxHeartbeats 4000000 in
theorem G_X8_believe {n : Nat} {K : Nat → Nat × Nat} {R : Nat → Nat → Option Nat} (v0 : Nat) (v1 : Int32) (D : DD) (hv0 : isX8 n K R v0) : f_X8_believe v0 v1 ((n, K, R, D) : Mm) = (g_X8_believe v0 v1 D).map (lS n K R) := by
  unfold f_X8_believe g_X8_believe
  refine z_if (fun _ => ?_) (fun _ => ?_)
  ·
    refine z_ko (X8_o hv0) ?_
    refine z_rb (X8_r3 hv0) ?_
    refine z_ko (X5_o (X8_s3 hv0)) ?_
    refine z_cS (G_X5_nowTrust _ _ _ (X8_s3 hv0)) (fun r1 D2 => ?_)
    rfl
  ·
    rfl
set_option maxRecDepth 100000 in
def g_X8_read (v0 : Nat) (v1 : Int32) (v2 : Int32) (D : DD) : Option (Int32 × DD) :=
  pcb (g_X8_isRange v1 v2) (fun r1 => if r1 = 0 then (some ((-2 : Int32), D)) else (dcb (g_X5_reasonBy (v0 + 42) v1 v2 D) (fun r3 D4 => some (r3, D4))))
set_option maxRecDepth 100000 in
set_option maxHeartbeats 4000000 in
theorem G_X8_read {n : Nat} {K : Nat → Nat × Nat} {R : Nat → Nat → Option Nat} (v0 : Nat) (v1 : Int32) (v2 : Int32) (D : DD) (hv0 : isX8 n K R v0) : f_X8_read v0 v1 v2 ((n, K, R, D) : Mm) = (g_X8_read v0 v1 v2 D).map (lS n K R) := by
  unfold f_X8_read g_X8_read
  refine z_cP (G_X8_isRange _ _ _) (fun r1 he2 => ?_)
  refine z_if (fun _ => ?_) (fun _ => ?_)
  ·
    rfl
  ·
    refine z_ko (X8_o hv0) ?_
    refine z_rb (X8_r3 hv0) ?_
    refine z_ko (X5_o (X8_s3 hv0)) ?_
    refine z_cS (G_X5_reasonBy _ _ _ _ (X8_s3 hv0)) (fun r3 D4 => ?_)
    rfl
set_option maxRecDepth 100000 in
def g_X8_learnt (v0 : Nat) (v1 : Int32) (v2 : Int32) (v3 : Int32) (D : DD) : Option (Int32 × DD) :=
  pcb (g_X8_isRange v1 v2) (fun r1 => if r1 = 0 then (some ((-2 : Int32), D)) else (if v3 < 0 then (some ((-2 : Int32), D)) else (if v3 ≤ (4 : Int32) then (dcb (g_X5_reasonBy (v0 + 42) v1 v2 D) (fun r3 D4 => if r3 = 0 then (if v3 = (0 : Int32) then (pcb (g_X2_countWithin ((v0 + 42) + 4) v1 v2 D4) (fun r5 => some (r5, D4))) else (if v3 = (1 : Int32) then (pcb (g_X2_sumWithin ((v0 + 42) + 4) v1 v2 D4) (fun r7 => some (r7, D4))) else (if v3 = (2 : Int32) then (pcb (g_X2_greatestBelow ((v0 + 42) + 4) v1 D4) (fun r9 => some (r9, D4))) else (if v3 = (3 : Int32) then (pcb (g_X2_leastAbove ((v0 + 42) + 4) v2 D4) (fun r11 => some (r11, D4))) else (pcb (g_X2_count ((v0 + 42) + 4) D4) (fun r13 => some (r13, D4))))))) else (some ((-3 : Int32), D4)))) else (some ((-2 : Int32), D)))))
set_option maxRecDepth 100000 in
set_option maxHeartbeats 4000000 in
theorem G_X8_learnt {n : Nat} {K : Nat → Nat × Nat} {R : Nat → Nat → Option Nat} (v0 : Nat) (v1 : Int32) (v2 : Int32) (v3 : Int32) (D : DD) (hv0 : isX8 n K R v0) : f_X8_learnt v0 v1 v2 v3 ((n, K, R, D) : Mm) = (g_X8_learnt v0 v1 v2 v3 D).map (lS n K R) := by
  unfold f_X8_learnt g_X8_learnt
  refine z_cP (G_X8_isRange _ _ _) (fun r1 he2 => ?_)
  refine z_if (fun _ => ?_) (fun _ => ?_)
  ·
    rfl
  ·
    refine z_if (fun _ => ?_) (fun _ => ?_)
    ·
      rfl
    ·
      refine z_if (fun _ => ?_) (fun _ => ?_)
      ·
        refine z_ko (X8_o hv0) ?_
        refine z_rb (X8_r3 hv0) ?_
        refine z_ko (X5_o (X8_s3 hv0)) ?_
        refine z_cS (G_X5_reasonBy _ _ _ _ (X8_s3 hv0)) (fun r3 D4 => ?_)
        refine z_if (fun _ => ?_) (fun _ => ?_)
        ·
          refine z_ko (X8_o hv0) ?_
          refine z_rb (X8_r3 hv0) ?_
          refine z_ko (X5_o (X8_s3 hv0)) ?_
          refine z_cG (q_X5_shown (X8_s3 hv0)) ?_
          refine z_if (fun _ => ?_) (fun _ => ?_)
          ·
            refine z_ko (X2_o (X5_s4 (X8_s3 hv0))) ?_
            refine z_cP (G_X2_countWithin _ _ _ _ (X5_s4 (X8_s3 hv0))) (fun r5 he6 => ?_)
            rfl
          refine z_if (fun _ => ?_) (fun _ => ?_)
          ·
            refine z_ko (X2_o (X5_s4 (X8_s3 hv0))) ?_
            refine z_cP (G_X2_sumWithin _ _ _ _ (X5_s4 (X8_s3 hv0))) (fun r7 he8 => ?_)
            rfl
          refine z_if (fun _ => ?_) (fun _ => ?_)
          ·
            refine z_ko (X2_o (X5_s4 (X8_s3 hv0))) ?_
            refine z_cP (G_X2_greatestBelow _ _ _ (X5_s4 (X8_s3 hv0))) (fun r9 he10 => ?_)
            rfl
          refine z_if (fun _ => ?_) (fun _ => ?_)
          ·
            refine z_ko (X2_o (X5_s4 (X8_s3 hv0))) ?_
            refine z_cP (G_X2_leastAbove _ _ _ (X5_s4 (X8_s3 hv0))) (fun r11 he12 => ?_)
            rfl
          refine z_ko (X2_o (X5_s4 (X8_s3 hv0))) ?_
          refine z_cP (G_X2_count _ _ (X5_s4 (X8_s3 hv0))) (fun r13 he14 => ?_)
          rfl
        ·
          rfl
      ·
        rfl
set_option maxRecDepth 100000 in
def g_X8_found (v0 : Nat) (v1 : Int32) (v2 : Int32) (v3 : Int32) (D : DD) : Option (Int32 × DD) :=
  pcb (g_X8_isRange v1 v2) (fun r1 => if r1 = 0 then (some ((-2 : Int32), D)) else (dcb (g_X5_reasonBy (v0 + 42) v1 v2 D) (fun r3 D4 => if r3 = 0 then (pcb (g_X2_keyOfPlace ((v0 + 42) + 4) v1 v2 v3 D4) (fun r5 => if r5 = (-9 : Int32) then (some ((-9 : Int32), D4)) else (pcb (g_X2_valueOf ((v0 + 42) + 4) r5 D4) (fun r7 => some ((((100 : Int32) * r5) + r7), D4))))) else (some ((-3 : Int32), D4)))))
set_option maxRecDepth 100000 in
set_option maxHeartbeats 4000000 in
theorem G_X8_found {n : Nat} {K : Nat → Nat × Nat} {R : Nat → Nat → Option Nat} (v0 : Nat) (v1 : Int32) (v2 : Int32) (v3 : Int32) (D : DD) (hv0 : isX8 n K R v0) : f_X8_found v0 v1 v2 v3 ((n, K, R, D) : Mm) = (g_X8_found v0 v1 v2 v3 D).map (lS n K R) := by
  unfold f_X8_found g_X8_found
  refine z_cP (G_X8_isRange _ _ _) (fun r1 he2 => ?_)
  refine z_if (fun _ => ?_) (fun _ => ?_)
  ·
    rfl
  ·
    refine z_ko (X8_o hv0) ?_
    refine z_rb (X8_r3 hv0) ?_
    refine z_ko (X5_o (X8_s3 hv0)) ?_
    refine z_cS (G_X5_reasonBy _ _ _ _ (X8_s3 hv0)) (fun r3 D4 => ?_)
    refine z_if (fun _ => ?_) (fun _ => ?_)
    ·
      refine z_ko (X8_o hv0) ?_
      refine z_rb (X8_r3 hv0) ?_
      refine z_ko (X5_o (X8_s3 hv0)) ?_
      refine z_cG (q_X5_shown (X8_s3 hv0)) ?_
      refine z_ko (X2_o (X5_s4 (X8_s3 hv0))) ?_
      refine z_cP (G_X2_keyOfPlace _ _ _ _ _ (X5_s4 (X8_s3 hv0))) (fun r5 he6 => ?_)
      refine z_if (fun _ => ?_) (fun _ => ?_)
      ·
        rfl
      ·
        refine z_ko (X2_o (X5_s4 (X8_s3 hv0))) ?_
        refine z_cP (G_X2_valueOf _ _ _ (X5_s4 (X8_s3 hv0))) (fun r7 he8 => ?_)
        rfl
    ·
      rfl
set_option maxRecDepth 100000 in
def g_X8_isStep (v0 : Int32) (v1 : Int32) : Option Int32 :=
  pcb (g_X8_isNumber v0) (fun r1 => if r1 = 0 then (some (0 : Int32)) else (pcb (g_X8_isNumber v1) (fun r3 => if r3 = 0 then (if v1 = (-9 : Int32) then (some (1 : Int32)) else (some (0 : Int32))) else (some (1 : Int32)))))
set_option maxRecDepth 100000 in
set_option maxHeartbeats 4000000 in
theorem G_X8_isStep {n : Nat} {K : Nat → Nat × Nat} {R : Nat → Nat → Option Nat} (v0 : Int32) (v1 : Int32) (D : DD) : f_X8_isStep v0 v1 ((n, K, R, D) : Mm) = (g_X8_isStep v0 v1).map (lP n K R D) := by
  unfold f_X8_isStep g_X8_isStep
  refine z_cP (G_X8_isNumber _ _) (fun r1 he2 => ?_)
  refine z_if (fun _ => ?_) (fun _ => ?_)
  ·
    rfl
  ·
    refine z_cP (G_X8_isNumber _ _) (fun r3 he4 => ?_)
    refine z_if (fun _ => ?_) (fun _ => ?_)
    ·
      refine z_if (fun _ => ?_) (fun _ => ?_)
      ·
        rfl
      ·
        rfl
    ·
      rfl
set_option maxRecDepth 100000 in
def g_X8_step (v0 : Nat) (v1 : Int32) (v2 : Int32) (D : DD) : Option (Int32 × DD) :=
  pcb (g_X8_isStep v1 v2) (fun r1 => if r1 = 0 then (some ((-2 : Int32), D)) else (dcb (g_X5_digestAfter (v0 + 42) v1 v2 D) (fun r3 D4 => some (r3, D4))))
set_option maxRecDepth 100000 in
set_option maxHeartbeats 4000000 in
theorem G_X8_step {n : Nat} {K : Nat → Nat × Nat} {R : Nat → Nat → Option Nat} (v0 : Nat) (v1 : Int32) (v2 : Int32) (D : DD) (hv0 : isX8 n K R v0) : f_X8_step v0 v1 v2 ((n, K, R, D) : Mm) = (g_X8_step v0 v1 v2 D).map (lS n K R) := by
  unfold f_X8_step g_X8_step
  refine z_cP (G_X8_isStep _ _ _) (fun r1 he2 => ?_)
  refine z_if (fun _ => ?_) (fun _ => ?_)
  ·
    rfl
  ·
    refine z_ko (X8_o hv0) ?_
    refine z_rb (X8_r3 hv0) ?_
    refine z_ko (X5_o (X8_s3 hv0)) ?_
    refine z_cS (G_X5_digestAfter _ _ _ _ (X8_s3 hv0)) (fun r3 D4 => ?_)
    rfl
set_option maxRecDepth 100000 in
def g_X8_follow (v0 : Nat) (v1 : Int32) (v2 : Int32) (D : DD) : Option (Int32 × DD) :=
  pcb (g_X8_isStep v1 v2) (fun r1 => if r1 = 0 then (some ((-2 : Int32), D)) else (dcb (g_X5_digestAfter (v0 + 42) v1 v2 D) (fun r3 D4 => if 0 ≤ r3 then (dcb (g_X5_nowTrust (v0 + 42) r3 D4) (fun r5 D6 => some (r5, D6))) else (some (r3, D4)))))
set_option maxRecDepth 100000 in
set_option maxHeartbeats 4000000 in
theorem G_X8_follow {n : Nat} {K : Nat → Nat × Nat} {R : Nat → Nat → Option Nat} (v0 : Nat) (v1 : Int32) (v2 : Int32) (D : DD) (hv0 : isX8 n K R v0) : f_X8_follow v0 v1 v2 ((n, K, R, D) : Mm) = (g_X8_follow v0 v1 v2 D).map (lS n K R) := by
  unfold f_X8_follow g_X8_follow
  refine z_cP (G_X8_isStep _ _ _) (fun r1 he2 => ?_)
  refine z_if (fun _ => ?_) (fun _ => ?_)
  ·
    rfl
  ·
    refine z_ko (X8_o hv0) ?_
    refine z_rb (X8_r3 hv0) ?_
    refine z_ko (X5_o (X8_s3 hv0)) ?_
    refine z_cS (G_X5_digestAfter _ _ _ _ (X8_s3 hv0)) (fun r3 D4 => ?_)
    refine z_if (fun _ => ?_) (fun _ => ?_)
    ·
      refine z_ko (X8_o hv0) ?_
      refine z_rb (X8_r3 hv0) ?_
      refine z_ko (X5_o (X8_s3 hv0)) ?_
      refine z_cS (G_X5_nowTrust _ _ _ (X8_s3 hv0)) (fun r5 D6 => ?_)
      rfl
    ·
      rfl
set_option maxRecDepth 100000 in
def g_X8_former (v0 : Nat) (v1 : Int32) (D : DD) : Option Int32 :=
  if v1 < 0 then (some (-1 : Int32)) else (pcb (g_X5_formerCount (v0 + 42) D) (fun r1 => if v1 < r1 then (pcb (g_X5_formerAt (v0 + 42) v1 D) (fun r3 => some r3)) else (some (-1 : Int32))))
set_option maxRecDepth 100000 in
set_option maxHeartbeats 4000000 in
theorem G_X8_former {n : Nat} {K : Nat → Nat × Nat} {R : Nat → Nat → Option Nat} (v0 : Nat) (v1 : Int32) (D : DD) (hv0 : isX8 n K R v0) : f_X8_former v0 v1 ((n, K, R, D) : Mm) = (g_X8_former v0 v1 D).map (lP n K R D) := by
  unfold f_X8_former g_X8_former
  refine z_if (fun _ => ?_) (fun _ => ?_)
  ·
    rfl
  ·
    refine z_ko (X8_o hv0) ?_
    refine z_rb (X8_r3 hv0) ?_
    refine z_ko (X5_o (X8_s3 hv0)) ?_
    refine z_cP (G_X5_formerCount _ _ (X8_s3 hv0)) (fun r1 he2 => ?_)
    refine z_if (fun _ => ?_) (fun _ => ?_)
    ·
      refine z_ko (X8_o hv0) ?_
      refine z_rb (X8_r3 hv0) ?_
      refine z_ko (X5_o (X8_s3 hv0)) ?_
      refine z_cP (G_X5_formerAt _ _ _ (X8_s3 hv0)) (fun r3 he4 => ?_)
      rfl
    ·
      rfl
set_option maxRecDepth 100000 in
def g_X8_withoutLast_5 : Nat → Int32 → Int64 → Int32 → Option Int64
  | 0, _, _, _ => none
  | n + 1, v0, v3, v5 =>
    if v0 ≤ v5 then (some v3) else (g_X8_withoutLast_5 n v0 (v3 / (100000 : Int64)) (v5 + (1 : Int32)))
set_option maxRecDepth 100000 in
set_option maxHeartbeats 4000000 in
theorem G_X8_withoutLast_5 {n : Nat} {K : Nat → Nat × Nat} {R : Nat → Nat → Option Nat} : ∀ (N : Nat) (v0 : Int32) (v3 : Int64) (v5 : Int32) (D : DD), f_X8_withoutLast_5 N v0 v3 v5 ((n, K, R, D) : Mm) = (g_X8_withoutLast_5 N v0 v3 v5).map (lP n K R D) := by
  intro N
  induction N with
  | zero => intros; rfl
  | succ N ih =>
    intro v0 v3 v5 D
    unfold f_X8_withoutLast_5 g_X8_withoutLast_5
    refine z_if (fun _ => ?_) (fun _ => ?_)
    ·
      rfl
    ·
      exact ih _ _ _ _
set_option maxRecDepth 100000 in
def g_X8_withoutLast (v0 : Int32) (v1 : Int64) : Option Int64 :=
  g_X8_withoutLast_5 1000 v0 v1 (0 : Int32)
set_option maxRecDepth 100000 in
set_option maxHeartbeats 4000000 in
theorem G_X8_withoutLast {n : Nat} {K : Nat → Nat × Nat} {R : Nat → Nat → Option Nat} (v0 : Int32) (v1 : Int64) (D : DD) : f_X8_withoutLast v0 v1 ((n, K, R, D) : Mm) = (g_X8_withoutLast v0 v1).map (lP n K R D) := by
  unfold f_X8_withoutLast g_X8_withoutLast
  exact G_X8_withoutLast_5 1000 _ _ _ _
set_option maxRecDepth 100000 in
def g_X8_tryPut (v0 : Nat) (v1 : Int32) (v2 : Int32) (D : DD) : Option (Int32 × DD) :=
  pcb (g_X2_hasRoomFor (v0 + 61) v1 D) (fun r1 => if r1 = 0 then (some ((0 : Int32), D)) else (vcb (g_X2_give (v0 + 61) v1 v2 D) (fun D4 => some ((1 : Int32), D4))))
set_option maxRecDepth 100000 in
set_option maxHeartbeats 4000000 in
theorem G_X8_tryPut {n : Nat} {K : Nat → Nat × Nat} {R : Nat → Nat → Option Nat} (v0 : Nat) (v1 : Int32) (v2 : Int32) (D : DD) (hv0 : isX8 n K R v0) : f_X8_tryPut v0 v1 v2 ((n, K, R, D) : Mm) = (g_X8_tryPut v0 v1 v2 D).map (lS n K R) := by
  unfold f_X8_tryPut g_X8_tryPut
  refine z_ko (X8_o hv0) ?_
  refine z_rb (X8_r5 hv0) ?_
  refine z_ko (X2_o (X8_s5 hv0)) ?_
  refine z_cP (G_X2_hasRoomFor _ _ _ (X8_s5 hv0)) (fun r1 he2 => ?_)
  refine z_if (fun _ => ?_) (fun _ => ?_)
  ·
    rfl
  ·
    refine z_ko (X8_o hv0) ?_
    refine z_rb (X8_r5 hv0) ?_
    refine z_ko (X2_o (X8_s5 hv0)) ?_
    refine z_cV (G_X2_give _ _ _ _ (X8_s5 hv0)) (fun _ D4 => ?_)
    rfl
set_option maxRecDepth 100000 in
def g_X8_tryRemove (v0 : Nat) (v1 : Int32) (D : DD) : Option (Int32 × DD) :=
  pcb (g_X2_has (v0 + 61) v1 D) (fun r1 => if r1 = 0 then (some ((0 : Int32), D)) else (vcb (g_X2_drop (v0 + 61) v1 D) (fun D4 => some ((1 : Int32), D4))))
set_option maxRecDepth 100000 in
set_option maxHeartbeats 4000000 in
theorem G_X8_tryRemove {n : Nat} {K : Nat → Nat × Nat} {R : Nat → Nat → Option Nat} (v0 : Nat) (v1 : Int32) (D : DD) (hv0 : isX8 n K R v0) : f_X8_tryRemove v0 v1 ((n, K, R, D) : Mm) = (g_X8_tryRemove v0 v1 D).map (lS n K R) := by
  unfold f_X8_tryRemove g_X8_tryRemove
  refine z_ko (X8_o hv0) ?_
  refine z_rb (X8_r5 hv0) ?_
  refine z_ko (X2_o (X8_s5 hv0)) ?_
  refine z_cP (G_X2_has _ _ _ (X8_s5 hv0)) (fun r1 he2 => ?_)
  refine z_if (fun _ => ?_) (fun _ => ?_)
  ·
    rfl
  ·
    refine z_ko (X8_o hv0) ?_
    refine z_rb (X8_r5 hv0) ?_
    refine z_ko (X2_o (X8_s5 hv0)) ?_
    refine z_cV (G_X2_drop _ _ _ (X8_s5 hv0)) (fun _ D4 => ?_)
    rfl
set_option maxRecDepth 100000 in
def g_X8_isSlot (v0 : Int32) : Option Int32 :=
  if v0 < 0 then (some (0 : Int32)) else (if (2 : Int32) ≤ v0 then (some (0 : Int32)) else (some (1 : Int32)))
set_option maxRecDepth 100000 in
set_option maxHeartbeats 4000000 in
theorem G_X8_isSlot {n : Nat} {K : Nat → Nat × Nat} {R : Nat → Nat → Option Nat} (v0 : Int32) (D : DD) : f_X8_isSlot v0 ((n, K, R, D) : Mm) = (g_X8_isSlot v0).map (lP n K R D) := by
  unfold f_X8_isSlot g_X8_isSlot
  refine z_if (fun _ => ?_) (fun _ => ?_)
  ·
    rfl
  ·
    refine z_if (fun _ => ?_) (fun _ => ?_)
    ·
      rfl
    ·
      rfl
set_option maxRecDepth 100000 in
def g_X8_keep (v0 : Nat) (v1 : Int32) (D : DD) : Option (Int32 × DD) :=
  pcb (g_X8_isSlot v1) (fun r1 => if r1 = 0 then (some ((-1 : Int32), D)) else (zck (inb v1 2) (vcb (g_X6_fill (v0 + 74 + 3 * ix v1) (v0 + 1) D) (fun D5 => pcb (g_X2_count (v0 + 1) D5) (fun r6 => some (r6, D5))))))
set_option maxRecDepth 100000 in
set_option maxHeartbeats 4000000 in
theorem G_X8_keep {n : Nat} {K : Nat → Nat × Nat} {R : Nat → Nat → Option Nat} (v0 : Nat) (v1 : Int32) (D : DD) (hv0 : isX8 n K R v0) : f_X8_keep v0 v1 ((n, K, R, D) : Mm) = (g_X8_keep v0 v1 D).map (lS n K R) := by
  unfold f_X8_keep g_X8_keep
  refine z_cP (G_X8_isSlot _ _) (fun r1 he2 => ?_)
  refine z_if (fun _ => ?_) (fun _ => ?_)
  ·
    rfl
  ·
    refine z_ko (X8_o hv0) ?_
    refine z_rb (X8_r4 hv0) ?_
    refine z_ka (X8_q hv0) (fun hi3 => ?_)
    refine z_rb (X8_e hv0 (inb_s hi3)) ?_
    refine z_rb (X8_r0 hv0) ?_
    refine z_ko (X6_o (X8_es hv0 (inb_s hi3))) ?_
    refine z_cV (G_X6_fill _ _ _ (X8_es hv0 (inb_s hi3)) (X8_s0 hv0)) (fun _ D5 => ?_)
    refine z_ko (X8_o hv0) ?_
    refine z_rb (X8_r0 hv0) ?_
    refine z_ko (X2_o (X8_s0 hv0)) ?_
    refine z_cP (G_X2_count _ _ (X8_s0 hv0)) (fun r6 he7 => ?_)
    rfl
set_option maxRecDepth 100000 in
def g_X8_again (v0 : Nat) (v1 : Int32) (D : DD) : Option (Int32 × DD) :=
  pcb (g_X8_isSlot v1) (fun r1 => if r1 = 0 then (some ((-1 : Int32), D)) else (zck (inb v1 2) (pcb (g_X6_isFilled (v0 + 74 + 3 * ix v1) D) (fun r4 => if r4 = 0 then (some ((-3 : Int32), D)) else (zck (inb v1 2) (vcb (g_X2_become (v0 + 1) ((v0 + 74 + 3 * ix v1) + 1) D) (fun D8 => vcb (g_X0_forgetAll (v0 + 12) D8) (fun D10 => vcb (g_X7_grow (v0 + 3) (v0 + 1) D10) (fun D12 => pcb (g_X2_count (v0 + 1) D12) (fun r13 => some (r13, D12)))))))))))
set_option maxRecDepth 100000 in
set_option maxHeartbeats 4000000 in
theorem G_X8_again {n : Nat} {K : Nat → Nat × Nat} {R : Nat → Nat → Option Nat} (v0 : Nat) (v1 : Int32) (D : DD) (hv0 : isX8 n K R v0) : f_X8_again v0 v1 ((n, K, R, D) : Mm) = (g_X8_again v0 v1 D).map (lS n K R) := by
  unfold f_X8_again g_X8_again
  refine z_cP (G_X8_isSlot _ _) (fun r1 he2 => ?_)
  refine z_if (fun _ => ?_) (fun _ => ?_)
  ·
    rfl
  ·
    refine z_ko (X8_o hv0) ?_
    refine z_rb (X8_r4 hv0) ?_
    refine z_ka (X8_q hv0) (fun hi3 => ?_)
    refine z_rb (X8_e hv0 (inb_s hi3)) ?_
    refine z_ko (X6_o (X8_es hv0 (inb_s hi3))) ?_
    refine z_cP (G_X6_isFilled _ _ (X8_es hv0 (inb_s hi3))) (fun r4 he5 => ?_)
    refine z_if (fun _ => ?_) (fun _ => ?_)
    ·
      rfl
    ·
      refine z_ko (X8_o hv0) ?_
      refine z_rb (X8_r0 hv0) ?_
      refine z_rb (X8_r4 hv0) ?_
      refine z_ka (X8_q hv0) (fun hi6 => ?_)
      refine z_rb (X8_e hv0 (inb_s hi6)) ?_
      refine z_ko (X6_o (X8_es hv0 (inb_s hi6))) ?_
      refine z_cG (q_X6_pairs (X8_es hv0 (inb_s hi6))) ?_
      refine z_ko (X2_o (X8_s0 hv0)) ?_
      refine z_cV (G_X2_become _ _ _ (X8_s0 hv0) (X6_s0 (X8_es hv0 (inb_s hi6)))) (fun _ D8 => ?_)
      refine z_ko (X8_o hv0) ?_
      refine z_rb (X8_r2 hv0) ?_
      refine z_ko (X0_o (X8_s2 hv0)) ?_
      refine z_cV (G_X0_forgetAll _ _ (X8_s2 hv0)) (fun _ D10 => ?_)
      refine z_ko (X8_o hv0) ?_
      refine z_rb (X8_r1 hv0) ?_
      refine z_rb (X8_r0 hv0) ?_
      refine z_ko (X7_o (X8_s1 hv0)) ?_
      refine z_cV (G_X7_grow _ _ _ (X8_s1 hv0) (X8_s0 hv0)) (fun _ D12 => ?_)
      refine z_ko (X8_o hv0) ?_
      refine z_rb (X8_r0 hv0) ?_
      refine z_ko (X2_o (X8_s0 hv0)) ?_
      refine z_cP (G_X2_count _ _ (X8_s0 hv0)) (fun r13 he14 => ?_)
      rfl
set_option maxRecDepth 100000 in
def g_X8_countOtherwise_29 (k_4 : Nat → Nat → Int32 → Int32 → DD → Option Int32) (v0 : Nat) (v1 : Nat) (v2 : Int32) (v3 : Int32) (D : DD) : Option Int32 :=
  k_4 v0 v1 v2 (v3 + (1 : Int32)) D
set_option maxRecDepth 100000 in
set_option maxHeartbeats 4000000 in
theorem G_X8_countOtherwise_29 {n : Nat} {K : Nat → Nat × Nat} {R : Nat → Nat → Option Nat} (k_4 : Nat → Nat → Int32 → Int32 → DD → Option Int32) (f_4 : Nat → Nat → Int32 → Int32 → Mm → Option (Int32 × Mm)) (hk_4 : ∀ (v0 : Nat) (v1 : Nat) (v2 : Int32) (v3 : Int32) (D : DD) (hv0 : isX8 n K R v0) (hv1 : isX2 n K R v1), f_4 v0 v1 v2 v3 ((n, K, R, D) : Mm) = (k_4 v0 v1 v2 v3 D).map (lP n K R D)) (v0 : Nat) (v1 : Nat) (v2 : Int32) (v3 : Int32) (D : DD) (hv0 : isX8 n K R v0) (hv1 : isX2 n K R v1) : f_X8_countOtherwise_29 f_4 v0 v1 v2 v3 ((n, K, R, D) : Mm) = (g_X8_countOtherwise_29 k_4 v0 v1 v2 v3 D).map (lP n K R D) := by
  unfold f_X8_countOtherwise_29 g_X8_countOtherwise_29
  exact hk_4 _ _ _ _ _ hv0 hv1
set_option maxRecDepth 100000 in
def g_X8_countOtherwise_4 : Nat → Nat → Nat → Int32 → Int32 → DD → Option Int32
  | 0, _, _, _, _, _ => none
  | n + 1, v0, v1, v2, v3, D =>
    if (100 : Int32) ≤ v3 then (some v2) else (pcb (g_X2_valueOf (v0 + 1) v3 D) (fun r1 => pcb (g_X2_valueOf v1 v3 D) (fun r3 => if r1 = r3 then (g_X8_countOtherwise_29 (g_X8_countOtherwise_4 n) v0 v1 v2 v3 D) else (g_X8_countOtherwise_29 (g_X8_countOtherwise_4 n) v0 v1 (v2 + (1 : Int32)) v3 D))))
set_option maxRecDepth 100000 in
set_option maxHeartbeats 4000000 in
theorem G_X8_countOtherwise_4 {n : Nat} {K : Nat → Nat × Nat} {R : Nat → Nat → Option Nat} : ∀ (N : Nat) (v0 : Nat) (v1 : Nat) (v2 : Int32) (v3 : Int32) (D : DD) (hv0 : isX8 n K R v0) (hv1 : isX2 n K R v1), f_X8_countOtherwise_4 N v0 v1 v2 v3 ((n, K, R, D) : Mm) = (g_X8_countOtherwise_4 N v0 v1 v2 v3 D).map (lP n K R D) := by
  intro N
  induction N with
  | zero => intros; rfl
  | succ N ih =>
    intro v0 v1 v2 v3 D hv0 hv1
    unfold f_X8_countOtherwise_4 g_X8_countOtherwise_4
    refine z_if (fun _ => ?_) (fun _ => ?_)
    ·
      rfl
    ·
      refine z_ko (X8_o hv0) ?_
      refine z_rb (X8_r0 hv0) ?_
      refine z_ko (X2_o (X8_s0 hv0)) ?_
      refine z_cP (G_X2_valueOf _ _ _ (X8_s0 hv0)) (fun r1 he2 => ?_)
      refine z_ko (X2_o hv1) ?_
      refine z_cP (G_X2_valueOf _ _ _ hv1) (fun r3 he4 => ?_)
      refine z_if (fun _ => ?_) (fun _ => ?_)
      ·
        exact G_X8_countOtherwise_29 _ _ ih _ _ _ _ _ hv0 hv1
      ·
        exact G_X8_countOtherwise_29 _ _ ih _ _ _ _ _ hv0 hv1
set_option maxRecDepth 100000 in
def g_X8_countOtherwise (v0 : Nat) (v1 : Nat) (D : DD) : Option Int32 :=
  g_X8_countOtherwise_4 1000 v0 v1 (0 : Int32) (0 : Int32) D
set_option maxRecDepth 100000 in
set_option maxHeartbeats 4000000 in
theorem G_X8_countOtherwise {n : Nat} {K : Nat → Nat × Nat} {R : Nat → Nat → Option Nat} (v0 : Nat) (v1 : Nat) (D : DD) (hv0 : isX8 n K R v0) (hv1 : isX2 n K R v1) : f_X8_countOtherwise v0 v1 ((n, K, R, D) : Mm) = (g_X8_countOtherwise v0 v1 D).map (lP n K R D) := by
  unfold f_X8_countOtherwise g_X8_countOtherwise
  exact G_X8_countOtherwise_4 1000 _ _ _ _ _ hv0 hv1
set_option maxRecDepth 100000 in
def g_X8_leastOtherwise_2 : Nat → Nat → Nat → Int32 → DD → Option Int32
  | 0, _, _, _, _ => none
  | n + 1, v0, v1, v2, D =>
    if (100 : Int32) ≤ v2 then (some (-9 : Int32)) else (pcb (g_X2_valueOf (v0 + 1) v2 D) (fun r1 => pcb (g_X2_valueOf v1 v2 D) (fun r3 => if r1 = r3 then (g_X8_leastOtherwise_2 n v0 v1 (v2 + (1 : Int32)) D) else (some v2))))
set_option maxRecDepth 100000 in
set_option maxHeartbeats 4000000 in
theorem G_X8_leastOtherwise_2 {n : Nat} {K : Nat → Nat × Nat} {R : Nat → Nat → Option Nat} : ∀ (N : Nat) (v0 : Nat) (v1 : Nat) (v2 : Int32) (D : DD) (hv0 : isX8 n K R v0) (hv1 : isX2 n K R v1), f_X8_leastOtherwise_2 N v0 v1 v2 ((n, K, R, D) : Mm) = (g_X8_leastOtherwise_2 N v0 v1 v2 D).map (lP n K R D) := by
  intro N
  induction N with
  | zero => intros; rfl
  | succ N ih =>
    intro v0 v1 v2 D hv0 hv1
    unfold f_X8_leastOtherwise_2 g_X8_leastOtherwise_2
    refine z_if (fun _ => ?_) (fun _ => ?_)
    ·
      rfl
    ·
      refine z_ko (X8_o hv0) ?_
      refine z_rb (X8_r0 hv0) ?_
      refine z_ko (X2_o (X8_s0 hv0)) ?_
      refine z_cP (G_X2_valueOf _ _ _ (X8_s0 hv0)) (fun r1 he2 => ?_)
      refine z_ko (X2_o hv1) ?_
      refine z_cP (G_X2_valueOf _ _ _ hv1) (fun r3 he4 => ?_)
      refine z_if (fun _ => ?_) (fun _ => ?_)
      ·
        exact ih _ _ _ _ hv0 hv1
      ·
        rfl
set_option maxRecDepth 100000 in
def g_X8_leastOtherwise (v0 : Nat) (v1 : Nat) (D : DD) : Option Int32 :=
  g_X8_leastOtherwise_2 1000 v0 v1 (0 : Int32) D
set_option maxRecDepth 100000 in
set_option maxHeartbeats 4000000 in
theorem G_X8_leastOtherwise {n : Nat} {K : Nat → Nat × Nat} {R : Nat → Nat → Option Nat} (v0 : Nat) (v1 : Nat) (D : DD) (hv0 : isX8 n K R v0) (hv1 : isX2 n K R v1) : f_X8_leastOtherwise v0 v1 ((n, K, R, D) : Mm) = (g_X8_leastOtherwise v0 v1 D).map (lP n K R D) := by
  unfold f_X8_leastOtherwise g_X8_leastOtherwise
  exact G_X8_leastOtherwise_2 1000 _ _ _ _ hv0 hv1
set_option maxRecDepth 100000 in
def g_X8_countPassedOver_36 (k_12 : Nat → Int32 → Int32 → DD → Option (Int32 × DD)) (v0 : Nat) (v2 : Int32) (v3 : Int32) (D : DD) : Option (Int32 × DD) :=
  k_12 v0 v2 (v3 + (1 : Int32)) D
set_option maxRecDepth 100000 in
set_option maxHeartbeats 4000000 in
theorem G_X8_countPassedOver_36 {n : Nat} {K : Nat → Nat × Nat} {R : Nat → Nat → Option Nat} (k_12 : Nat → Int32 → Int32 → DD → Option (Int32 × DD)) (f_12 : Nat → Int32 → Int32 → Mm → Option (Int32 × Mm)) (hk_12 : ∀ (v0 : Nat) (v2 : Int32) (v3 : Int32) (D : DD) (hv0 : isX8 n K R v0), f_12 v0 v2 v3 ((n, K, R, D) : Mm) = (k_12 v0 v2 v3 D).map (lS n K R)) (v0 : Nat) (v2 : Int32) (v3 : Int32) (D : DD) (hv0 : isX8 n K R v0) : f_X8_countPassedOver_36 f_12 v0 v2 v3 ((n, K, R, D) : Mm) = (g_X8_countPassedOver_36 k_12 v0 v2 v3 D).map (lS n K R) := by
  unfold f_X8_countPassedOver_36 g_X8_countPassedOver_36
  exact hk_12 _ _ _ _ hv0
set_option maxRecDepth 100000 in
def g_X8_countPassedOver_12 : Nat → Nat → Int32 → Int32 → DD → Option (Int32 × DD)
  | 0, _, _, _, _ => none
  | n + 1, v0, v2, v3, D =>
    if (100 : Int32) ≤ v3 then (some (v2, D)) else (pcb (g_X7_isFirstLike (v0 + 3) v3 (v0 + 63) D) (fun r1 => if r1 = 0 then (g_X8_countPassedOver_36 (g_X8_countPassedOver_12 n) v0 v2 v3 D) else (g_X8_countPassedOver_36 (g_X8_countPassedOver_12 n) v0 (v2 + (1 : Int32)) v3 D)))
set_option maxRecDepth 100000 in
set_option maxHeartbeats 4000000 in
theorem G_X8_countPassedOver_12 {n : Nat} {K : Nat → Nat × Nat} {R : Nat → Nat → Option Nat} : ∀ (N : Nat) (v0 : Nat) (v2 : Int32) (v3 : Int32) (D : DD) (hv0 : isX8 n K R v0), f_X8_countPassedOver_12 N v0 v2 v3 ((n, K, R, D) : Mm) = (g_X8_countPassedOver_12 N v0 v2 v3 D).map (lS n K R) := by
  intro N
  induction N with
  | zero => intros; rfl
  | succ N ih =>
    intro v0 v2 v3 D hv0
    unfold f_X8_countPassedOver_12 g_X8_countPassedOver_12
    refine z_if (fun _ => ?_) (fun _ => ?_)
    ·
      rfl
    ·
      refine z_ko (X8_o hv0) ?_
      refine z_rb (X8_r1 hv0) ?_
      refine z_rb (X8_r6 hv0) ?_
      refine z_ko (X7_o (X8_s1 hv0)) ?_
      refine z_cP (G_X7_isFirstLike _ _ _ _ (X8_s1 hv0) (X8_s6 hv0)) (fun r1 he2 => ?_)
      refine z_if (fun _ => ?_) (fun _ => ?_)
      ·
        exact G_X8_countPassedOver_36 _ _ ih _ _ _ _ hv0
      ·
        exact G_X8_countPassedOver_36 _ _ ih _ _ _ _ hv0
set_option maxRecDepth 100000 in
def g_X8_countPassedOver (v0 : Nat) (v1 : Nat) (D : DD) : Option (Int32 × DD) :=
  vcb (g_X7_grow (v0 + 63) v1 D) (fun D4 => g_X8_countPassedOver_12 1000 v0 (0 : Int32) (0 : Int32) D4)
set_option maxRecDepth 100000 in
set_option maxHeartbeats 4000000 in
theorem G_X8_countPassedOver {n : Nat} {K : Nat → Nat × Nat} {R : Nat → Nat → Option Nat} (v0 : Nat) (v1 : Nat) (D : DD) (hv0 : isX8 n K R v0) (hv1 : isX2 n K R v1) : f_X8_countPassedOver v0 v1 ((n, K, R, D) : Mm) = (g_X8_countPassedOver v0 v1 D).map (lS n K R) := by
  unfold f_X8_countPassedOver g_X8_countPassedOver
  refine z_ko (X8_o hv0) ?_
  refine z_rb (X8_r6 hv0) ?_
  refine z_ko (X7_o (X8_s6 hv0)) ?_
  refine z_cV (G_X7_grow _ _ _ (X8_s6 hv0) hv1) (fun _ D4 => ?_)
  exact G_X8_countPassedOver_12 1000 _ _ _ _ hv0
set_option maxRecDepth 100000 in
def g_X9_in (v0 : Int64) (v2 : Int64) (v4 : Int64) : Option Int32 :=
  if (lg_cmp v0 v2) < 0 then (some (0 : Int32)) else (if 0 < (lg_cmp v0 v4) then (some (0 : Int32)) else (some (1 : Int32)))
set_option maxRecDepth 100000 in
set_option maxHeartbeats 4000000 in
theorem G_X9_in {n : Nat} {K : Nat → Nat × Nat} {R : Nat → Nat → Option Nat} (v0 : Int64) (v2 : Int64) (v4 : Int64) (D : DD) : f_X9_in v0 v2 v4 ((n, K, R, D) : Mm) = (g_X9_in v0 v2 v4).map (lP n K R D) := by
  unfold f_X9_in g_X9_in
  refine z_if (fun _ => ?_) (fun _ => ?_)
  ·
    rfl
  ·
    refine z_if (fun _ => ?_) (fun _ => ?_)
    ·
      rfl
    ·
      rfl
set_option maxRecDepth 100000 in
def g_X9_isNumber (v0 : Int32) : Option Int32 :=
  pcb (g_X9_in ((v0).toInt64) (0 : Int64) (99 : Int64)) (fun r1 => zck (zb r1) (some r1))
set_option maxRecDepth 100000 in
set_option maxHeartbeats 4000000 in
theorem G_X9_isNumber {n : Nat} {K : Nat → Nat × Nat} {R : Nat → Nat → Option Nat} (v0 : Int32) (D : DD) : f_X9_isNumber v0 ((n, K, R, D) : Mm) = (g_X9_isNumber v0).map (lP n K R D) := by
  unfold f_X9_isNumber g_X9_isNumber
  refine z_cP (G_X9_in _ _ _ _) (fun r1 he2 => ?_)
  refine z_ck (fun _ => ?_)
  rfl
set_option maxRecDepth 100000 in
def g_X9_isRange (v0 : Int32) (v1 : Int32) : Option Int32 :=
  pcb (g_X9_isNumber v0) (fun r1 => if r1 = 0 then (some (0 : Int32)) else (pcb (g_X9_isNumber v1) (fun r3 => if r3 = 0 then (some (0 : Int32)) else (if v1 < v0 then (some (0 : Int32)) else (some (1 : Int32))))))
set_option maxRecDepth 100000 in
set_option maxHeartbeats 4000000 in
theorem G_X9_isRange {n : Nat} {K : Nat → Nat × Nat} {R : Nat → Nat → Option Nat} (v0 : Int32) (v1 : Int32) (D : DD) : f_X9_isRange v0 v1 ((n, K, R, D) : Mm) = (g_X9_isRange v0 v1).map (lP n K R D) := by
  unfold f_X9_isRange g_X9_isRange
  refine z_cP (G_X9_isNumber _ _) (fun r1 he2 => ?_)
  refine z_if (fun _ => ?_) (fun _ => ?_)
  ·
    rfl
  ·
    refine z_cP (G_X9_isNumber _ _) (fun r3 he4 => ?_)
    refine z_if (fun _ => ?_) (fun _ => ?_)
    ·
      rfl
    ·
      refine z_if (fun _ => ?_) (fun _ => ?_)
      ·
        rfl
      ·
        rfl
set_option maxRecDepth 100000 in
def g_X9_rankOf (v0 : Int32) : Option Int32 :=
  some (((((4721 : Int64) * (((((v0).toInt64) + (3 : Int64)) * (((v0).toInt64) + (3 : Int64))) * (((v0).toInt64) + (3 : Int64)))) - ((4721 : Int64) * (((((v0).toInt64) + (3 : Int64)) * (((v0).toInt64) + (3 : Int64))) * (((v0).toInt64) + (3 : Int64)))) / (10007 : Int64) * (10007 : Int64))).toInt32)
set_option maxRecDepth 100000 in
set_option maxHeartbeats 4000000 in
theorem G_X9_rankOf {n : Nat} {K : Nat → Nat × Nat} {R : Nat → Nat → Option Nat} (v0 : Int32) (D : DD) : f_X9_rankOf v0 ((n, K, R, D) : Mm) = (g_X9_rankOf v0).map (lP n K R D) := by
  unfold f_X9_rankOf g_X9_rankOf
  rfl
set_option maxRecDepth 100000 in
def g_X9_isAbove (v0 : Int32) (v1 : Int32) : Option Int32 :=
  pcb (g_X9_rankOf v0) (fun r1 => pcb (g_X9_rankOf v1) (fun r3 => if r3 < r1 then (some (1 : Int32)) else (pcb (g_X9_rankOf v0) (fun r5 => pcb (g_X9_rankOf v1) (fun r7 => if r5 = r7 then (if v1 ≤ v0 then (some (0 : Int32)) else (some (1 : Int32))) else (some (0 : Int32)))))))
set_option maxRecDepth 100000 in
set_option maxHeartbeats 4000000 in
theorem G_X9_isAbove {n : Nat} {K : Nat → Nat × Nat} {R : Nat → Nat → Option Nat} (v0 : Int32) (v1 : Int32) (D : DD) : f_X9_isAbove v0 v1 ((n, K, R, D) : Mm) = (g_X9_isAbove v0 v1).map (lP n K R D) := by
  unfold f_X9_isAbove g_X9_isAbove
  refine z_cP (G_X9_rankOf _ _) (fun r1 he2 => ?_)
  refine z_cP (G_X9_rankOf _ _) (fun r3 he4 => ?_)
  refine z_if (fun _ => ?_) (fun _ => ?_)
  ·
    rfl
  ·
    refine z_cP (G_X9_rankOf _ _) (fun r5 he6 => ?_)
    refine z_cP (G_X9_rankOf _ _) (fun r7 he8 => ?_)
    refine z_if (fun _ => ?_) (fun _ => ?_)
    ·
      refine z_if (fun _ => ?_) (fun _ => ?_)
      ·
        rfl
      ·
        rfl
    ·
      rfl
set_option maxRecDepth 100000 in
def g_X9_digestOf (v0 : Int32) (v1 : Int32) (v2 : Int32) (v3 : Int32) : Option Int32 :=
  some (((((((1000003 : Int64) * ((((1000003 : Int64) * ((((1000003 : Int64) * ((((1000003 : Int64) * (17 : Int64)) + ((v0).toInt64)) - (((1000003 : Int64) * (17 : Int64)) + ((v0).toInt64)) / (2147483647 : Int64) * (2147483647 : Int64))) + ((v1).toInt64)) - (((1000003 : Int64) * ((((1000003 : Int64) * (17 : Int64)) + ((v0).toInt64)) - (((1000003 : Int64) * (17 : Int64)) + ((v0).toInt64)) / (2147483647 : Int64) * (2147483647 : Int64))) + ((v1).toInt64)) / (2147483647 : Int64) * (2147483647 : Int64))) + ((v2).toInt64)) - (((1000003 : Int64) * ((((1000003 : Int64) * ((((1000003 : Int64) * (17 : Int64)) + ((v0).toInt64)) - (((1000003 : Int64) * (17 : Int64)) + ((v0).toInt64)) / (2147483647 : Int64) * (2147483647 : Int64))) + ((v1).toInt64)) - (((1000003 : Int64) * ((((1000003 : Int64) * (17 : Int64)) + ((v0).toInt64)) - (((1000003 : Int64) * (17 : Int64)) + ((v0).toInt64)) / (2147483647 : Int64) * (2147483647 : Int64))) + ((v1).toInt64)) / (2147483647 : Int64) * (2147483647 : Int64))) + ((v2).toInt64)) / (2147483647 : Int64) * (2147483647 : Int64))) + ((v3).toInt64)) - (((1000003 : Int64) * ((((1000003 : Int64) * ((((1000003 : Int64) * ((((1000003 : Int64) * (17 : Int64)) + ((v0).toInt64)) - (((1000003 : Int64) * (17 : Int64)) + ((v0).toInt64)) / (2147483647 : Int64) * (2147483647 : Int64))) + ((v1).toInt64)) - (((1000003 : Int64) * ((((1000003 : Int64) * (17 : Int64)) + ((v0).toInt64)) - (((1000003 : Int64) * (17 : Int64)) + ((v0).toInt64)) / (2147483647 : Int64) * (2147483647 : Int64))) + ((v1).toInt64)) / (2147483647 : Int64) * (2147483647 : Int64))) + ((v2).toInt64)) - (((1000003 : Int64) * ((((1000003 : Int64) * ((((1000003 : Int64) * (17 : Int64)) + ((v0).toInt64)) - (((1000003 : Int64) * (17 : Int64)) + ((v0).toInt64)) / (2147483647 : Int64) * (2147483647 : Int64))) + ((v1).toInt64)) - (((1000003 : Int64) * ((((1000003 : Int64) * (17 : Int64)) + ((v0).toInt64)) - (((1000003 : Int64) * (17 : Int64)) + ((v0).toInt64)) / (2147483647 : Int64) * (2147483647 : Int64))) + ((v1).toInt64)) / (2147483647 : Int64) * (2147483647 : Int64))) + ((v2).toInt64)) / (2147483647 : Int64) * (2147483647 : Int64))) + ((v3).toInt64)) / (2147483647 : Int64) * (2147483647 : Int64))).toInt32) + (1 : Int32))
set_option maxRecDepth 100000 in
set_option maxHeartbeats 4000000 in
theorem G_X9_digestOf {n : Nat} {K : Nat → Nat × Nat} {R : Nat → Nat → Option Nat} (v0 : Int32) (v1 : Int32) (v2 : Int32) (v3 : Int32) (D : DD) : f_X9_digestOf v0 v1 v2 v3 ((n, K, R, D) : Mm) = (g_X9_digestOf v0 v1 v2 v3).map (lP n K R D) := by
  unfold f_X9_digestOf g_X9_digestOf
  rfl
set_option maxRecDepth 100000 in
def g_X9_manyOf_24 (k_4 : Nat → Int32 → Int32 → DD → Option Int32) (v0 : Nat) (v2 : Int32) (w0 : Int32) (w1 : Int32) (D : DD) : Option Int32 :=
  k_4 v0 (w0 + w1) (v2 + (1 : Int32)) D
set_option maxRecDepth 100000 in
set_option maxHeartbeats 4000000 in
theorem G_X9_manyOf_24 {n : Nat} {K : Nat → Nat × Nat} {R : Nat → Nat → Option Nat} (k_4 : Nat → Int32 → Int32 → DD → Option Int32) (f_4 : Nat → Int32 → Int32 → Mm → Option (Int32 × Mm)) (hk_4 : ∀ (v0 : Nat) (v1 : Int32) (v2 : Int32) (D : DD) (hv0 : v0 < n ∧ K v0 = (1, 100)), f_4 v0 v1 v2 ((n, K, R, D) : Mm) = (k_4 v0 v1 v2 D).map (lP n K R D)) (v0 : Nat) (v2 : Int32) (w0 : Int32) (w1 : Int32) (D : DD) (hv0 : v0 < n ∧ K v0 = (1, 100)) : f_X9_manyOf_24 f_4 v0 v2 w0 w1 ((n, K, R, D) : Mm) = (g_X9_manyOf_24 k_4 v0 v2 w0 w1 D).map (lP n K R D) := by
  unfold f_X9_manyOf_24 g_X9_manyOf_24
  exact hk_4 _ _ _ _ hv0
set_option maxRecDepth 100000 in
def g_X9_manyOf_4 : Nat → Nat → Int32 → Int32 → DD → Option Int32
  | 0, _, _, _, _ => none
  | n + 1, v0, v1, v2, D =>
    if (100 : Int32) ≤ v2 then (some v1) else (zck (inb v2 100) (if (D v0 (ix v2)) = (-9 : Int32) then (g_X9_manyOf_24 (g_X9_manyOf_4 n) v0 v2 v1 (0 : Int32) D) else (g_X9_manyOf_24 (g_X9_manyOf_4 n) v0 v2 v1 (1 : Int32) D)))
set_option maxRecDepth 100000 in
set_option maxHeartbeats 4000000 in
theorem G_X9_manyOf_4 {n : Nat} {K : Nat → Nat × Nat} {R : Nat → Nat → Option Nat} : ∀ (N : Nat) (v0 : Nat) (v1 : Int32) (v2 : Int32) (D : DD) (hv0 : v0 < n ∧ K v0 = (1, 100)), f_X9_manyOf_4 N v0 v1 v2 ((n, K, R, D) : Mm) = (g_X9_manyOf_4 N v0 v1 v2 D).map (lP n K R D) := by
  intro N
  induction N with
  | zero => intros; rfl
  | succ N ih =>
    intro v0 v1 v2 D hv0
    unfold f_X9_manyOf_4 g_X9_manyOf_4
    refine z_if (fun _ => ?_) (fun _ => ?_)
    ·
      rfl
    ·
      refine z_ka hv0 (fun _ => ?_)
      refine z_if (fun _ => ?_) (fun _ => ?_)
      ·
        exact G_X9_manyOf_24 _ _ ih _ _ _ _ _ hv0
      ·
        exact G_X9_manyOf_24 _ _ ih _ _ _ _ _ hv0
set_option maxRecDepth 100000 in
def g_X9_manyOf (v0 : Nat) (D : DD) : Option Int32 :=
  g_X9_manyOf_4 1000 v0 (0 : Int32) (0 : Int32) D
set_option maxRecDepth 100000 in
set_option maxHeartbeats 4000000 in
theorem G_X9_manyOf {n : Nat} {K : Nat → Nat × Nat} {R : Nat → Nat → Option Nat} (v0 : Nat) (D : DD) (hv0 : v0 < n ∧ K v0 = (1, 100)) : f_X9_manyOf v0 ((n, K, R, D) : Mm) = (g_X9_manyOf v0 D).map (lP n K R D) := by
  unfold f_X9_manyOf g_X9_manyOf
  exact G_X9_manyOf_4 1000 _ _ _ _ hv0
set_option maxRecDepth 100000 in
def g_X9_want (v0 : Nat) (v1 : Int32) (v2 : Int32) (v3 : Int32) (v4 : Int32) (D : DD) : Option DD :=
  zck (inb (D v0 21) 110) (dlt (u2 D (v0 + 16) (ix (D v0 21)) v1) (fun D1 => zck (inb (D1 v0 21) 110) (dlt (u2 D1 (v0 + 17) (ix (D1 v0 21)) v2) (fun D2 => zck (inb (D2 v0 21) 110) (dlt (u2 D2 (v0 + 18) (ix (D2 v0 21)) v3) (fun D3 => zck (inb (D3 v0 21) 110) (dlt (u2 D3 (v0 + 19) (ix (D3 v0 21)) v4) (fun D4 => dlt (u2 D4 v0 21 ((D4 v0 21) + (1 : Int32))) (fun D5 => some D5)))))))))
set_option maxRecDepth 100000 in
set_option maxHeartbeats 4000000 in
theorem G_X9_want {n : Nat} {K : Nat → Nat × Nat} {R : Nat → Nat → Option Nat} (v0 : Nat) (v1 : Int32) (v2 : Int32) (v3 : Int32) (v4 : Int32) (D : DD) (hv0 : isX9 n K R v0) : f_X9_want v0 v1 v2 v3 v4 ((n, K, R, D) : Mm) = (g_X9_want v0 v1 v2 v3 v4 D).map (lV n K R) := by
  unfold f_X9_want g_X9_want
  refine z_ko (X9_o hv0) ?_
  refine z_rb (X9_r17 hv0) ?_
  refine z_ka (X9_a17 hv0) (fun _ => ?_)
  refine z_lt rfl (fun D1 => ?_)
  refine z_rb (X9_r18 hv0) ?_
  refine z_ka (X9_a18 hv0) (fun _ => ?_)
  refine z_lt rfl (fun D2 => ?_)
  refine z_rb (X9_r19 hv0) ?_
  refine z_ka (X9_a19 hv0) (fun _ => ?_)
  refine z_lt rfl (fun D3 => ?_)
  refine z_rb (X9_r20 hv0) ?_
  refine z_ka (X9_a20 hv0) (fun _ => ?_)
  refine z_lt rfl (fun D4 => ?_)
  refine z_lt rfl (fun D5 => ?_)
  rfl
