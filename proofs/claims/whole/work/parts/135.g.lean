set_option maxRecDepth 100000 in
def g_X9_proof_89 (k_39 : Nat → Int32 → Int32 → Int32 → DD → Option (Int32 × DD)) (v0 : Nat) (v3 : Int32) (v5 : Int32) (w0 : Int32) (w1 : Int32) (D : DD) : Option (Int32 × DD) :=
  k_39 v0 v3 (w0 + w1) (v5 + (1 : Int32)) D
set_option maxRecDepth 100000 in
set_option maxHeartbeats 4000000 in
theorem G_X9_proof_89 {n : Nat} {K : Nat → Nat × Nat} {R : Nat → Nat → Option Nat} (k_39 : Nat → Int32 → Int32 → Int32 → DD → Option (Int32 × DD)) (f_39 : Nat → Int32 → Int32 → Int32 → Mm → Option (Int32 × Mm)) (hk_39 : ∀ (v0 : Nat) (v3 : Int32) (v4 : Int32) (v5 : Int32) (D : DD) (hv0 : isX9 n K R v0), f_39 v0 v3 v4 v5 ((n, K, R, D) : Mm) = (k_39 v0 v3 v4 v5 D).map (lS n K R)) (v0 : Nat) (v3 : Int32) (v5 : Int32) (w0 : Int32) (w1 : Int32) (D : DD) (hv0 : isX9 n K R v0) : f_X9_proof_89 f_39 v0 v3 v5 w0 w1 ((n, K, R, D) : Mm) = (g_X9_proof_89 k_39 v0 v3 v5 w0 w1 D).map (lS n K R) := by
  unfold f_X9_proof_89 g_X9_proof_89
  exact hk_39 _ _ _ _ _ hv0
set_option maxRecDepth 100000 in
def g_X9_proof_84 (k_39 : Nat → Int32 → Int32 → Int32 → DD → Option (Int32 × DD)) (v0 : Nat) (v3 : Int32) (v5 : Int32) (w0 : Int32) (D : DD) : Option (Int32 × DD) :=
  g_X9_proof_89 k_39 v0 v3 v5 w0 (1 : Int32) D
set_option maxRecDepth 100000 in
set_option maxHeartbeats 4000000 in
theorem G_X9_proof_84 {n : Nat} {K : Nat → Nat × Nat} {R : Nat → Nat → Option Nat} (k_39 : Nat → Int32 → Int32 → Int32 → DD → Option (Int32 × DD)) (f_39 : Nat → Int32 → Int32 → Int32 → Mm → Option (Int32 × Mm)) (hk_39 : ∀ (v0 : Nat) (v3 : Int32) (v4 : Int32) (v5 : Int32) (D : DD) (hv0 : isX9 n K R v0), f_39 v0 v3 v4 v5 ((n, K, R, D) : Mm) = (k_39 v0 v3 v4 v5 D).map (lS n K R)) (v0 : Nat) (v3 : Int32) (v5 : Int32) (w0 : Int32) (D : DD) (hv0 : isX9 n K R v0) : f_X9_proof_84 f_39 v0 v3 v5 w0 ((n, K, R, D) : Mm) = (g_X9_proof_84 k_39 v0 v3 v5 w0 D).map (lS n K R) := by
  unfold f_X9_proof_84 g_X9_proof_84
  exact G_X9_proof_89 _ _ hk_39 _ _ _ _ _ _ hv0
set_option maxRecDepth 100000 in
def g_X9_proof_88 (k_39 : Nat → Int32 → Int32 → Int32 → DD → Option (Int32 × DD)) (v0 : Nat) (v3 : Int32) (v5 : Int32) (w0 : Int32) (D : DD) : Option (Int32 × DD) :=
  g_X9_proof_89 k_39 v0 v3 v5 w0 (0 : Int32) D
set_option maxRecDepth 100000 in
set_option maxHeartbeats 4000000 in
theorem G_X9_proof_88 {n : Nat} {K : Nat → Nat × Nat} {R : Nat → Nat → Option Nat} (k_39 : Nat → Int32 → Int32 → Int32 → DD → Option (Int32 × DD)) (f_39 : Nat → Int32 → Int32 → Int32 → Mm → Option (Int32 × Mm)) (hk_39 : ∀ (v0 : Nat) (v3 : Int32) (v4 : Int32) (v5 : Int32) (D : DD) (hv0 : isX9 n K R v0), f_39 v0 v3 v4 v5 ((n, K, R, D) : Mm) = (k_39 v0 v3 v4 v5 D).map (lS n K R)) (v0 : Nat) (v3 : Int32) (v5 : Int32) (w0 : Int32) (D : DD) (hv0 : isX9 n K R v0) : f_X9_proof_88 f_39 v0 v3 v5 w0 ((n, K, R, D) : Mm) = (g_X9_proof_88 k_39 v0 v3 v5 w0 D).map (lS n K R) := by
  unfold f_X9_proof_88 g_X9_proof_88
  exact G_X9_proof_89 _ _ hk_39 _ _ _ _ _ _ hv0
set_option maxRecDepth 100000 in
def g_X9_proof_69 (k_39 : Nat → Int32 → Int32 → Int32 → DD → Option (Int32 × DD)) (v0 : Nat) (v3 : Int32) (v5 : Int32) (w0 : Int32) (D : DD) : Option (Int32 × DD) :=
  if v3 = (2 : Int32) then (zck (inb v5 100) (if 0 ≤ (D (v0 + 20) (ix v5)) then (g_X9_proof_88 k_39 v0 v3 v5 w0 D) else (g_X9_proof_84 k_39 v0 v3 v5 w0 D))) else (g_X9_proof_88 k_39 v0 v3 v5 w0 D)
set_option maxRecDepth 100000 in
set_option maxHeartbeats 4000000 in
theorem G_X9_proof_69 {n : Nat} {K : Nat → Nat × Nat} {R : Nat → Nat → Option Nat} (k_39 : Nat → Int32 → Int32 → Int32 → DD → Option (Int32 × DD)) (f_39 : Nat → Int32 → Int32 → Int32 → Mm → Option (Int32 × Mm)) (hk_39 : ∀ (v0 : Nat) (v3 : Int32) (v4 : Int32) (v5 : Int32) (D : DD) (hv0 : isX9 n K R v0), f_39 v0 v3 v4 v5 ((n, K, R, D) : Mm) = (k_39 v0 v3 v4 v5 D).map (lS n K R)) (v0 : Nat) (v3 : Int32) (v5 : Int32) (w0 : Int32) (D : DD) (hv0 : isX9 n K R v0) : f_X9_proof_69 f_39 v0 v3 v5 w0 ((n, K, R, D) : Mm) = (g_X9_proof_69 k_39 v0 v3 v5 w0 D).map (lS n K R) := by
  unfold f_X9_proof_69 g_X9_proof_69
  refine z_if (fun _ => ?_) (fun _ => ?_)
  ·
    refine z_ko (X9_o hv0) ?_
    refine z_rb (X9_r22 hv0) ?_
    refine z_ka (X9_a22 hv0) (fun _ => ?_)
    refine z_if (fun _ => ?_) (fun _ => ?_)
    ·
      exact G_X9_proof_88 _ _ hk_39 _ _ _ _ _ hv0
    ·
      exact G_X9_proof_84 _ _ hk_39 _ _ _ _ _ hv0
  ·
    exact G_X9_proof_88 _ _ hk_39 _ _ _ _ _ hv0
set_option maxRecDepth 100000 in
def g_X9_proof_39 : Nat → Nat → Int32 → Int32 → Int32 → DD → Option (Int32 × DD)
  | 0, _, _, _, _, _ => none
  | n + 1, v0, v3, v4, v5, D =>
    if (D v0 23) ≤ v5 then (some (v4, D)) else (if v3 = 0 then (g_X9_proof_84 (g_X9_proof_39 n) v0 v3 v5 v4 D) else (if v3 = (1 : Int32) then (zck (inb v5 100) (if 0 < (D (v0 + 20) (ix v5)) then (g_X9_proof_84 (g_X9_proof_39 n) v0 v3 v5 v4 D) else (g_X9_proof_69 (g_X9_proof_39 n) v0 v3 v5 v4 D))) else (g_X9_proof_69 (g_X9_proof_39 n) v0 v3 v5 v4 D)))
set_option maxRecDepth 100000 in
set_option maxHeartbeats 4000000 in
theorem G_X9_proof_39 {n : Nat} {K : Nat → Nat × Nat} {R : Nat → Nat → Option Nat} : ∀ (N : Nat) (v0 : Nat) (v3 : Int32) (v4 : Int32) (v5 : Int32) (D : DD) (hv0 : isX9 n K R v0), f_X9_proof_39 N v0 v3 v4 v5 ((n, K, R, D) : Mm) = (g_X9_proof_39 N v0 v3 v4 v5 D).map (lS n K R) := by
  intro N
  induction N with
  | zero => intros; rfl
  | succ N ih =>
    intro v0 v3 v4 v5 D hv0
    unfold f_X9_proof_39 g_X9_proof_39
    refine z_ko (X9_o hv0) ?_
    refine z_if (fun _ => ?_) (fun _ => ?_)
    ·
      rfl
    ·
      refine z_if (fun _ => ?_) (fun _ => ?_)
      ·
        exact G_X9_proof_84 _ _ ih _ _ _ _ _ hv0
      ·
        refine z_if (fun _ => ?_) (fun _ => ?_)
        ·
          refine z_rb (X9_r22 hv0) ?_
          refine z_ka (X9_a22 hv0) (fun _ => ?_)
          refine z_if (fun _ => ?_) (fun _ => ?_)
          ·
            exact G_X9_proof_84 _ _ ih _ _ _ _ _ hv0
          ·
            exact G_X9_proof_69 _ _ ih _ _ _ _ _ hv0
        ·
          exact G_X9_proof_69 _ _ ih _ _ _ _ _ hv0
set_option maxRecDepth 100000 in
def g_X9_proof (v0 : Nat) (v1 : Int32) (v2 : Int32) (v3 : Int32) (D : DD) : Option (Int32 × DD) :=
  pcb (g_X9_isRange v1 v2) (fun r1 => if r1 = 0 then (some ((-2 : Int32), D)) else (pcb (g_X9_in ((v3).toInt64) (0 : Int64) (2 : Int64)) (fun r3 => if r3 = 0 then (some ((-2 : Int32), D)) else (vcb (g_X9_prove v0 (v0 + 1) v1 v2 D) (fun D6 => g_X9_proof_39 1000 v0 v3 (0 : Int32) (0 : Int32) D6)))))
set_option maxRecDepth 100000 in
set_option maxHeartbeats 4000000 in
theorem G_X9_proof {n : Nat} {K : Nat → Nat × Nat} {R : Nat → Nat → Option Nat} (v0 : Nat) (v1 : Int32) (v2 : Int32) (v3 : Int32) (D : DD) (hv0 : isX9 n K R v0) : f_X9_proof v0 v1 v2 v3 ((n, K, R, D) : Mm) = (g_X9_proof v0 v1 v2 v3 D).map (lS n K R) := by
  unfold f_X9_proof g_X9_proof
  refine z_cP (G_X9_isRange _ _ _) (fun r1 he2 => ?_)
  refine z_if (fun _ => ?_) (fun _ => ?_)
  ·
    rfl
  ·
    refine z_cP (G_X9_in _ _ _ _) (fun r3 he4 => ?_)
    refine z_if (fun _ => ?_) (fun _ => ?_)
    ·
      rfl
    ·
      refine z_ko (X9_o hv0) ?_
      refine z_rb (X9_r0 hv0) ?_
      refine z_cV (G_X9_prove _ _ _ _ _ hv0 (X9_a0 hv0)) (fun _ D6 => ?_)
      exact G_X9_proof_39 1000 _ _ _ _ _ hv0
set_option maxRecDepth 100000 in
def g_X9_item (v0 : Nat) (v1 : Int32) (v2 : Int32) (v3 : Int32) (D : DD) : Option (Int32 × DD) :=
  pcb (g_X9_isRange v1 v2) (fun r1 => if r1 = 0 then (some ((-2 : Int32), D)) else (vcb (g_X9_prove v0 (v0 + 1) v1 v2 D) (fun D4 => pcb (g_X9_in ((v3).toInt64) (0 : Int64) ((((D4 v0 23) - (1 : Int32))).toInt64)) (fun r5 => if r5 = 0 then (some ((-1 : Int32), D4)) else (zck (inb v3 100) (some ((D4 (v0 + 20) (ix v3)), D4)))))))
set_option maxRecDepth 100000 in
set_option maxHeartbeats 4000000 in
theorem G_X9_item {n : Nat} {K : Nat → Nat × Nat} {R : Nat → Nat → Option Nat} (v0 : Nat) (v1 : Int32) (v2 : Int32) (v3 : Int32) (D : DD) (hv0 : isX9 n K R v0) : f_X9_item v0 v1 v2 v3 ((n, K, R, D) : Mm) = (g_X9_item v0 v1 v2 v3 D).map (lS n K R) := by
  unfold f_X9_item g_X9_item
  refine z_cP (G_X9_isRange _ _ _) (fun r1 he2 => ?_)
  refine z_if (fun _ => ?_) (fun _ => ?_)
  ·
    rfl
  ·
    refine z_ko (X9_o hv0) ?_
    refine z_rb (X9_r0 hv0) ?_
    refine z_cV (G_X9_prove _ _ _ _ _ hv0 (X9_a0 hv0)) (fun _ D4 => ?_)
    refine z_ko (X9_o hv0) ?_
    refine z_cP (G_X9_in _ _ _ _) (fun r5 he6 => ?_)
    refine z_if (fun _ => ?_) (fun _ => ?_)
    ·
      rfl
    ·
      refine z_ko (X9_o hv0) ?_
      refine z_rb (X9_r22 hv0) ?_
      refine z_ka (X9_a22 hv0) (fun _ => ?_)
      rfl
set_option maxRecDepth 100000 in
def g_X9_lengths_71 (k_23 : Nat → Int32 → Int32 → Int32 → Int32 → Int32 → DD → Option (Int32 × DD)) (v0 : Nat) (v1 : Int32) (v2 : Int32) (v3 : Int32) (v5 : Int32) (w0 : Int32) (D : DD) : Option (Int32 × DD) :=
  k_23 v0 v1 v2 v3 w0 (v5 + (-1 : Int32)) D
set_option maxRecDepth 100000 in
set_option maxHeartbeats 4000000 in
theorem G_X9_lengths_71 {n : Nat} {K : Nat → Nat × Nat} {R : Nat → Nat → Option Nat} (k_23 : Nat → Int32 → Int32 → Int32 → Int32 → Int32 → DD → Option (Int32 × DD)) (f_23 : Nat → Int32 → Int32 → Int32 → Int32 → Int32 → Mm → Option (Int32 × Mm)) (hk_23 : ∀ (v0 : Nat) (v1 : Int32) (v2 : Int32) (v3 : Int32) (v4 : Int32) (v5 : Int32) (D : DD) (hv0 : isX9 n K R v0), f_23 v0 v1 v2 v3 v4 v5 ((n, K, R, D) : Mm) = (k_23 v0 v1 v2 v3 v4 v5 D).map (lS n K R)) (v0 : Nat) (v1 : Int32) (v2 : Int32) (v3 : Int32) (v5 : Int32) (w0 : Int32) (D : DD) (hv0 : isX9 n K R v0) : f_X9_lengths_71 f_23 v0 v1 v2 v3 v5 w0 ((n, K, R, D) : Mm) = (g_X9_lengths_71 k_23 v0 v1 v2 v3 v5 w0 D).map (lS n K R) := by
  unfold f_X9_lengths_71 g_X9_lengths_71
  exact hk_23 _ _ _ _ _ _ _ hv0
set_option maxRecDepth 100000 in
def g_X9_lengths_54 (k_23 : Nat → Int32 → Int32 → Int32 → Int32 → Int32 → DD → Option (Int32 × DD)) (v0 : Nat) (v1 : Int32) (v2 : Int32) (v4 : Int32) (v5 : Int32) (w0 : Int32) (w1 : Int32) (D : DD) : Option (Int32 × DD) :=
  if (D v0 23) = v1 then (g_X9_lengths_71 k_23 v0 v1 v2 (w0 + w1) v5 v5 D) else (g_X9_lengths_71 k_23 v0 v1 v2 (w0 + w1) v5 v4 D)
set_option maxRecDepth 100000 in
set_option maxHeartbeats 4000000 in
theorem G_X9_lengths_54 {n : Nat} {K : Nat → Nat × Nat} {R : Nat → Nat → Option Nat} (k_23 : Nat → Int32 → Int32 → Int32 → Int32 → Int32 → DD → Option (Int32 × DD)) (f_23 : Nat → Int32 → Int32 → Int32 → Int32 → Int32 → Mm → Option (Int32 × Mm)) (hk_23 : ∀ (v0 : Nat) (v1 : Int32) (v2 : Int32) (v3 : Int32) (v4 : Int32) (v5 : Int32) (D : DD) (hv0 : isX9 n K R v0), f_23 v0 v1 v2 v3 v4 v5 ((n, K, R, D) : Mm) = (k_23 v0 v1 v2 v3 v4 v5 D).map (lS n K R)) (v0 : Nat) (v1 : Int32) (v2 : Int32) (v4 : Int32) (v5 : Int32) (w0 : Int32) (w1 : Int32) (D : DD) (hv0 : isX9 n K R v0) : f_X9_lengths_54 f_23 v0 v1 v2 v4 v5 w0 w1 ((n, K, R, D) : Mm) = (g_X9_lengths_54 k_23 v0 v1 v2 v4 v5 w0 w1 D).map (lS n K R) := by
  unfold f_X9_lengths_54 g_X9_lengths_54
  refine z_ko (X9_o hv0) ?_
  refine z_if (fun _ => ?_) (fun _ => ?_)
  ·
    exact G_X9_lengths_71 _ _ hk_23 _ _ _ _ _ _ _ hv0
  ·
    exact G_X9_lengths_71 _ _ hk_23 _ _ _ _ _ _ _ hv0
set_option maxRecDepth 100000 in
def g_X9_lengths_23 : Nat → Nat → Int32 → Int32 → Int32 → Int32 → Int32 → DD → Option (Int32 × DD)
  | 0, _, _, _, _, _, _, _ => none
  | n + 1, v0, v1, v2, v3, v4, v5, D =>
    if v5 < 0 then (if v2 = 0 then (some (v3, D)) else (some (v4, D))) else (vcb (g_X9_prove v0 (v0 + 1) v5 v5 D) (fun D2 => if (D2 v0 23) = v1 then (g_X9_lengths_54 (g_X9_lengths_23 n) v0 v1 v2 v4 v5 v3 (1 : Int32) D2) else (g_X9_lengths_54 (g_X9_lengths_23 n) v0 v1 v2 v4 v5 v3 (0 : Int32) D2)))
set_option maxRecDepth 100000 in
set_option maxHeartbeats 4000000 in
theorem G_X9_lengths_23 {n : Nat} {K : Nat → Nat × Nat} {R : Nat → Nat → Option Nat} : ∀ (N : Nat) (v0 : Nat) (v1 : Int32) (v2 : Int32) (v3 : Int32) (v4 : Int32) (v5 : Int32) (D : DD) (hv0 : isX9 n K R v0), f_X9_lengths_23 N v0 v1 v2 v3 v4 v5 ((n, K, R, D) : Mm) = (g_X9_lengths_23 N v0 v1 v2 v3 v4 v5 D).map (lS n K R) := by
  intro N
  induction N with
  | zero => intros; rfl
  | succ N ih =>
    intro v0 v1 v2 v3 v4 v5 D hv0
    unfold f_X9_lengths_23 g_X9_lengths_23
    refine z_if (fun _ => ?_) (fun _ => ?_)
    ·
      refine z_if (fun _ => ?_) (fun _ => ?_)
      ·
        rfl
      ·
        rfl
    ·
      refine z_ko (X9_o hv0) ?_
      refine z_rb (X9_r0 hv0) ?_
      refine z_cV (G_X9_prove _ _ _ _ _ hv0 (X9_a0 hv0)) (fun _ D2 => ?_)
      refine z_ko (X9_o hv0) ?_
      refine z_if (fun _ => ?_) (fun _ => ?_)
      ·
        exact G_X9_lengths_54 _ _ ih _ _ _ _ _ _ _ _ hv0
      ·
        exact G_X9_lengths_54 _ _ ih _ _ _ _ _ _ _ _ hv0
set_option maxRecDepth 100000 in
def g_X9_lengths (v0 : Nat) (v1 : Int32) (v2 : Int32) (D : DD) : Option (Int32 × DD) :=
  pcb (g_X9_in ((v2).toInt64) (0 : Int64) (1 : Int64)) (fun r3 => if r3 = 0 then (some ((-2 : Int32), D)) else (g_X9_lengths_23 1000 v0 v1 v2 (0 : Int32) (-9 : Int32) (99 : Int32) D))
set_option maxRecDepth 100000 in
set_option maxHeartbeats 4000000 in
theorem G_X9_lengths {n : Nat} {K : Nat → Nat × Nat} {R : Nat → Nat → Option Nat} (v0 : Nat) (v1 : Int32) (v2 : Int32) (D : DD) (hv0 : isX9 n K R v0) : f_X9_lengths v0 v1 v2 ((n, K, R, D) : Mm) = (g_X9_lengths v0 v1 v2 D).map (lS n K R) := by
  unfold f_X9_lengths g_X9_lengths
  refine z_cP (G_X9_in _ _ _ _) (fun r3 he4 => ?_)
  refine z_if (fun _ => ?_) (fun _ => ?_)
  ·
    rfl
  ·
    exact G_X9_lengths_23 1000 _ _ _ _ _ _ _ hv0
set_option maxRecDepth 100000 in
def g_X9_send_31 : Nat → Nat → Int32 → DD → Option (Int32 × DD)
  | 0, _, _, _ => none
  | n + 1, v0, v3, D =>
    if (D v0 25) ≤ v3 then (some ((D v0 25), D)) else (zck (inb v3 100) (zck (inb v3 100) (dlt (u2 D (v0 + 21) (ix v3) (D (v0 + 20) (ix v3))) (fun D1 => g_X9_send_31 n v0 (v3 + (1 : Int32)) D1))))
set_option maxRecDepth 100000 in
set_option maxHeartbeats 4000000 in
theorem G_X9_send_31 {n : Nat} {K : Nat → Nat × Nat} {R : Nat → Nat → Option Nat} : ∀ (N : Nat) (v0 : Nat) (v3 : Int32) (D : DD) (hv0 : isX9 n K R v0), f_X9_send_31 N v0 v3 ((n, K, R, D) : Mm) = (g_X9_send_31 N v0 v3 D).map (lS n K R) := by
  intro N
  induction N with
  | zero => intros; rfl
  | succ N ih =>
    intro v0 v3 D hv0
    unfold f_X9_send_31 g_X9_send_31
    refine z_ko (X9_o hv0) ?_
    refine z_if (fun _ => ?_) (fun _ => ?_)
    ·
      rfl
    ·
      refine z_rb (X9_r24 hv0) ?_
      refine z_rb (X9_r22 hv0) ?_
      refine z_ka (X9_a22 hv0) (fun _ => ?_)
      refine z_ka (X9_a24 hv0) (fun _ => ?_)
      refine z_lt rfl (fun D1 => ?_)
      exact ih _ _ _ hv0
set_option maxRecDepth 100000 in
def g_X9_send (v0 : Nat) (v1 : Int32) (v2 : Int32) (D : DD) : Option (Int32 × DD) :=
  pcb (g_X9_isRange v1 v2) (fun r2 => if r2 = 0 then (some ((-2 : Int32), D)) else (vcb (g_X9_prove v0 (v0 + 1) v1 v2 D) (fun D5 => dlt (u2 D5 v0 25 (D5 v0 23)) (fun D6 => g_X9_send_31 1000 v0 (0 : Int32) D6))))
set_option maxRecDepth 100000 in
set_option maxHeartbeats 4000000 in
theorem G_X9_send {n : Nat} {K : Nat → Nat × Nat} {R : Nat → Nat → Option Nat} (v0 : Nat) (v1 : Int32) (v2 : Int32) (D : DD) (hv0 : isX9 n K R v0) : f_X9_send v0 v1 v2 ((n, K, R, D) : Mm) = (g_X9_send v0 v1 v2 D).map (lS n K R) := by
  unfold f_X9_send g_X9_send
  refine z_cP (G_X9_isRange _ _ _) (fun r2 he3 => ?_)
  refine z_if (fun _ => ?_) (fun _ => ?_)
  ·
    rfl
  ·
    refine z_ko (X9_o hv0) ?_
    refine z_rb (X9_r0 hv0) ?_
    refine z_cV (G_X9_prove _ _ _ _ _ hv0 (X9_a0 hv0)) (fun _ D5 => ?_)
    refine z_ko (X9_o hv0) ?_
    refine z_lt rfl (fun D6 => ?_)
    exact G_X9_send_31 1000 _ _ _ hv0
set_option maxRecDepth 100000 in
def g_X9_isItem (v0 : Int32) : Option Int32 :=
  if 0 ≤ v0 then (some (1 : Int32)) else (pcb (g_X9_in ((v0).toInt64) (-10099 : Int64) (-100 : Int64)) (fun r1 => if r1 = 0 then (some (0 : Int32)) else (some (1 : Int32))))
set_option maxRecDepth 100000 in
set_option maxHeartbeats 4000000 in
theorem G_X9_isItem {n : Nat} {K : Nat → Nat × Nat} {R : Nat → Nat → Option Nat} (v0 : Int32) (D : DD) : f_X9_isItem v0 ((n, K, R, D) : Mm) = (g_X9_isItem v0).map (lP n K R D) := by
  unfold f_X9_isItem g_X9_isItem
  refine z_if (fun _ => ?_) (fun _ => ?_)
  ·
    rfl
  ·
    refine z_cP (G_X9_in _ _ _ _) (fun r1 he2 => ?_)
    refine z_if (fun _ => ?_) (fun _ => ?_)
    ·
      rfl
    ·
      rfl
set_option maxRecDepth 100000 in
def g_X9_tell (v0 : Nat) (v1 : Int32) (D : DD) : Option (Int32 × DD) :=
  pcb (g_X9_isItem v1) (fun r1 => if r1 = 0 then (some ((-2 : Int32), D)) else (if (D v0 25) = (100 : Int32) then (some ((-4 : Int32), D)) else (zck (inb (D v0 25) 100) (dlt (u2 D (v0 + 21) (ix (D v0 25)) v1) (fun D3 => dlt (u2 D3 v0 25 ((D3 v0 25) + (1 : Int32))) (fun D4 => some ((D4 v0 25), D4)))))))
set_option maxRecDepth 100000 in
set_option maxHeartbeats 4000000 in
theorem G_X9_tell {n : Nat} {K : Nat → Nat × Nat} {R : Nat → Nat → Option Nat} (v0 : Nat) (v1 : Int32) (D : DD) (hv0 : isX9 n K R v0) : f_X9_tell v0 v1 ((n, K, R, D) : Mm) = (g_X9_tell v0 v1 D).map (lS n K R) := by
  unfold f_X9_tell g_X9_tell
  refine z_cP (G_X9_isItem _ _) (fun r1 he2 => ?_)
  refine z_if (fun _ => ?_) (fun _ => ?_)
  ·
    rfl
  ·
    refine z_ko (X9_o hv0) ?_
    refine z_if (fun _ => ?_) (fun _ => ?_)
    ·
      rfl
    ·
      refine z_rb (X9_r24 hv0) ?_
      refine z_ka (X9_a24 hv0) (fun _ => ?_)
      refine z_lt rfl (fun D3 => ?_)
      refine z_lt rfl (fun D4 => ?_)
      rfl
set_option maxRecDepth 100000 in
def g_X9_alter (v0 : Nat) (v1 : Int32) (v2 : Int32) (D : DD) : Option (Int32 × DD) :=
  pcb (g_X9_in ((v1).toInt64) (0 : Int64) ((((D v0 25) - (1 : Int32))).toInt64)) (fun r1 => if r1 = 0 then (some ((-1 : Int32), D)) else (pcb (g_X9_isItem v2) (fun r3 => if r3 = 0 then (some ((-2 : Int32), D)) else (zck (inb v1 100) (zck (inb v1 100) (dlt (u2 D (v0 + 21) (ix v1) v2) (fun D5 => some ((D (v0 + 21) (ix v1)), D5))))))))
set_option maxRecDepth 100000 in
set_option maxHeartbeats 4000000 in
theorem G_X9_alter {n : Nat} {K : Nat → Nat × Nat} {R : Nat → Nat → Option Nat} (v0 : Nat) (v1 : Int32) (v2 : Int32) (D : DD) (hv0 : isX9 n K R v0) : f_X9_alter v0 v1 v2 ((n, K, R, D) : Mm) = (g_X9_alter v0 v1 v2 D).map (lS n K R) := by
  unfold f_X9_alter g_X9_alter
  refine z_ko (X9_o hv0) ?_
  refine z_cP (G_X9_in _ _ _ _) (fun r1 he2 => ?_)
  refine z_if (fun _ => ?_) (fun _ => ?_)
  ·
    rfl
  ·
    refine z_cP (G_X9_isItem _ _) (fun r3 he4 => ?_)
    refine z_if (fun _ => ?_) (fun _ => ?_)
    ·
      rfl
    ·
      refine z_ko (X9_o hv0) ?_
      refine z_rb (X9_r24 hv0) ?_
      refine z_ka (X9_a24 hv0) (fun _ => ?_)
      refine z_ka (X9_a24 hv0) (fun _ => ?_)
      refine z_lt rfl (fun D5 => ?_)
      rfl
set_option maxRecDepth 100000 in
def g_X9_cut (v0 : Nat) (v1 : Int32) (D : DD) : Option (Int32 × DD) :=
  pcb (g_X9_in ((v1).toInt64) (0 : Int64) (((D v0 25)).toInt64)) (fun r1 => if r1 = 0 then (some ((-2 : Int32), D)) else (dlt (u2 D v0 25 v1) (fun D3 => some ((D v0 25), D3))))
set_option maxRecDepth 100000 in
set_option maxHeartbeats 4000000 in
theorem G_X9_cut {n : Nat} {K : Nat → Nat × Nat} {R : Nat → Nat → Option Nat} (v0 : Nat) (v1 : Int32) (D : DD) (hv0 : isX9 n K R v0) : f_X9_cut v0 v1 ((n, K, R, D) : Mm) = (g_X9_cut v0 v1 D).map (lS n K R) := by
  unfold f_X9_cut g_X9_cut
  refine z_ko (X9_o hv0) ?_
  refine z_cP (G_X9_in _ _ _ _) (fun r1 he2 => ?_)
  refine z_if (fun _ => ?_) (fun _ => ?_)
  ·
    rfl
  ·
    refine z_ko (X9_o hv0) ?_
    refine z_lt rfl (fun D3 => ?_)
    rfl
set_option maxRecDepth 100000 in
def g_X9_takeTrust_47 (v0 : Nat) (v1 : Int32) (D : DD) : Option (Int32 × DD) :=
  zck (inb (D v0 28) 8) (dlt (u2 D (v0 + 22) (ix (D v0 28)) (D v0 26)) (fun D1 => dlt (u2 D1 v0 28 ((D1 v0 28) + (1 : Int32))) (fun D2 => dlt (u2 D2 v0 26 v1) (fun D3 => some ((D3 v0 28), D3)))))
set_option maxRecDepth 100000 in
set_option maxHeartbeats 4000000 in
theorem G_X9_takeTrust_47 {n : Nat} {K : Nat → Nat × Nat} {R : Nat → Nat → Option Nat} (v0 : Nat) (v1 : Int32) (D : DD) (hv0 : isX9 n K R v0) : f_X9_takeTrust_47 v0 v1 ((n, K, R, D) : Mm) = (g_X9_takeTrust_47 v0 v1 D).map (lS n K R) := by
  unfold f_X9_takeTrust_47 g_X9_takeTrust_47
  refine z_ko (X9_o hv0) ?_
  refine z_rb (X9_r27 hv0) ?_
  refine z_ka (X9_a27 hv0) (fun _ => ?_)
  refine z_lt rfl (fun D1 => ?_)
  refine z_lt rfl (fun D2 => ?_)
  refine z_lt rfl (fun D3 => ?_)
  rfl
set_option maxRecDepth 100000 in
def g_X9_takeTrust_11 : Nat → Nat → Int32 → Int32 → DD → Option (Int32 × DD)
  | 0, _, _, _, _ => none
  | n + 1, v0, v1, v2, D =>
    if (8 : Int32) ≤ v2 then (dlt (u2 D v0 28 ((D v0 28) - (1 : Int32))) (fun D4 => g_X9_takeTrust_47 v0 v1 D4)) else (zck (inb v2 8) (zck (inb (v2 - (1 : Int32)) 8) (dlt (u2 D (v0 + 22) (ix (v2 - (1 : Int32))) (D (v0 + 22) (ix v2))) (fun D5 => g_X9_takeTrust_11 n v0 v1 (v2 + (1 : Int32)) D5))))
set_option maxRecDepth 100000 in
set_option maxHeartbeats 4000000 in
theorem G_X9_takeTrust_11 {n : Nat} {K : Nat → Nat × Nat} {R : Nat → Nat → Option Nat} : ∀ (N : Nat) (v0 : Nat) (v1 : Int32) (v2 : Int32) (D : DD) (hv0 : isX9 n K R v0), f_X9_takeTrust_11 N v0 v1 v2 ((n, K, R, D) : Mm) = (g_X9_takeTrust_11 N v0 v1 v2 D).map (lS n K R) := by
  intro N
  induction N with
  | zero => intros; rfl
  | succ N ih =>
    intro v0 v1 v2 D hv0
    unfold f_X9_takeTrust_11 g_X9_takeTrust_11
    refine z_if (fun _ => ?_) (fun _ => ?_)
    ·
      refine z_ko (X9_o hv0) ?_
      refine z_lt rfl (fun D4 => ?_)
      exact G_X9_takeTrust_47 _ _ _ hv0
    ·
      refine z_ko (X9_o hv0) ?_
      refine z_rb (X9_r27 hv0) ?_
      refine z_ka (X9_a27 hv0) (fun _ => ?_)
      refine z_ka (X9_a27 hv0) (fun _ => ?_)
      refine z_lt rfl (fun D5 => ?_)
      exact ih _ _ _ _ hv0
set_option maxRecDepth 100000 in
def g_X9_takeTrust (v0 : Nat) (v1 : Int32) (D : DD) : Option (Int32 × DD) :=
  if (D v0 28) = (8 : Int32) then (g_X9_takeTrust_11 1000 v0 v1 (1 : Int32) D) else (g_X9_takeTrust_47 v0 v1 D)
set_option maxRecDepth 100000 in
set_option maxHeartbeats 4000000 in
theorem G_X9_takeTrust {n : Nat} {K : Nat → Nat × Nat} {R : Nat → Nat → Option Nat} (v0 : Nat) (v1 : Int32) (D : DD) (hv0 : isX9 n K R v0) : f_X9_takeTrust v0 v1 ((n, K, R, D) : Mm) = (g_X9_takeTrust v0 v1 D).map (lS n K R) := by
  unfold f_X9_takeTrust g_X9_takeTrust
  refine z_ko (X9_o hv0) ?_
  refine z_if (fun _ => ?_) (fun _ => ?_)
  ·
    exact G_X9_takeTrust_11 1000 _ _ _ _ hv0
  ·
    exact G_X9_takeTrust_47 _ _ _ hv0
set_option maxRecDepth 100000 in
def g_X9_trust (v0 : Nat) (D : DD) : Option (Int32 × DD) :=
  dcb (g_X9_rootOf v0 (v0 + 1) D) (fun r1 D2 => dcb (g_X9_takeTrust v0 r1 D2) (fun r3 D4 => some (r3, D4)))
set_option maxRecDepth 100000 in
set_option maxHeartbeats 4000000 in
theorem G_X9_trust {n : Nat} {K : Nat → Nat × Nat} {R : Nat → Nat → Option Nat} (v0 : Nat) (D : DD) (hv0 : isX9 n K R v0) : f_X9_trust v0 ((n, K, R, D) : Mm) = (g_X9_trust v0 D).map (lS n K R) := by
  unfold f_X9_trust g_X9_trust
  refine z_ko (X9_o hv0) ?_
  refine z_rb (X9_r0 hv0) ?_
  refine z_cS (G_X9_rootOf _ _ _ hv0 (X9_a0 hv0)) (fun r1 D2 => ?_)
  refine z_ko (X9_o hv0) ?_
  refine z_cS (G_X9_takeTrust _ _ _ hv0) (fun r3 D4 => ?_)
  rfl
set_option maxRecDepth 100000 in
def g_X9_believe (v0 : Nat) (v1 : Int32) (D : DD) : Option (Int32 × DD) :=
  if 0 ≤ v1 then (dcb (g_X9_takeTrust v0 v1 D) (fun r1 D2 => some (r1, D2))) else (some ((-2 : Int32), D))
set_option maxRecDepth 100000 in
set_option maxHeartbeats 4000000 in
theorem G_X9_believe {n : Nat} {K : Nat → Nat × Nat} {R : Nat → Nat → Option Nat} (v0 : Nat) (v1 : Int32) (D : DD) (hv0 : isX9 n K R v0) : f_X9_believe v0 v1 ((n, K, R, D) : Mm) = (g_X9_believe v0 v1 D).map (lS n K R) := by
  unfold f_X9_believe g_X9_believe
  refine z_if (fun _ => ?_) (fun _ => ?_)
  ·
    refine z_ko (X9_o hv0) ?_
    refine z_cS (G_X9_takeTrust _ _ _ hv0) (fun r1 D2 => ?_)
    rfl
  ·
    rfl
set_option maxRecDepth 100000 in
def g_X9_former (v0 : Nat) (v1 : Int32) (D : DD) : Option Int32 :=
  pcb (g_X9_in ((v1).toInt64) (0 : Int64) ((((D v0 28) - (1 : Int32))).toInt64)) (fun r1 => if r1 = 0 then (some (-1 : Int32)) else (zck (inb (((D v0 28) - (1 : Int32)) - v1) 8) (some (D (v0 + 22) (ix (((D v0 28) - (1 : Int32)) - v1))))))
set_option maxRecDepth 100000 in
set_option maxHeartbeats 4000000 in
theorem G_X9_former {n : Nat} {K : Nat → Nat × Nat} {R : Nat → Nat → Option Nat} (v0 : Nat) (v1 : Int32) (D : DD) (hv0 : isX9 n K R v0) : f_X9_former v0 v1 ((n, K, R, D) : Mm) = (g_X9_former v0 v1 D).map (lP n K R D) := by
  unfold f_X9_former g_X9_former
  refine z_ko (X9_o hv0) ?_
  refine z_cP (G_X9_in _ _ _ _) (fun r1 he2 => ?_)
  refine z_if (fun _ => ?_) (fun _ => ?_)
  ·
    rfl
  ·
    refine z_ko (X9_o hv0) ?_
    refine z_rb (X9_r27 hv0) ?_
    refine z_ka (X9_a27 hv0) (fun _ => ?_)
    rfl
set_option maxRecDepth 100000 in
def g_X9_hang (v0 : Nat) (v1 : Int32) (v2 : Int32) (v3 : Int32) (v4 : Int32) (D : DD) : Option DD :=
  if v1 = (-9 : Int32) then (dlt (u2 D v0 37 v4) (fun D1 => some D1)) else (if v2 = 0 then (zck (inb v1 100) (dlt (u2 D (v0 + 25) (ix v1) v3) (fun D2 => zck (inb v1 100) (dlt (u2 D2 (v0 + 27) (ix v1) v4) (fun D3 => some D3))))) else (zck (inb v1 100) (dlt (u2 D (v0 + 26) (ix v1) v3) (fun D4 => zck (inb v1 100) (dlt (u2 D4 (v0 + 28) (ix v1) v4) (fun D5 => some D5))))))
set_option maxRecDepth 100000 in
set_option maxHeartbeats 4000000 in
theorem G_X9_hang {n : Nat} {K : Nat → Nat × Nat} {R : Nat → Nat → Option Nat} (v0 : Nat) (v1 : Int32) (v2 : Int32) (v3 : Int32) (v4 : Int32) (D : DD) (hv0 : isX9 n K R v0) : f_X9_hang v0 v1 v2 v3 v4 ((n, K, R, D) : Mm) = (g_X9_hang v0 v1 v2 v3 v4 D).map (lV n K R) := by
  unfold f_X9_hang g_X9_hang
  refine z_if (fun _ => ?_) (fun _ => ?_)
  ·
    refine z_ko (X9_o hv0) ?_
    refine z_lt rfl (fun D1 => ?_)
    rfl
  ·
    refine z_if (fun _ => ?_) (fun _ => ?_)
    ·
      refine z_ko (X9_o hv0) ?_
      refine z_rb (X9_r31 hv0) ?_
      refine z_ka (X9_a31 hv0) (fun _ => ?_)
      refine z_lt rfl (fun D2 => ?_)
      refine z_rb (X9_r33 hv0) ?_
      refine z_ka (X9_a33 hv0) (fun _ => ?_)
      refine z_lt rfl (fun D3 => ?_)
      rfl
    ·
      refine z_ko (X9_o hv0) ?_
      refine z_rb (X9_r32 hv0) ?_
      refine z_ka (X9_a32 hv0) (fun _ => ?_)
      refine z_lt rfl (fun D4 => ?_)
      refine z_rb (X9_r34 hv0) ?_
      refine z_ka (X9_a34 hv0) (fun _ => ?_)
      refine z_lt rfl (fun D5 => ?_)
      rfl
set_option maxRecDepth 100000 in
def g_X9_takeItem_143 (v0 : Nat) (v1 : Int32) (v2 : Int32) (v5 : Int32) (v6 : Int32) (v7 : Int32) (v8 : Int32) (D : DD) : Option (Int32 × DD) :=
  zck (inb (D v0 36) 100) (dlt (u2 D (v0 + 23) (ix (D v0 36)) v8) (fun D1 => zck (inb (D v0 36) 100) (dlt (u2 D1 (v0 + 24) (ix (D v0 36)) (((-100 : Int32) - v1) - ((-100 : Int32) - v1) / (100 : Int32) * (100 : Int32))) (fun D2 => dlt (u2 D2 v0 36 ((D2 v0 36) + (1 : Int32))) (fun D3 => zck (inb v2 110) (vcb (g_X9_hang v0 v7 (D3 (v0 + 19) (ix v2)) (D v0 36) (0 : Int32) D3) (fun D5 => vcb (g_X9_want v0 (v8 + (1 : Int32)) v6 (D v0 36) (1 : Int32) D5) (fun D7 => vcb (g_X9_want v0 v5 (v8 - (1 : Int32)) (D v0 36) (0 : Int32) D7) (fun D9 => some ((0 : Int32), D9))))))))))
set_option maxRecDepth 100000 in
set_option maxHeartbeats 4000000 in
theorem G_X9_takeItem_143 {n : Nat} {K : Nat → Nat × Nat} {R : Nat → Nat → Option Nat} (v0 : Nat) (v1 : Int32) (v2 : Int32) (v5 : Int32) (v6 : Int32) (v7 : Int32) (v8 : Int32) (D : DD) (hv0 : isX9 n K R v0) : f_X9_takeItem_143 v0 v1 v2 v5 v6 v7 v8 ((n, K, R, D) : Mm) = (g_X9_takeItem_143 v0 v1 v2 v5 v6 v7 v8 D).map (lS n K R) := by
  unfold f_X9_takeItem_143 g_X9_takeItem_143
  refine z_ko (X9_o hv0) ?_
  refine z_rb (X9_r29 hv0) ?_
  refine z_ka (X9_a29 hv0) (fun _ => ?_)
  refine z_lt rfl (fun D1 => ?_)
  refine z_rb (X9_r30 hv0) ?_
  refine z_ka (X9_a30 hv0) (fun _ => ?_)
  refine z_lt rfl (fun D2 => ?_)
  refine z_lt rfl (fun D3 => ?_)
  refine z_rb (X9_r20 hv0) ?_
  refine z_ka (X9_a20 hv0) (fun _ => ?_)
  refine z_cV (G_X9_hang _ _ _ _ _ _ hv0) (fun _ D5 => ?_)
  refine z_ko (X9_o hv0) ?_
  refine z_cV (G_X9_want _ _ _ _ _ _ hv0) (fun _ D7 => ?_)
  refine z_ko (X9_o hv0) ?_
  refine z_cV (G_X9_want _ _ _ _ _ _ hv0) (fun _ D9 => ?_)
  rfl
set_option maxRecDepth 100000 in
def g_X9_takeItem_72 (v0 : Nat) (v1 : Int32) (v2 : Int32) (v5 : Int32) (v6 : Int32) (v7 : Int32) (D : DD) : Option (Int32 × DD) :=
  if v1 < 0 then (pcb (g_X9_in (((((-100 : Int32) - v1) / (100 : Int32))).toInt64) ((v5).toInt64) ((v6).toInt64)) (fun r10 => if r10 = 0 then (some ((3 : Int32), D)) else (if v7 = (-9 : Int32) then (g_X9_takeItem_143 v0 v1 v2 v5 v6 v7 (((-100 : Int32) - v1) / (100 : Int32)) D) else (zck (inb v7 100) (pcb (g_X9_isAbove (D (v0 + 23) (ix v7)) (((-100 : Int32) - v1) / (100 : Int32))) (fun r12 => if r12 = 0 then (some ((4 : Int32), D)) else (g_X9_takeItem_143 v0 v1 v2 v5 v6 v7 (((-100 : Int32) - v1) / (100 : Int32)) D))))))) else (zck (inb v2 110) (vcb (g_X9_hang v0 v7 (D (v0 + 19) (ix v2)) (-9 : Int32) v1 D) (fun D15 => some ((0 : Int32), D15))))
set_option maxRecDepth 100000 in
set_option maxHeartbeats 4000000 in
theorem G_X9_takeItem_72 {n : Nat} {K : Nat → Nat × Nat} {R : Nat → Nat → Option Nat} (v0 : Nat) (v1 : Int32) (v2 : Int32) (v5 : Int32) (v6 : Int32) (v7 : Int32) (D : DD) (hv0 : isX9 n K R v0) : f_X9_takeItem_72 v0 v1 v2 v5 v6 v7 ((n, K, R, D) : Mm) = (g_X9_takeItem_72 v0 v1 v2 v5 v6 v7 D).map (lS n K R) := by
  unfold f_X9_takeItem_72 g_X9_takeItem_72
  refine z_if (fun _ => ?_) (fun _ => ?_)
  ·
    refine z_cP (G_X9_in _ _ _ _) (fun r10 he11 => ?_)
    refine z_if (fun _ => ?_) (fun _ => ?_)
    ·
      rfl
    ·
      refine z_if (fun _ => ?_) (fun _ => ?_)
      ·
        exact G_X9_takeItem_143 _ _ _ _ _ _ _ _ hv0
      ·
        refine z_ko (X9_o hv0) ?_
        refine z_rb (X9_r29 hv0) ?_
        refine z_ka (X9_a29 hv0) (fun _ => ?_)
        refine z_cP (G_X9_isAbove _ _ _) (fun r12 he13 => ?_)
        refine z_if (fun _ => ?_) (fun _ => ?_)
        ·
          rfl
        ·
          exact G_X9_takeItem_143 _ _ _ _ _ _ _ _ hv0
  ·
    refine z_ko (X9_o hv0) ?_
    refine z_rb (X9_r20 hv0) ?_
    refine z_ka (X9_a20 hv0) (fun _ => ?_)
    refine z_cV (G_X9_hang _ _ _ _ _ _ hv0) (fun _ D15 => ?_)
    rfl
set_option maxRecDepth 100000 in
def g_X9_takeItem_67 (v0 : Nat) (v1 : Int32) (v2 : Int32) (v5 : Int32) (v6 : Int32) (v7 : Int32) (w0 : Int32) (w1 : Int32) (D : DD) : Option (Int32 × DD) :=
  if w1 < w0 then (g_X9_takeItem_72 v0 v1 v2 v5 v6 v7 D) else (some ((5 : Int32), D))
set_option maxRecDepth 100000 in
set_option maxHeartbeats 4000000 in
theorem G_X9_takeItem_67 {n : Nat} {K : Nat → Nat × Nat} {R : Nat → Nat → Option Nat} (v0 : Nat) (v1 : Int32) (v2 : Int32) (v5 : Int32) (v6 : Int32) (v7 : Int32) (w0 : Int32) (w1 : Int32) (D : DD) (hv0 : isX9 n K R v0) : f_X9_takeItem_67 v0 v1 v2 v5 v6 v7 w0 w1 ((n, K, R, D) : Mm) = (g_X9_takeItem_67 v0 v1 v2 v5 v6 v7 w0 w1 D).map (lS n K R) := by
  unfold f_X9_takeItem_67 g_X9_takeItem_67
  refine z_if (fun _ => ?_) (fun _ => ?_)
  ·
    exact G_X9_takeItem_72 _ _ _ _ _ _ _ hv0
  ·
    rfl
set_option maxRecDepth 100000 in
def g_X9_takeItem_53 (v0 : Nat) (v1 : Int32) (v2 : Int32) (v4 : Int32) (v5 : Int32) (v6 : Int32) (v7 : Int32) (w0 : Int32) (D : DD) : Option (Int32 × DD) :=
  if v4 ≤ v6 then (g_X9_takeItem_67 v0 v1 v2 v5 v6 v7 w0 v4 D) else (g_X9_takeItem_67 v0 v1 v2 v5 v6 v7 w0 v6 D)
set_option maxRecDepth 100000 in
set_option maxHeartbeats 4000000 in
theorem G_X9_takeItem_53 {n : Nat} {K : Nat → Nat × Nat} {R : Nat → Nat → Option Nat} (v0 : Nat) (v1 : Int32) (v2 : Int32) (v4 : Int32) (v5 : Int32) (v6 : Int32) (v7 : Int32) (w0 : Int32) (D : DD) (hv0 : isX9 n K R v0) : f_X9_takeItem_53 v0 v1 v2 v4 v5 v6 v7 w0 ((n, K, R, D) : Mm) = (g_X9_takeItem_53 v0 v1 v2 v4 v5 v6 v7 w0 D).map (lS n K R) := by
  unfold f_X9_takeItem_53 g_X9_takeItem_53
  refine z_if (fun _ => ?_) (fun _ => ?_)
  ·
    exact G_X9_takeItem_67 _ _ _ _ _ _ _ _ _ hv0
  ·
    exact G_X9_takeItem_67 _ _ _ _ _ _ _ _ _ hv0
set_option maxRecDepth 100000 in
def g_X9_takeItem_37 (v0 : Nat) (v1 : Int32) (v2 : Int32) (v3 : Int32) (v4 : Int32) (v5 : Int32) (v6 : Int32) (v7 : Int32) (D : DD) : Option (Int32 × DD) :=
  if v1 ≤ 0 then (g_X9_takeItem_72 v0 v1 v2 v5 v6 v7 D) else (if v5 ≤ v3 then (g_X9_takeItem_53 v0 v1 v2 v4 v5 v6 v7 v3 D) else (g_X9_takeItem_53 v0 v1 v2 v4 v5 v6 v7 v5 D))
set_option maxRecDepth 100000 in
set_option maxHeartbeats 4000000 in
theorem G_X9_takeItem_37 {n : Nat} {K : Nat → Nat × Nat} {R : Nat → Nat → Option Nat} (v0 : Nat) (v1 : Int32) (v2 : Int32) (v3 : Int32) (v4 : Int32) (v5 : Int32) (v6 : Int32) (v7 : Int32) (D : DD) (hv0 : isX9 n K R v0) : f_X9_takeItem_37 v0 v1 v2 v3 v4 v5 v6 v7 ((n, K, R, D) : Mm) = (g_X9_takeItem_37 v0 v1 v2 v3 v4 v5 v6 v7 D).map (lS n K R) := by
  unfold f_X9_takeItem_37 g_X9_takeItem_37
  refine z_if (fun _ => ?_) (fun _ => ?_)
  ·
    exact G_X9_takeItem_72 _ _ _ _ _ _ _ hv0
  ·
    refine z_if (fun _ => ?_) (fun _ => ?_)
    ·
      exact G_X9_takeItem_53 _ _ _ _ _ _ _ _ _ hv0
    ·
      exact G_X9_takeItem_53 _ _ _ _ _ _ _ _ _ hv0
set_option maxRecDepth 100000 in
def g_X9_takeItem (v0 : Nat) (v1 : Int32) (v2 : Int32) (v3 : Int32) (v4 : Int32) (D : DD) : Option (Int32 × DD) :=
  zck (inb v2 110) (zck (inb v2 110) (zck (inb v2 110) (if v1 ≤ 0 then (g_X9_takeItem_37 v0 v1 v2 v3 v4 (D (v0 + 16) (ix v2)) (D (v0 + 17) (ix v2)) (D (v0 + 18) (ix v2)) D) else (if (D (v0 + 16) (ix v2)) ≤ (D (v0 + 17) (ix v2)) then (g_X9_takeItem_37 v0 v1 v2 v3 v4 (D (v0 + 16) (ix v2)) (D (v0 + 17) (ix v2)) (D (v0 + 18) (ix v2)) D) else (some ((3 : Int32), D))))))
set_option maxRecDepth 100000 in
set_option maxHeartbeats 4000000 in
theorem G_X9_takeItem {n : Nat} {K : Nat → Nat × Nat} {R : Nat → Nat → Option Nat} (v0 : Nat) (v1 : Int32) (v2 : Int32) (v3 : Int32) (v4 : Int32) (D : DD) (hv0 : isX9 n K R v0) : f_X9_takeItem v0 v1 v2 v3 v4 ((n, K, R, D) : Mm) = (g_X9_takeItem v0 v1 v2 v3 v4 D).map (lS n K R) := by
  unfold f_X9_takeItem g_X9_takeItem
  refine z_ko (X9_o hv0) ?_
  refine z_rb (X9_r17 hv0) ?_
  refine z_ka (X9_a17 hv0) (fun _ => ?_)
  refine z_rb (X9_r18 hv0) ?_
  refine z_ka (X9_a18 hv0) (fun _ => ?_)
  refine z_rb (X9_r19 hv0) ?_
  refine z_ka (X9_a19 hv0) (fun _ => ?_)
  refine z_if (fun _ => ?_) (fun _ => ?_)
  ·
    exact G_X9_takeItem_37 _ _ _ _ _ _ _ _ _ hv0
  ·
    refine z_if (fun _ => ?_) (fun _ => ?_)
    ·
      exact G_X9_takeItem_37 _ _ _ _ _ _ _ _ _ hv0
    ·
      rfl
set_option maxRecDepth 100000 in
def g_X9_shownDigest_74 (k_7 : Nat → Int32 → DD → Option (Int32 × DD)) (v0 : Nat) (v1 : Int32) (v2 : Int32) (w0 : Int32) (D : DD) : Option (Int32 × DD) :=
  zck (inb v1 100) (zck (inb v1 100) (pcb (g_X9_digestOf (D (v0 + 23) (ix v1)) (D (v0 + 24) (ix v1)) v2 w0) (fun r1 => zck (inb v1 100) (dlt (u2 D (v0 + 29) (ix v1) r1) (fun D3 => k_7 v0 (v1 + (-1 : Int32)) D3)))))
set_option maxRecDepth 100000 in
set_option maxHeartbeats 4000000 in
theorem G_X9_shownDigest_74 {n : Nat} {K : Nat → Nat × Nat} {R : Nat → Nat → Option Nat} (k_7 : Nat → Int32 → DD → Option (Int32 × DD)) (f_7 : Nat → Int32 → Mm → Option (Int32 × Mm)) (hk_7 : ∀ (v0 : Nat) (v1 : Int32) (D : DD) (hv0 : isX9 n K R v0), f_7 v0 v1 ((n, K, R, D) : Mm) = (k_7 v0 v1 D).map (lS n K R)) (v0 : Nat) (v1 : Int32) (v2 : Int32) (w0 : Int32) (D : DD) (hv0 : isX9 n K R v0) : f_X9_shownDigest_74 f_7 v0 v1 v2 w0 ((n, K, R, D) : Mm) = (g_X9_shownDigest_74 k_7 v0 v1 v2 w0 D).map (lS n K R) := by
  unfold f_X9_shownDigest_74 g_X9_shownDigest_74
  refine z_ko (X9_o hv0) ?_
  refine z_rb (X9_r35 hv0) ?_
  refine z_rb (X9_r29 hv0) ?_
  refine z_ka (X9_a29 hv0) (fun _ => ?_)
  refine z_rb (X9_r30 hv0) ?_
  refine z_ka (X9_a30 hv0) (fun _ => ?_)
  refine z_cP (G_X9_digestOf _ _ _ _ _) (fun r1 he2 => ?_)
  refine z_ka (X9_a35 hv0) (fun _ => ?_)
  refine z_lt rfl (fun D3 => ?_)
  exact hk_7 _ _ _ hv0
set_option maxRecDepth 100000 in
def g_X9_shownDigest_42 (k_7 : Nat → Int32 → DD → Option (Int32 × DD)) (v0 : Nat) (v1 : Int32) (w0 : Int32) (D : DD) : Option (Int32 × DD) :=
  zck (inb v1 100) (if (D (v0 + 26) (ix v1)) = (-9 : Int32) then (zck (inb v1 100) (g_X9_shownDigest_74 k_7 v0 v1 w0 (D (v0 + 28) (ix v1)) D)) else (zck (inb v1 100) (zck (inb (D (v0 + 26) (ix v1)) 100) (g_X9_shownDigest_74 k_7 v0 v1 w0 (D (v0 + 29) (ix (D (v0 + 26) (ix v1)))) D))))
set_option maxRecDepth 100000 in
set_option maxHeartbeats 4000000 in
theorem G_X9_shownDigest_42 {n : Nat} {K : Nat → Nat × Nat} {R : Nat → Nat → Option Nat} (k_7 : Nat → Int32 → DD → Option (Int32 × DD)) (f_7 : Nat → Int32 → Mm → Option (Int32 × Mm)) (hk_7 : ∀ (v0 : Nat) (v1 : Int32) (D : DD) (hv0 : isX9 n K R v0), f_7 v0 v1 ((n, K, R, D) : Mm) = (k_7 v0 v1 D).map (lS n K R)) (v0 : Nat) (v1 : Int32) (w0 : Int32) (D : DD) (hv0 : isX9 n K R v0) : f_X9_shownDigest_42 f_7 v0 v1 w0 ((n, K, R, D) : Mm) = (g_X9_shownDigest_42 k_7 v0 v1 w0 D).map (lS n K R) := by
  unfold f_X9_shownDigest_42 g_X9_shownDigest_42
  refine z_ko (X9_o hv0) ?_
  refine z_rb (X9_r32 hv0) ?_
  refine z_ka (X9_a32 hv0) (fun _ => ?_)
  refine z_if (fun _ => ?_) (fun _ => ?_)
  ·
    refine z_rb (X9_r34 hv0) ?_
    refine z_ka (X9_a34 hv0) (fun _ => ?_)
    exact G_X9_shownDigest_74 _ _ hk_7 _ _ _ _ _ hv0
  ·
    refine z_rb (X9_r35 hv0) ?_
    refine z_ka (X9_a32 hv0) (fun _ => ?_)
    refine z_ka (X9_a35 hv0) (fun _ => ?_)
    exact G_X9_shownDigest_74 _ _ hk_7 _ _ _ _ _ hv0
set_option maxRecDepth 100000 in
def g_X9_shownDigest_7 : Nat → Nat → Int32 → DD → Option (Int32 × DD)
  | 0, _, _, _ => none
  | n + 1, v0, v1, D =>
    if v1 < 0 then (if (D v0 36) = 0 then (some ((D v0 37), D)) else (zck (inb (0 : Int32) 100) (some ((D (v0 + 29) (ix (0 : Int32))), D)))) else (zck (inb v1 100) (if (D (v0 + 25) (ix v1)) = (-9 : Int32) then (zck (inb v1 100) (g_X9_shownDigest_42 (g_X9_shownDigest_7 n) v0 v1 (D (v0 + 27) (ix v1)) D)) else (zck (inb v1 100) (zck (inb (D (v0 + 25) (ix v1)) 100) (g_X9_shownDigest_42 (g_X9_shownDigest_7 n) v0 v1 (D (v0 + 29) (ix (D (v0 + 25) (ix v1)))) D)))))
set_option maxRecDepth 100000 in
set_option maxHeartbeats 4000000 in
theorem G_X9_shownDigest_7 {n : Nat} {K : Nat → Nat × Nat} {R : Nat → Nat → Option Nat} : ∀ (N : Nat) (v0 : Nat) (v1 : Int32) (D : DD) (hv0 : isX9 n K R v0), f_X9_shownDigest_7 N v0 v1 ((n, K, R, D) : Mm) = (g_X9_shownDigest_7 N v0 v1 D).map (lS n K R) := by
  intro N
  induction N with
  | zero => intros; rfl
  | succ N ih =>
    intro v0 v1 D hv0
    unfold f_X9_shownDigest_7 g_X9_shownDigest_7
    refine z_if (fun _ => ?_) (fun _ => ?_)
    ·
      refine z_ko (X9_o hv0) ?_
      refine z_if (fun _ => ?_) (fun _ => ?_)
      ·
        rfl
      ·
        refine z_rb (X9_r35 hv0) ?_
        refine z_ka (X9_a35 hv0) (fun _ => ?_)
        rfl
    ·
      refine z_ko (X9_o hv0) ?_
      refine z_rb (X9_r31 hv0) ?_
      refine z_ka (X9_a31 hv0) (fun _ => ?_)
      refine z_if (fun _ => ?_) (fun _ => ?_)
      ·
        refine z_rb (X9_r33 hv0) ?_
        refine z_ka (X9_a33 hv0) (fun _ => ?_)
        exact G_X9_shownDigest_42 _ _ ih _ _ _ _ hv0
      ·
        refine z_rb (X9_r35 hv0) ?_
        refine z_ka (X9_a31 hv0) (fun _ => ?_)
        refine z_ka (X9_a35 hv0) (fun _ => ?_)
        exact G_X9_shownDigest_42 _ _ ih _ _ _ _ hv0
set_option maxRecDepth 100000 in
def g_X9_shownDigest (v0 : Nat) (D : DD) : Option (Int32 × DD) :=
  g_X9_shownDigest_7 1000 v0 ((D v0 36) - (1 : Int32)) D
set_option maxRecDepth 100000 in
set_option maxHeartbeats 4000000 in
theorem G_X9_shownDigest {n : Nat} {K : Nat → Nat × Nat} {R : Nat → Nat → Option Nat} (v0 : Nat) (D : DD) (hv0 : isX9 n K R v0) : f_X9_shownDigest v0 ((n, K, R, D) : Mm) = (g_X9_shownDigest v0 D).map (lS n K R) := by
  unfold f_X9_shownDigest g_X9_shownDigest
  refine z_ko (X9_o hv0) ?_
  exact G_X9_shownDigest_7 1000 _ _ _ hv0
set_option maxRecDepth 100000 in
def g_X9_reasonOf_139 (k_108 : Nat → Int32 → Int32 → Int32 → DD → Option (Int32 × DD)) (v0 : Nat) (v4 : Int32) (v6 : Int32) (w0 : Int32) (D : DD) : Option (Int32 × DD) :=
  k_108 v0 v4 w0 (v6 + (1 : Int32)) D
set_option maxRecDepth 100000 in
set_option maxHeartbeats 4000000 in
theorem G_X9_reasonOf_139 {n : Nat} {K : Nat → Nat × Nat} {R : Nat → Nat → Option Nat} (k_108 : Nat → Int32 → Int32 → Int32 → DD → Option (Int32 × DD)) (f_108 : Nat → Int32 → Int32 → Int32 → Mm → Option (Int32 × Mm)) (hk_108 : ∀ (v0 : Nat) (v4 : Int32) (v5 : Int32) (v6 : Int32) (D : DD) (hv0 : isX9 n K R v0), f_108 v0 v4 v5 v6 ((n, K, R, D) : Mm) = (k_108 v0 v4 v5 v6 D).map (lS n K R)) (v0 : Nat) (v4 : Int32) (v6 : Int32) (w0 : Int32) (D : DD) (hv0 : isX9 n K R v0) : f_X9_reasonOf_139 f_108 v0 v4 v6 w0 ((n, K, R, D) : Mm) = (g_X9_reasonOf_139 k_108 v0 v4 v6 w0 D).map (lS n K R) := by
  unfold f_X9_reasonOf_139 g_X9_reasonOf_139
  exact hk_108 _ _ _ _ _ hv0
set_option maxRecDepth 100000 in
def g_X9_reasonOf_134 (k_108 : Nat → Int32 → Int32 → Int32 → DD → Option (Int32 × DD)) (v0 : Nat) (v4 : Int32) (v6 : Int32) (D : DD) : Option (Int32 × DD) :=
  g_X9_reasonOf_139 k_108 v0 v4 v6 (1 : Int32) D
set_option maxRecDepth 100000 in
set_option maxHeartbeats 4000000 in
theorem G_X9_reasonOf_134 {n : Nat} {K : Nat → Nat × Nat} {R : Nat → Nat → Option Nat} (k_108 : Nat → Int32 → Int32 → Int32 → DD → Option (Int32 × DD)) (f_108 : Nat → Int32 → Int32 → Int32 → Mm → Option (Int32 × Mm)) (hk_108 : ∀ (v0 : Nat) (v4 : Int32) (v5 : Int32) (v6 : Int32) (D : DD) (hv0 : isX9 n K R v0), f_108 v0 v4 v5 v6 ((n, K, R, D) : Mm) = (k_108 v0 v4 v5 v6 D).map (lS n K R)) (v0 : Nat) (v4 : Int32) (v6 : Int32) (D : DD) (hv0 : isX9 n K R v0) : f_X9_reasonOf_134 f_108 v0 v4 v6 ((n, K, R, D) : Mm) = (g_X9_reasonOf_134 k_108 v0 v4 v6 D).map (lS n K R) := by
  unfold f_X9_reasonOf_134 g_X9_reasonOf_134
  exact G_X9_reasonOf_139 _ _ hk_108 _ _ _ _ _ hv0
set_option maxRecDepth 100000 in
def g_X9_reasonOf_108 : Nat → Nat → Int32 → Int32 → Int32 → DD → Option (Int32 × DD)
  | 0, _, _, _, _, _ => none
  | n + 1, v0, v4, v5, v6, D =>
    if (D v0 28) ≤ v6 then (if v4 = (D v0 26) then (some ((0 : Int32), D)) else (if v5 = 0 then (some ((6 : Int32), D)) else (some ((7 : Int32), D)))) else (if v5 = 0 then (zck (inb v6 8) (if (D (v0 + 22) (ix v6)) = v4 then (g_X9_reasonOf_134 (g_X9_reasonOf_108 n) v0 v4 v6 D) else (g_X9_reasonOf_139 (g_X9_reasonOf_108 n) v0 v4 v6 (0 : Int32) D))) else (g_X9_reasonOf_134 (g_X9_reasonOf_108 n) v0 v4 v6 D))
set_option maxRecDepth 100000 in
set_option maxHeartbeats 4000000 in
theorem G_X9_reasonOf_108 {n : Nat} {K : Nat → Nat × Nat} {R : Nat → Nat → Option Nat} : ∀ (N : Nat) (v0 : Nat) (v4 : Int32) (v5 : Int32) (v6 : Int32) (D : DD) (hv0 : isX9 n K R v0), f_X9_reasonOf_108 N v0 v4 v5 v6 ((n, K, R, D) : Mm) = (g_X9_reasonOf_108 N v0 v4 v5 v6 D).map (lS n K R) := by
  intro N
  induction N with
  | zero => intros; rfl
  | succ N ih =>
    intro v0 v4 v5 v6 D hv0
    unfold f_X9_reasonOf_108 g_X9_reasonOf_108
    refine z_ko (X9_o hv0) ?_
    refine z_if (fun _ => ?_) (fun _ => ?_)
    ·
      refine z_if (fun _ => ?_) (fun _ => ?_)
      ·
        rfl
      ·
        refine z_if (fun _ => ?_) (fun _ => ?_)
        ·
          rfl
        ·
          rfl
    ·
      refine z_if (fun _ => ?_) (fun _ => ?_)
      ·
        refine z_rb (X9_r27 hv0) ?_
        refine z_ka (X9_a27 hv0) (fun _ => ?_)
        refine z_if (fun _ => ?_) (fun _ => ?_)
        ·
          exact G_X9_reasonOf_134 _ _ ih _ _ _ _ hv0
        ·
          exact G_X9_reasonOf_139 _ _ ih _ _ _ _ _ hv0
      ·
        exact G_X9_reasonOf_134 _ _ ih _ _ _ _ hv0
set_option maxRecDepth 100000 in
def g_X9_reasonOf_27 : Nat → Nat → Int32 → Int32 → Int32 → DD → Option (Int32 × DD)
  | 0, _, _, _, _, _ => none
  | n + 1, v0, v1, v2, v3, D =>
    if (D v0 21) ≤ 0 then (if (D v0 25) ≤ v3 then (dcb (g_X9_shownDigest v0 D) (fun r1 D2 => g_X9_reasonOf_108 1000 v0 r1 (0 : Int32) (0 : Int32) D2)) else (some ((2 : Int32), D))) else (if v3 = (D v0 25) then (some ((1 : Int32), D)) else (dlt (u2 D v0 21 ((D v0 21) - (1 : Int32))) (fun D3 => zck (inb v3 100) (dcb (g_X9_takeItem v0 (D3 (v0 + 21) (ix v3)) (D3 v0 21) v1 v2 D3) (fun r4 D5 => if r4 = 0 then (g_X9_reasonOf_27 n v0 v1 v2 (v3 + (1 : Int32)) D5) else (some (r4, D5)))))))
set_option maxRecDepth 100000 in
set_option maxHeartbeats 4000000 in
theorem G_X9_reasonOf_27 {n : Nat} {K : Nat → Nat × Nat} {R : Nat → Nat → Option Nat} : ∀ (N : Nat) (v0 : Nat) (v1 : Int32) (v2 : Int32) (v3 : Int32) (D : DD) (hv0 : isX9 n K R v0), f_X9_reasonOf_27 N v0 v1 v2 v3 ((n, K, R, D) : Mm) = (g_X9_reasonOf_27 N v0 v1 v2 v3 D).map (lS n K R) := by
  intro N
  induction N with
  | zero => intros; rfl
  | succ N ih =>
    intro v0 v1 v2 v3 D hv0
    unfold f_X9_reasonOf_27 g_X9_reasonOf_27
    refine z_ko (X9_o hv0) ?_
    refine z_if (fun _ => ?_) (fun _ => ?_)
    ·
      refine z_if (fun _ => ?_) (fun _ => ?_)
      ·
        refine z_cS (G_X9_shownDigest _ _ hv0) (fun r1 D2 => ?_)
        exact G_X9_reasonOf_108 1000 _ _ _ _ _ hv0
      ·
        rfl
    ·
      refine z_if (fun _ => ?_) (fun _ => ?_)
      ·
        rfl
      ·
        refine z_lt rfl (fun D3 => ?_)
        refine z_rb (X9_r24 hv0) ?_
        refine z_ka (X9_a24 hv0) (fun _ => ?_)
        refine z_cS (G_X9_takeItem _ _ _ _ _ _ hv0) (fun r4 D5 => ?_)
        refine z_if (fun _ => ?_) (fun _ => ?_)
        ·
          exact ih _ _ _ _ _ hv0
        ·
          rfl
set_option maxRecDepth 100000 in
def g_X9_reasonOf (v0 : Nat) (v1 : Int32) (v2 : Int32) (D : DD) : Option (Int32 × DD) :=
  dlt (u2 D v0 36 (0 : Int32)) (fun D6 => dlt (u2 D6 v0 37 (0 : Int32)) (fun D7 => dlt (u2 D7 v0 21 (0 : Int32)) (fun D8 => vcb (g_X9_want v0 (0 : Int32) (99 : Int32) (-9 : Int32) (0 : Int32) D8) (fun D10 => g_X9_reasonOf_27 1000 v0 v1 v2 (0 : Int32) D10))))
set_option maxRecDepth 100000 in
set_option maxHeartbeats 4000000 in
theorem G_X9_reasonOf {n : Nat} {K : Nat → Nat × Nat} {R : Nat → Nat → Option Nat} (v0 : Nat) (v1 : Int32) (v2 : Int32) (D : DD) (hv0 : isX9 n K R v0) : f_X9_reasonOf v0 v1 v2 ((n, K, R, D) : Mm) = (g_X9_reasonOf v0 v1 v2 D).map (lS n K R) := by
  unfold f_X9_reasonOf g_X9_reasonOf
  refine z_ko (X9_o hv0) ?_
  refine z_lt rfl (fun D6 => ?_)
  refine z_lt rfl (fun D7 => ?_)
  refine z_lt rfl (fun D8 => ?_)
  refine z_cV (G_X9_want _ _ _ _ _ _ hv0) (fun _ D10 => ?_)
  exact G_X9_reasonOf_27 1000 _ _ _ _ _ hv0
set_option maxRecDepth 100000 in
def g_X9_read (v0 : Nat) (v1 : Int32) (v2 : Int32) (D : DD) : Option (Int32 × DD) :=
  pcb (g_X9_isRange v1 v2) (fun r1 => if r1 = 0 then (some ((-2 : Int32), D)) else (dcb (g_X9_reasonOf v0 v1 v2 D) (fun r3 D4 => some (r3, D4))))
set_option maxRecDepth 100000 in
set_option maxHeartbeats 4000000 in
theorem G_X9_read {n : Nat} {K : Nat → Nat × Nat} {R : Nat → Nat → Option Nat} (v0 : Nat) (v1 : Int32) (v2 : Int32) (D : DD) (hv0 : isX9 n K R v0) : f_X9_read v0 v1 v2 ((n, K, R, D) : Mm) = (g_X9_read v0 v1 v2 D).map (lS n K R) := by
  unfold f_X9_read g_X9_read
  refine z_cP (G_X9_isRange _ _ _) (fun r1 he2 => ?_)
  refine z_if (fun _ => ?_) (fun _ => ?_)
  ·
    rfl
  ·
    refine z_ko (X9_o hv0) ?_
    refine z_cS (G_X9_reasonOf _ _ _ _ hv0) (fun r3 D4 => ?_)
    rfl
set_option maxRecDepth 100000 in
def g_X9_learnt_171 (k_52 : Nat → Int32 → Int32 → Int32 → Int32 → Int32 → Int32 → Int32 → Int32 → DD → Option (Int32 × DD)) (v0 : Nat) (v1 : Int32) (v2 : Int32) (v3 : Int32) (v4 : Int32) (v5 : Int32) (v6 : Int32) (v8 : Int32) (w0 : Int32) (D : DD) : Option (Int32 × DD) :=
  k_52 v0 v1 v2 v3 v4 v5 v6 w0 (v8 + (1 : Int32)) D
set_option maxRecDepth 100000 in
set_option maxHeartbeats 4000000 in
theorem G_X9_learnt_171 {n : Nat} {K : Nat → Nat × Nat} {R : Nat → Nat → Option Nat} (k_52 : Nat → Int32 → Int32 → Int32 → Int32 → Int32 → Int32 → Int32 → Int32 → DD → Option (Int32 × DD)) (f_52 : Nat → Int32 → Int32 → Int32 → Int32 → Int32 → Int32 → Int32 → Int32 → Mm → Option (Int32 × Mm)) (hk_52 : ∀ (v0 : Nat) (v1 : Int32) (v2 : Int32) (v3 : Int32) (v4 : Int32) (v5 : Int32) (v6 : Int32) (v7 : Int32) (v8 : Int32) (D : DD) (hv0 : isX9 n K R v0), f_52 v0 v1 v2 v3 v4 v5 v6 v7 v8 ((n, K, R, D) : Mm) = (k_52 v0 v1 v2 v3 v4 v5 v6 v7 v8 D).map (lS n K R)) (v0 : Nat) (v1 : Int32) (v2 : Int32) (v3 : Int32) (v4 : Int32) (v5 : Int32) (v6 : Int32) (v8 : Int32) (w0 : Int32) (D : DD) (hv0 : isX9 n K R v0) : f_X9_learnt_171 f_52 v0 v1 v2 v3 v4 v5 v6 v8 w0 ((n, K, R, D) : Mm) = (g_X9_learnt_171 k_52 v0 v1 v2 v3 v4 v5 v6 v8 w0 D).map (lS n K R) := by
  unfold f_X9_learnt_171 g_X9_learnt_171
  exact hk_52 _ _ _ _ _ _ _ _ _ _ hv0
set_option maxRecDepth 100000 in
def g_X9_learnt_164 (k_52 : Nat → Int32 → Int32 → Int32 → Int32 → Int32 → Int32 → Int32 → Int32 → DD → Option (Int32 × DD)) (v0 : Nat) (v1 : Int32) (v2 : Int32) (v3 : Int32) (v4 : Int32) (v5 : Int32) (v6 : Int32) (v8 : Int32) (v9 : Int32) (D : DD) : Option (Int32 × DD) :=
  g_X9_learnt_171 k_52 v0 v1 v2 v3 v4 v5 v6 v8 v9 D
set_option maxRecDepth 100000 in
set_option maxHeartbeats 4000000 in
theorem G_X9_learnt_164 {n : Nat} {K : Nat → Nat × Nat} {R : Nat → Nat → Option Nat} (k_52 : Nat → Int32 → Int32 → Int32 → Int32 → Int32 → Int32 → Int32 → Int32 → DD → Option (Int32 × DD)) (f_52 : Nat → Int32 → Int32 → Int32 → Int32 → Int32 → Int32 → Int32 → Int32 → Mm → Option (Int32 × Mm)) (hk_52 : ∀ (v0 : Nat) (v1 : Int32) (v2 : Int32) (v3 : Int32) (v4 : Int32) (v5 : Int32) (v6 : Int32) (v7 : Int32) (v8 : Int32) (D : DD) (hv0 : isX9 n K R v0), f_52 v0 v1 v2 v3 v4 v5 v6 v7 v8 ((n, K, R, D) : Mm) = (k_52 v0 v1 v2 v3 v4 v5 v6 v7 v8 D).map (lS n K R)) (v0 : Nat) (v1 : Int32) (v2 : Int32) (v3 : Int32) (v4 : Int32) (v5 : Int32) (v6 : Int32) (v8 : Int32) (v9 : Int32) (D : DD) (hv0 : isX9 n K R v0) : f_X9_learnt_164 f_52 v0 v1 v2 v3 v4 v5 v6 v8 v9 ((n, K, R, D) : Mm) = (g_X9_learnt_164 k_52 v0 v1 v2 v3 v4 v5 v6 v8 v9 D).map (lS n K R) := by
  unfold f_X9_learnt_164 g_X9_learnt_164
  exact G_X9_learnt_171 _ _ hk_52 _ _ _ _ _ _ _ _ _ _ hv0
set_option maxRecDepth 100000 in
def g_X9_learnt_169 (k_52 : Nat → Int32 → Int32 → Int32 → Int32 → Int32 → Int32 → Int32 → Int32 → DD → Option (Int32 × DD)) (v0 : Nat) (v1 : Int32) (v2 : Int32) (v3 : Int32) (v4 : Int32) (v5 : Int32) (v6 : Int32) (v7 : Int32) (v8 : Int32) (D : DD) : Option (Int32 × DD) :=
  g_X9_learnt_171 k_52 v0 v1 v2 v3 v4 v5 v6 v8 v7 D
set_option maxRecDepth 100000 in
set_option maxHeartbeats 4000000 in
theorem G_X9_learnt_169 {n : Nat} {K : Nat → Nat × Nat} {R : Nat → Nat → Option Nat} (k_52 : Nat → Int32 → Int32 → Int32 → Int32 → Int32 → Int32 → Int32 → Int32 → DD → Option (Int32 × DD)) (f_52 : Nat → Int32 → Int32 → Int32 → Int32 → Int32 → Int32 → Int32 → Int32 → Mm → Option (Int32 × Mm)) (hk_52 : ∀ (v0 : Nat) (v1 : Int32) (v2 : Int32) (v3 : Int32) (v4 : Int32) (v5 : Int32) (v6 : Int32) (v7 : Int32) (v8 : Int32) (D : DD) (hv0 : isX9 n K R v0), f_52 v0 v1 v2 v3 v4 v5 v6 v7 v8 ((n, K, R, D) : Mm) = (k_52 v0 v1 v2 v3 v4 v5 v6 v7 v8 D).map (lS n K R)) (v0 : Nat) (v1 : Int32) (v2 : Int32) (v3 : Int32) (v4 : Int32) (v5 : Int32) (v6 : Int32) (v7 : Int32) (v8 : Int32) (D : DD) (hv0 : isX9 n K R v0) : f_X9_learnt_169 f_52 v0 v1 v2 v3 v4 v5 v6 v7 v8 ((n, K, R, D) : Mm) = (g_X9_learnt_169 k_52 v0 v1 v2 v3 v4 v5 v6 v7 v8 D).map (lS n K R) := by
  unfold f_X9_learnt_169 g_X9_learnt_169
  exact G_X9_learnt_171 _ _ hk_52 _ _ _ _ _ _ _ _ _ _ hv0
set_option maxRecDepth 100000 in
def g_X9_learnt_142 (k_52 : Nat → Int32 → Int32 → Int32 → Int32 → Int32 → Int32 → Int32 → Int32 → DD → Option (Int32 × DD)) (v0 : Nat) (v1 : Int32) (v2 : Int32) (v3 : Int32) (v4 : Int32) (v5 : Int32) (v7 : Int32) (v8 : Int32) (v9 : Int32) (w0 : Int32) (D : DD) : Option (Int32 × DD) :=
  if v9 ≤ v2 then (g_X9_learnt_169 k_52 v0 v1 v2 v3 v4 v5 w0 v7 v8 D) else (if v7 = (-9 : Int32) then (g_X9_learnt_164 k_52 v0 v1 v2 v3 v4 v5 w0 v8 v9 D) else (if v7 ≤ v9 then (g_X9_learnt_169 k_52 v0 v1 v2 v3 v4 v5 w0 v7 v8 D) else (g_X9_learnt_164 k_52 v0 v1 v2 v3 v4 v5 w0 v8 v9 D)))
set_option maxRecDepth 100000 in
set_option maxHeartbeats 4000000 in
theorem G_X9_learnt_142 {n : Nat} {K : Nat → Nat × Nat} {R : Nat → Nat → Option Nat} (k_52 : Nat → Int32 → Int32 → Int32 → Int32 → Int32 → Int32 → Int32 → Int32 → DD → Option (Int32 × DD)) (f_52 : Nat → Int32 → Int32 → Int32 → Int32 → Int32 → Int32 → Int32 → Int32 → Mm → Option (Int32 × Mm)) (hk_52 : ∀ (v0 : Nat) (v1 : Int32) (v2 : Int32) (v3 : Int32) (v4 : Int32) (v5 : Int32) (v6 : Int32) (v7 : Int32) (v8 : Int32) (D : DD) (hv0 : isX9 n K R v0), f_52 v0 v1 v2 v3 v4 v5 v6 v7 v8 ((n, K, R, D) : Mm) = (k_52 v0 v1 v2 v3 v4 v5 v6 v7 v8 D).map (lS n K R)) (v0 : Nat) (v1 : Int32) (v2 : Int32) (v3 : Int32) (v4 : Int32) (v5 : Int32) (v7 : Int32) (v8 : Int32) (v9 : Int32) (w0 : Int32) (D : DD) (hv0 : isX9 n K R v0) : f_X9_learnt_142 f_52 v0 v1 v2 v3 v4 v5 v7 v8 v9 w0 ((n, K, R, D) : Mm) = (g_X9_learnt_142 k_52 v0 v1 v2 v3 v4 v5 v7 v8 v9 w0 D).map (lS n K R) := by
  unfold f_X9_learnt_142 g_X9_learnt_142
  refine z_if (fun _ => ?_) (fun _ => ?_)
  ·
    exact G_X9_learnt_169 _ _ hk_52 _ _ _ _ _ _ _ _ _ _ hv0
  ·
    refine z_if (fun _ => ?_) (fun _ => ?_)
    ·
      exact G_X9_learnt_164 _ _ hk_52 _ _ _ _ _ _ _ _ _ _ hv0
    ·
      refine z_if (fun _ => ?_) (fun _ => ?_)
      ·
        exact G_X9_learnt_169 _ _ hk_52 _ _ _ _ _ _ _ _ _ _ hv0
      ·
        exact G_X9_learnt_164 _ _ hk_52 _ _ _ _ _ _ _ _ _ _ hv0
set_option maxRecDepth 100000 in
def g_X9_learnt_140 (k_52 : Nat → Int32 → Int32 → Int32 → Int32 → Int32 → Int32 → Int32 → Int32 → DD → Option (Int32 × DD)) (v0 : Nat) (v1 : Int32) (v2 : Int32) (v3 : Int32) (v4 : Int32) (v5 : Int32) (v6 : Int32) (v7 : Int32) (v8 : Int32) (v9 : Int32) (D : DD) : Option (Int32 × DD) :=
  g_X9_learnt_142 k_52 v0 v1 v2 v3 v4 v5 v7 v8 v9 v6 D
set_option maxRecDepth 100000 in
set_option maxHeartbeats 4000000 in
theorem G_X9_learnt_140 {n : Nat} {K : Nat → Nat × Nat} {R : Nat → Nat → Option Nat} (k_52 : Nat → Int32 → Int32 → Int32 → Int32 → Int32 → Int32 → Int32 → Int32 → DD → Option (Int32 × DD)) (f_52 : Nat → Int32 → Int32 → Int32 → Int32 → Int32 → Int32 → Int32 → Int32 → Mm → Option (Int32 × Mm)) (hk_52 : ∀ (v0 : Nat) (v1 : Int32) (v2 : Int32) (v3 : Int32) (v4 : Int32) (v5 : Int32) (v6 : Int32) (v7 : Int32) (v8 : Int32) (D : DD) (hv0 : isX9 n K R v0), f_52 v0 v1 v2 v3 v4 v5 v6 v7 v8 ((n, K, R, D) : Mm) = (k_52 v0 v1 v2 v3 v4 v5 v6 v7 v8 D).map (lS n K R)) (v0 : Nat) (v1 : Int32) (v2 : Int32) (v3 : Int32) (v4 : Int32) (v5 : Int32) (v6 : Int32) (v7 : Int32) (v8 : Int32) (v9 : Int32) (D : DD) (hv0 : isX9 n K R v0) : f_X9_learnt_140 f_52 v0 v1 v2 v3 v4 v5 v6 v7 v8 v9 ((n, K, R, D) : Mm) = (g_X9_learnt_140 k_52 v0 v1 v2 v3 v4 v5 v6 v7 v8 v9 D).map (lS n K R) := by
  unfold f_X9_learnt_140 g_X9_learnt_140
  exact G_X9_learnt_142 _ _ hk_52 _ _ _ _ _ _ _ _ _ _ _ hv0
set_option maxRecDepth 100000 in
def g_X9_learnt_119 (k_52 : Nat → Int32 → Int32 → Int32 → Int32 → Int32 → Int32 → Int32 → Int32 → DD → Option (Int32 × DD)) (v0 : Nat) (v1 : Int32) (v2 : Int32) (v3 : Int32) (v4 : Int32) (v6 : Int32) (v7 : Int32) (v8 : Int32) (v9 : Int32) (w0 : Int32) (w1 : Int32) (D : DD) : Option (Int32 × DD) :=
  if v1 ≤ v9 then (g_X9_learnt_140 k_52 v0 v1 v2 v3 v4 (w0 + w1) v6 v7 v8 v9 D) else (if v9 ≤ v6 then (g_X9_learnt_140 k_52 v0 v1 v2 v3 v4 (w0 + w1) v6 v7 v8 v9 D) else (g_X9_learnt_142 k_52 v0 v1 v2 v3 v4 (w0 + w1) v7 v8 v9 v9 D))
set_option maxRecDepth 100000 in
set_option maxHeartbeats 4000000 in
theorem G_X9_learnt_119 {n : Nat} {K : Nat → Nat × Nat} {R : Nat → Nat → Option Nat} (k_52 : Nat → Int32 → Int32 → Int32 → Int32 → Int32 → Int32 → Int32 → Int32 → DD → Option (Int32 × DD)) (f_52 : Nat → Int32 → Int32 → Int32 → Int32 → Int32 → Int32 → Int32 → Int32 → Mm → Option (Int32 × Mm)) (hk_52 : ∀ (v0 : Nat) (v1 : Int32) (v2 : Int32) (v3 : Int32) (v4 : Int32) (v5 : Int32) (v6 : Int32) (v7 : Int32) (v8 : Int32) (D : DD) (hv0 : isX9 n K R v0), f_52 v0 v1 v2 v3 v4 v5 v6 v7 v8 ((n, K, R, D) : Mm) = (k_52 v0 v1 v2 v3 v4 v5 v6 v7 v8 D).map (lS n K R)) (v0 : Nat) (v1 : Int32) (v2 : Int32) (v3 : Int32) (v4 : Int32) (v6 : Int32) (v7 : Int32) (v8 : Int32) (v9 : Int32) (w0 : Int32) (w1 : Int32) (D : DD) (hv0 : isX9 n K R v0) : f_X9_learnt_119 f_52 v0 v1 v2 v3 v4 v6 v7 v8 v9 w0 w1 ((n, K, R, D) : Mm) = (g_X9_learnt_119 k_52 v0 v1 v2 v3 v4 v6 v7 v8 v9 w0 w1 D).map (lS n K R) := by
  unfold f_X9_learnt_119 g_X9_learnt_119
  refine z_if (fun _ => ?_) (fun _ => ?_)
  ·
    exact G_X9_learnt_140 _ _ hk_52 _ _ _ _ _ _ _ _ _ _ _ hv0
  ·
    refine z_if (fun _ => ?_) (fun _ => ?_)
    ·
      exact G_X9_learnt_140 _ _ hk_52 _ _ _ _ _ _ _ _ _ _ _ hv0
    ·
      exact G_X9_learnt_142 _ _ hk_52 _ _ _ _ _ _ _ _ _ _ _ hv0
set_option maxRecDepth 100000 in
def g_X9_learnt_90 (k_52 : Nat → Int32 → Int32 → Int32 → Int32 → Int32 → Int32 → Int32 → Int32 → DD → Option (Int32 × DD)) (v0 : Nat) (v1 : Int32) (v2 : Int32) (v3 : Int32) (v5 : Int32) (v6 : Int32) (v7 : Int32) (v8 : Int32) (v9 : Int32) (w0 : Int32) (w1 : Int32) (D : DD) : Option (Int32 × DD) :=
  pcb (g_X9_in ((v9).toInt64) ((v1).toInt64) ((v2).toInt64)) (fun r1 => if r1 = 0 then (g_X9_learnt_119 k_52 v0 v1 v2 v3 (w0 + w1) v6 v7 v8 v9 v5 (0 : Int32) D) else (zck (inb v8 100) (g_X9_learnt_119 k_52 v0 v1 v2 v3 (w0 + w1) v6 v7 v8 v9 v5 (D (v0 + 24) (ix v8)) D)))
set_option maxRecDepth 100000 in
set_option maxHeartbeats 4000000 in
theorem G_X9_learnt_90 {n : Nat} {K : Nat → Nat × Nat} {R : Nat → Nat → Option Nat} (k_52 : Nat → Int32 → Int32 → Int32 → Int32 → Int32 → Int32 → Int32 → Int32 → DD → Option (Int32 × DD)) (f_52 : Nat → Int32 → Int32 → Int32 → Int32 → Int32 → Int32 → Int32 → Int32 → Mm → Option (Int32 × Mm)) (hk_52 : ∀ (v0 : Nat) (v1 : Int32) (v2 : Int32) (v3 : Int32) (v4 : Int32) (v5 : Int32) (v6 : Int32) (v7 : Int32) (v8 : Int32) (D : DD) (hv0 : isX9 n K R v0), f_52 v0 v1 v2 v3 v4 v5 v6 v7 v8 ((n, K, R, D) : Mm) = (k_52 v0 v1 v2 v3 v4 v5 v6 v7 v8 D).map (lS n K R)) (v0 : Nat) (v1 : Int32) (v2 : Int32) (v3 : Int32) (v5 : Int32) (v6 : Int32) (v7 : Int32) (v8 : Int32) (v9 : Int32) (w0 : Int32) (w1 : Int32) (D : DD) (hv0 : isX9 n K R v0) : f_X9_learnt_90 f_52 v0 v1 v2 v3 v5 v6 v7 v8 v9 w0 w1 ((n, K, R, D) : Mm) = (g_X9_learnt_90 k_52 v0 v1 v2 v3 v5 v6 v7 v8 v9 w0 w1 D).map (lS n K R) := by
  unfold f_X9_learnt_90 g_X9_learnt_90
  refine z_cP (G_X9_in _ _ _ _) (fun r1 he2 => ?_)
  refine z_if (fun _ => ?_) (fun _ => ?_)
  ·
    exact G_X9_learnt_119 _ _ hk_52 _ _ _ _ _ _ _ _ _ _ _ _ hv0
  ·
    refine z_ko (X9_o hv0) ?_
    refine z_rb (X9_r30 hv0) ?_
    refine z_ka (X9_a30 hv0) (fun _ => ?_)
    exact G_X9_learnt_119 _ _ hk_52 _ _ _ _ _ _ _ _ _ _ _ _ hv0
set_option maxRecDepth 100000 in
def g_X9_learnt_52 : Nat → Nat → Int32 → Int32 → Int32 → Int32 → Int32 → Int32 → Int32 → Int32 → DD → Option (Int32 × DD)
  | 0, _, _, _, _, _, _, _, _, _, _ => none
  | n + 1, v0, v1, v2, v3, v4, v5, v6, v7, v8, D =>
    if (D v0 36) ≤ v8 then (if v3 = (0 : Int32) then (some (v4, D)) else (if v3 = (1 : Int32) then (some (v5, D)) else (if v3 = (2 : Int32) then (some (v6, D)) else (if v3 = (3 : Int32) then (some (v7, D)) else (some ((D v0 36), D)))))) else (zck (inb v8 100) (pcb (g_X9_in (((D (v0 + 23) (ix v8))).toInt64) ((v1).toInt64) ((v2).toInt64)) (fun r3 => if r3 = 0 then (g_X9_learnt_90 (g_X9_learnt_52 n) v0 v1 v2 v3 v5 v6 v7 v8 (D (v0 + 23) (ix v8)) v4 (0 : Int32) D) else (g_X9_learnt_90 (g_X9_learnt_52 n) v0 v1 v2 v3 v5 v6 v7 v8 (D (v0 + 23) (ix v8)) v4 (1 : Int32) D))))
set_option maxRecDepth 100000 in
set_option maxHeartbeats 4000000 in
theorem G_X9_learnt_52 {n : Nat} {K : Nat → Nat × Nat} {R : Nat → Nat → Option Nat} : ∀ (N : Nat) (v0 : Nat) (v1 : Int32) (v2 : Int32) (v3 : Int32) (v4 : Int32) (v5 : Int32) (v6 : Int32) (v7 : Int32) (v8 : Int32) (D : DD) (hv0 : isX9 n K R v0), f_X9_learnt_52 N v0 v1 v2 v3 v4 v5 v6 v7 v8 ((n, K, R, D) : Mm) = (g_X9_learnt_52 N v0 v1 v2 v3 v4 v5 v6 v7 v8 D).map (lS n K R) := by
  intro N
  induction N with
  | zero => intros; rfl
  | succ N ih =>
    intro v0 v1 v2 v3 v4 v5 v6 v7 v8 D hv0
    unfold f_X9_learnt_52 g_X9_learnt_52
    refine z_ko (X9_o hv0) ?_
    refine z_if (fun _ => ?_) (fun _ => ?_)
    ·
      refine z_if (fun _ => ?_) (fun _ => ?_)
      ·
        rfl
      refine z_if (fun _ => ?_) (fun _ => ?_)
      ·
        rfl
      refine z_if (fun _ => ?_) (fun _ => ?_)
      ·
        rfl
      refine z_if (fun _ => ?_) (fun _ => ?_)
      ·
        rfl
      rfl
    ·
      refine z_rb (X9_r29 hv0) ?_
      refine z_ka (X9_a29 hv0) (fun _ => ?_)
      refine z_cP (G_X9_in _ _ _ _) (fun r3 he4 => ?_)
      refine z_if (fun _ => ?_) (fun _ => ?_)
      ·
        exact G_X9_learnt_90 _ _ ih _ _ _ _ _ _ _ _ _ _ _ _ hv0
      ·
        exact G_X9_learnt_90 _ _ ih _ _ _ _ _ _ _ _ _ _ _ _ hv0
set_option maxRecDepth 100000 in
def g_X9_learnt (v0 : Nat) (v1 : Int32) (v2 : Int32) (v3 : Int32) (D : DD) : Option (Int32 × DD) :=
  pcb (g_X9_isRange v1 v2) (fun r5 => if r5 = 0 then (some ((-2 : Int32), D)) else (pcb (g_X9_in ((v3).toInt64) (0 : Int64) (4 : Int64)) (fun r7 => if r7 = 0 then (some ((-2 : Int32), D)) else (dcb (g_X9_reasonOf v0 v1 v2 D) (fun r9 D10 => if r9 = 0 then (g_X9_learnt_52 1000 v0 v1 v2 v3 (0 : Int32) (0 : Int32) (-9 : Int32) (-9 : Int32) (0 : Int32) D10) else (some ((-3 : Int32), D10)))))))
set_option maxRecDepth 100000 in
set_option maxHeartbeats 4000000 in
theorem G_X9_learnt {n : Nat} {K : Nat → Nat × Nat} {R : Nat → Nat → Option Nat} (v0 : Nat) (v1 : Int32) (v2 : Int32) (v3 : Int32) (D : DD) (hv0 : isX9 n K R v0) : f_X9_learnt v0 v1 v2 v3 ((n, K, R, D) : Mm) = (g_X9_learnt v0 v1 v2 v3 D).map (lS n K R) := by
  unfold f_X9_learnt g_X9_learnt
  refine z_cP (G_X9_isRange _ _ _) (fun r5 he6 => ?_)
  refine z_if (fun _ => ?_) (fun _ => ?_)
  ·
    rfl
  ·
    refine z_cP (G_X9_in _ _ _ _) (fun r7 he8 => ?_)
    refine z_if (fun _ => ?_) (fun _ => ?_)
    ·
      rfl
    ·
      refine z_ko (X9_o hv0) ?_
      refine z_cS (G_X9_reasonOf _ _ _ _ hv0) (fun r9 D10 => ?_)
      refine z_if (fun _ => ?_) (fun _ => ?_)
      ·
        exact G_X9_learnt_52 1000 _ _ _ _ _ _ _ _ _ _ hv0
      ·
        rfl
