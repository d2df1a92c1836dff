set_option maxRecDepth 100000 in
def g_X9_keep_21 : Nat → Nat → Int32 → Int32 → DD → Option (Int32 × DD)
  | 0, _, _, _, _ => none
  | n + 1, v0, v1, v2, D =>
    if (100 : Int32) ≤ v2 then (pcb (g_X9_manyOf (v0 + 1) D) (fun r1 => some (r1, D))) else (zck (inb v2 100) (zck (inb (((100 : Int32) * v1) + v2) 200) (dlt (u2 D (v0 + 4) (ix (((100 : Int32) * v1) + v2)) (D (v0 + 1) (ix v2))) (fun D3 => g_X9_keep_21 n v0 v1 (v2 + (1 : Int32)) D3))))
set_option maxRecDepth 100000 in
set_option maxHeartbeats 4000000 in
theorem G_X9_keep_21 {n : Nat} {K : Nat → Nat × Nat} {R : Nat → Nat → Option Nat} : ∀ (N : Nat) (v0 : Nat) (v1 : Int32) (v2 : Int32) (D : DD) (hv0 : isX9 n K R v0), f_X9_keep_21 N v0 v1 v2 ((n, K, R, D) : Mm) = (g_X9_keep_21 N v0 v1 v2 D).map (lS n K R) := by
  intro N
  induction N with
  | zero => intros; rfl
  | succ N ih =>
    intro v0 v1 v2 D hv0
    unfold f_X9_keep_21 g_X9_keep_21
    refine z_if (fun _ => ?_) (fun _ => ?_)
    ·
      refine z_ko (X9_o hv0) ?_
      refine z_rb (X9_r0 hv0) ?_
      refine z_cP (G_X9_manyOf _ _ (X9_a0 hv0)) (fun r1 he2 => ?_)
      rfl
    ·
      refine z_ko (X9_o hv0) ?_
      refine z_rb (X9_r5 hv0) ?_
      refine z_rb (X9_r0 hv0) ?_
      refine z_ka (X9_a0 hv0) (fun _ => ?_)
      refine z_ka (X9_a5 hv0) (fun _ => ?_)
      refine z_lt rfl (fun D3 => ?_)
      exact ih _ _ _ _ hv0
set_option maxRecDepth 100000 in
def g_X9_keep (v0 : Nat) (v1 : Int32) (D : DD) : Option (Int32 × DD) :=
  pcb (g_X9_in ((v1).toInt64) (0 : Int64) (1 : Int64)) (fun r4 => if r4 = 0 then (some ((-1 : Int32), D)) else (zck (inb v1 2) (dlt (u2 D (v0 + 5) (ix v1) (1 : Int32)) (fun D6 => g_X9_keep_21 1000 v0 v1 (0 : Int32) D6))))
set_option maxRecDepth 100000 in
set_option maxHeartbeats 4000000 in
theorem G_X9_keep {n : Nat} {K : Nat → Nat × Nat} {R : Nat → Nat → Option Nat} (v0 : Nat) (v1 : Int32) (D : DD) (hv0 : isX9 n K R v0) : f_X9_keep v0 v1 ((n, K, R, D) : Mm) = (g_X9_keep v0 v1 D).map (lS n K R) := by
  unfold f_X9_keep g_X9_keep
  refine z_cP (G_X9_in _ _ _ _) (fun r4 he5 => ?_)
  refine z_if (fun _ => ?_) (fun _ => ?_)
  ·
    rfl
  ·
    refine z_ko (X9_o hv0) ?_
    refine z_rb (X9_r6 hv0) ?_
    refine z_ka (X9_a6 hv0) (fun _ => ?_)
    refine z_lt rfl (fun D6 => ?_)
    exact G_X9_keep_21 1000 _ _ _ _ hv0
set_option maxRecDepth 100000 in
def g_X9_again_26 : Nat → Nat → Int32 → Int32 → DD → Option (Int32 × DD)
  | 0, _, _, _, _ => none
  | n + 1, v0, v1, v2, D =>
    if (100 : Int32) ≤ v2 then (dlt (u2 D v0 3 (0 : Int32)) (fun D1 => pcb (g_X9_manyOf (v0 + 1) D1) (fun r2 => some (r2, D1)))) else (zck (inb (((100 : Int32) * v1) + v2) 200) (zck (inb v2 100) (dlt (u2 D (v0 + 1) (ix v2) (D (v0 + 4) (ix (((100 : Int32) * v1) + v2)))) (fun D4 => g_X9_again_26 n v0 v1 (v2 + (1 : Int32)) D4))))
set_option maxRecDepth 100000 in
set_option maxHeartbeats 4000000 in
theorem G_X9_again_26 {n : Nat} {K : Nat → Nat × Nat} {R : Nat → Nat → Option Nat} : ∀ (N : Nat) (v0 : Nat) (v1 : Int32) (v2 : Int32) (D : DD) (hv0 : isX9 n K R v0), f_X9_again_26 N v0 v1 v2 ((n, K, R, D) : Mm) = (g_X9_again_26 N v0 v1 v2 D).map (lS n K R) := by
  intro N
  induction N with
  | zero => intros; rfl
  | succ N ih =>
    intro v0 v1 v2 D hv0
    unfold f_X9_again_26 g_X9_again_26
    refine z_if (fun _ => ?_) (fun _ => ?_)
    ·
      refine z_ko (X9_o hv0) ?_
      refine z_lt rfl (fun D1 => ?_)
      refine z_rb (X9_r0 hv0) ?_
      refine z_cP (G_X9_manyOf _ _ (X9_a0 hv0)) (fun r2 he3 => ?_)
      rfl
    ·
      refine z_ko (X9_o hv0) ?_
      refine z_rb (X9_r0 hv0) ?_
      refine z_rb (X9_r5 hv0) ?_
      refine z_ka (X9_a5 hv0) (fun _ => ?_)
      refine z_ka (X9_a0 hv0) (fun _ => ?_)
      refine z_lt rfl (fun D4 => ?_)
      exact ih _ _ _ _ hv0
set_option maxRecDepth 100000 in
def g_X9_again (v0 : Nat) (v1 : Int32) (D : DD) : Option (Int32 × DD) :=
  pcb (g_X9_in ((v1).toInt64) (0 : Int64) (1 : Int64)) (fun r5 => if r5 = 0 then (some ((-1 : Int32), D)) else (zck (inb v1 2) (if (D (v0 + 5) (ix v1)) = 0 then (some ((-3 : Int32), D)) else (g_X9_again_26 1000 v0 v1 (0 : Int32) D))))
set_option maxRecDepth 100000 in
set_option maxHeartbeats 4000000 in
theorem G_X9_again {n : Nat} {K : Nat → Nat × Nat} {R : Nat → Nat → Option Nat} (v0 : Nat) (v1 : Int32) (D : DD) (hv0 : isX9 n K R v0) : f_X9_again v0 v1 ((n, K, R, D) : Mm) = (g_X9_again v0 v1 D).map (lS n K R) := by
  unfold f_X9_again g_X9_again
  refine z_cP (G_X9_in _ _ _ _) (fun r5 he6 => ?_)
  refine z_if (fun _ => ?_) (fun _ => ?_)
  ·
    rfl
  ·
    refine z_ko (X9_o hv0) ?_
    refine z_rb (X9_r6 hv0) ?_
    refine z_ka (X9_a6 hv0) (fun _ => ?_)
    refine z_if (fun _ => ?_) (fun _ => ?_)
    ·
      rfl
    ·
      exact G_X9_again_26 1000 _ _ _ _ hv0
set_option maxRecDepth 100000 in
def g_X9_isSame (v0 : Nat) (v1 : Int32) (D : DD) : Option Int32 :=
  zck (inb v1 100) (if (D (v0 + 1) (ix v1)) = (-9 : Int32) then (some (0 : Int32)) else (zck (inb v1 100) (if (D (v0 + 2) (ix v1)) = (-9 : Int32) then (some (0 : Int32)) else (zck (inb v1 200) (zck (inb ((100 : Int32) + v1) 200) (if (D (v0 + 13) (ix v1)) = (D (v0 + 13) (ix ((100 : Int32) + v1))) then (some (1 : Int32)) else (some (0 : Int32))))))))
set_option maxRecDepth 100000 in
set_option maxHeartbeats 4000000 in
theorem G_X9_isSame {n : Nat} {K : Nat → Nat × Nat} {R : Nat → Nat → Option Nat} (v0 : Nat) (v1 : Int32) (D : DD) (hv0 : isX9 n K R v0) : f_X9_isSame v0 v1 ((n, K, R, D) : Mm) = (g_X9_isSame v0 v1 D).map (lP n K R D) := by
  unfold f_X9_isSame g_X9_isSame
  refine z_ko (X9_o hv0) ?_
  refine z_rb (X9_r0 hv0) ?_
  refine z_ka (X9_a0 hv0) (fun _ => ?_)
  refine z_if (fun _ => ?_) (fun _ => ?_)
  ·
    rfl
  ·
    refine z_rb (X9_r1 hv0) ?_
    refine z_ka (X9_a1 hv0) (fun _ => ?_)
    refine z_if (fun _ => ?_) (fun _ => ?_)
    ·
      rfl
    ·
      refine z_rb (X9_r14 hv0) ?_
      refine z_ka (X9_a14 hv0) (fun _ => ?_)
      refine z_ka (X9_a14 hv0) (fun _ => ?_)
      refine z_if (fun _ => ?_) (fun _ => ?_)
      ·
        rfl
      ·
        rfl
set_option maxRecDepth 100000 in
def g_X9_isPassed_52 (k_29 : Nat → Int32 → Int32 → DD → Option Int32) (v0 : Nat) (v3 : Int32) (w0 : Int32) (D : DD) : Option Int32 :=
  zck (inb v3 200) (k_29 v0 w0 (D (v0 + 6) (ix v3)) D)
set_option maxRecDepth 100000 in
set_option maxHeartbeats 4000000 in
theorem G_X9_isPassed_52 {n : Nat} {K : Nat → Nat × Nat} {R : Nat → Nat → Option Nat} (k_29 : Nat → Int32 → Int32 → DD → Option Int32) (f_29 : Nat → Int32 → Int32 → Mm → Option (Int32 × Mm)) (hk_29 : ∀ (v0 : Nat) (v2 : Int32) (v3 : Int32) (D : DD) (hv0 : isX9 n K R v0), f_29 v0 v2 v3 ((n, K, R, D) : Mm) = (k_29 v0 v2 v3 D).map (lP n K R D)) (v0 : Nat) (v3 : Int32) (w0 : Int32) (D : DD) (hv0 : isX9 n K R v0) : f_X9_isPassed_52 f_29 v0 v3 w0 ((n, K, R, D) : Mm) = (g_X9_isPassed_52 k_29 v0 v3 w0 D).map (lP n K R D) := by
  unfold f_X9_isPassed_52 g_X9_isPassed_52
  refine z_ko (X9_o hv0) ?_
  refine z_rb (X9_r7 hv0) ?_
  refine z_ka (X9_a7 hv0) (fun _ => ?_)
  exact hk_29 _ _ _ _ hv0
set_option maxRecDepth 100000 in
def g_X9_isPassed_51 (k_29 : Nat → Int32 → Int32 → DD → Option Int32) (v0 : Nat) (v3 : Int32) (D : DD) : Option Int32 :=
  g_X9_isPassed_52 k_29 v0 v3 (0 : Int32) D
set_option maxRecDepth 100000 in
set_option maxHeartbeats 4000000 in
theorem G_X9_isPassed_51 {n : Nat} {K : Nat → Nat × Nat} {R : Nat → Nat → Option Nat} (k_29 : Nat → Int32 → Int32 → DD → Option Int32) (f_29 : Nat → Int32 → Int32 → Mm → Option (Int32 × Mm)) (hk_29 : ∀ (v0 : Nat) (v2 : Int32) (v3 : Int32) (D : DD) (hv0 : isX9 n K R v0), f_29 v0 v2 v3 ((n, K, R, D) : Mm) = (k_29 v0 v2 v3 D).map (lP n K R D)) (v0 : Nat) (v3 : Int32) (D : DD) (hv0 : isX9 n K R v0) : f_X9_isPassed_51 f_29 v0 v3 ((n, K, R, D) : Mm) = (g_X9_isPassed_51 k_29 v0 v3 D).map (lP n K R D) := by
  unfold f_X9_isPassed_51 g_X9_isPassed_51
  exact G_X9_isPassed_52 _ _ hk_29 _ _ _ _ hv0
set_option maxRecDepth 100000 in
def g_X9_isPassed_29 : Nat → Nat → Int32 → Int32 → DD → Option Int32
  | 0, _, _, _, _ => none
  | n + 1, v0, v2, v3, D =>
    if v3 = (-9 : Int32) then (zck (zb v2) (some v2)) else (if v2 = 0 then (g_X9_isPassed_51 (g_X9_isPassed_29 n) v0 v3 D) else (pcb (g_X9_isSame v0 v3 D) (fun r1 => if r1 = 0 then (g_X9_isPassed_52 (g_X9_isPassed_29 n) v0 v3 (1 : Int32) D) else (g_X9_isPassed_51 (g_X9_isPassed_29 n) v0 v3 D))))
set_option maxRecDepth 100000 in
set_option maxHeartbeats 4000000 in
theorem G_X9_isPassed_29 {n : Nat} {K : Nat → Nat × Nat} {R : Nat → Nat → Option Nat} : ∀ (N : Nat) (v0 : Nat) (v2 : Int32) (v3 : Int32) (D : DD) (hv0 : isX9 n K R v0), f_X9_isPassed_29 N v0 v2 v3 ((n, K, R, D) : Mm) = (g_X9_isPassed_29 N v0 v2 v3 D).map (lP n K R D) := by
  intro N
  induction N with
  | zero => intros; rfl
  | succ N ih =>
    intro v0 v2 v3 D hv0
    unfold f_X9_isPassed_29 g_X9_isPassed_29
    refine z_if (fun _ => ?_) (fun _ => ?_)
    ·
      refine z_ck (fun _ => ?_)
      rfl
    ·
      refine z_if (fun _ => ?_) (fun _ => ?_)
      ·
        exact G_X9_isPassed_51 _ _ ih _ _ _ hv0
      ·
        refine z_ko (X9_o hv0) ?_
        refine z_cP (G_X9_isSame _ _ _ hv0) (fun r1 he2 => ?_)
        refine z_if (fun _ => ?_) (fun _ => ?_)
        ·
          exact G_X9_isPassed_52 _ _ ih _ _ _ _ hv0
        ·
          exact G_X9_isPassed_51 _ _ ih _ _ _ hv0
set_option maxRecDepth 100000 in
def g_X9_isPassed_28 (v0 : Nat) (v2 : Int32) (w0 : Int32) (D : DD) : Option Int32 :=
  g_X9_isPassed_29 1000 v0 v2 w0 D
set_option maxRecDepth 100000 in
set_option maxHeartbeats 4000000 in
theorem G_X9_isPassed_28 {n : Nat} {K : Nat → Nat × Nat} {R : Nat → Nat → Option Nat} (v0 : Nat) (v2 : Int32) (w0 : Int32) (D : DD) (hv0 : isX9 n K R v0) : f_X9_isPassed_28 v0 v2 w0 ((n, K, R, D) : Mm) = (g_X9_isPassed_28 v0 v2 w0 D).map (lP n K R D) := by
  unfold f_X9_isPassed_28 g_X9_isPassed_28
  exact G_X9_isPassed_29 1000 _ _ _ _ hv0
set_option maxRecDepth 100000 in
def g_X9_isPassed (v0 : Nat) (v1 : Int32) (D : DD) : Option Int32 :=
  pcb (g_X9_isSame v0 v1 D) (fun r3 => zck (inb v1 100) (if (D (v0 + 1) (ix v1)) = (-9 : Int32) then (g_X9_isPassed_28 v0 r3 (-9 : Int32) D) else (zck (inb v1 200) (g_X9_isPassed_28 v0 r3 (D (v0 + 6) (ix v1)) D))))
set_option maxRecDepth 100000 in
set_option maxHeartbeats 4000000 in
theorem G_X9_isPassed {n : Nat} {K : Nat → Nat × Nat} {R : Nat → Nat → Option Nat} (v0 : Nat) (v1 : Int32) (D : DD) (hv0 : isX9 n K R v0) : f_X9_isPassed v0 v1 ((n, K, R, D) : Mm) = (g_X9_isPassed v0 v1 D).map (lP n K R D) := by
  unfold f_X9_isPassed g_X9_isPassed
  refine z_ko (X9_o hv0) ?_
  refine z_cP (G_X9_isSame _ _ _ hv0) (fun r3 he4 => ?_)
  refine z_ko (X9_o hv0) ?_
  refine z_rb (X9_r0 hv0) ?_
  refine z_ka (X9_a0 hv0) (fun _ => ?_)
  refine z_if (fun _ => ?_) (fun _ => ?_)
  ·
    exact G_X9_isPassed_28 _ _ _ _ hv0
  ·
    refine z_rb (X9_r7 hv0) ?_
    refine z_ka (X9_a7 hv0) (fun _ => ?_)
    exact G_X9_isPassed_28 _ _ _ _ hv0
set_option maxRecDepth 100000 in
def g_X9_differ_201 (k_104 : Nat → Int32 → Int32 → Int32 → Int32 → Int32 → Int32 → DD → Option (Int32 × DD)) (v0 : Nat) (v2 : Int32) (v3 : Int32) (v4 : Int32) (v5 : Int32) (v7 : Int32) (w0 : Int32) (w1 : Int32) (D : DD) : Option (Int32 × DD) :=
  k_104 v0 v2 v3 v4 v5 (w0 + w1) (v7 + (-1 : Int32)) D
set_option maxRecDepth 100000 in
set_option maxHeartbeats 4000000 in
theorem G_X9_differ_201 {n : Nat} {K : Nat → Nat × Nat} {R : Nat → Nat → Option Nat} (k_104 : Nat → Int32 → Int32 → Int32 → Int32 → Int32 → Int32 → DD → Option (Int32 × DD)) (f_104 : Nat → Int32 → Int32 → Int32 → Int32 → Int32 → Int32 → Mm → Option (Int32 × Mm)) (hk_104 : ∀ (v0 : Nat) (v2 : Int32) (v3 : Int32) (v4 : Int32) (v5 : Int32) (v6 : Int32) (v7 : Int32) (D : DD) (hv0 : isX9 n K R v0), f_104 v0 v2 v3 v4 v5 v6 v7 ((n, K, R, D) : Mm) = (k_104 v0 v2 v3 v4 v5 v6 v7 D).map (lS n K R)) (v0 : Nat) (v2 : Int32) (v3 : Int32) (v4 : Int32) (v5 : Int32) (v7 : Int32) (w0 : Int32) (w1 : Int32) (D : DD) (hv0 : isX9 n K R v0) : f_X9_differ_201 f_104 v0 v2 v3 v4 v5 v7 w0 w1 ((n, K, R, D) : Mm) = (g_X9_differ_201 k_104 v0 v2 v3 v4 v5 v7 w0 w1 D).map (lS n K R) := by
  unfold f_X9_differ_201 g_X9_differ_201
  exact hk_104 _ _ _ _ _ _ _ _ hv0
set_option maxRecDepth 100000 in
def g_X9_differ_176 (k_104 : Nat → Int32 → Int32 → Int32 → Int32 → Int32 → Int32 → DD → Option (Int32 × DD)) (v0 : Nat) (v2 : Int32) (v3 : Int32) (v4 : Int32) (v6 : Int32) (v7 : Int32) (w0 : Int32) (w1 : Int32) (D : DD) : Option (Int32 × DD) :=
  pcb (g_X9_isPassed v0 v7 D) (fun r1 => if r1 = 0 then (g_X9_differ_201 k_104 v0 v2 v3 v4 (w0 + w1) v7 v6 (0 : Int32) D) else (zck (inb v7 200) (g_X9_differ_201 k_104 v0 v2 v3 v4 (w0 + w1) v7 v6 (D (v0 + 12) (ix v7)) D)))
set_option maxRecDepth 100000 in
set_option maxHeartbeats 4000000 in
theorem G_X9_differ_176 {n : Nat} {K : Nat → Nat × Nat} {R : Nat → Nat → Option Nat} (k_104 : Nat → Int32 → Int32 → Int32 → Int32 → Int32 → Int32 → DD → Option (Int32 × DD)) (f_104 : Nat → Int32 → Int32 → Int32 → Int32 → Int32 → Int32 → Mm → Option (Int32 × Mm)) (hk_104 : ∀ (v0 : Nat) (v2 : Int32) (v3 : Int32) (v4 : Int32) (v5 : Int32) (v6 : Int32) (v7 : Int32) (D : DD) (hv0 : isX9 n K R v0), f_104 v0 v2 v3 v4 v5 v6 v7 ((n, K, R, D) : Mm) = (k_104 v0 v2 v3 v4 v5 v6 v7 D).map (lS n K R)) (v0 : Nat) (v2 : Int32) (v3 : Int32) (v4 : Int32) (v6 : Int32) (v7 : Int32) (w0 : Int32) (w1 : Int32) (D : DD) (hv0 : isX9 n K R v0) : f_X9_differ_176 f_104 v0 v2 v3 v4 v6 v7 w0 w1 ((n, K, R, D) : Mm) = (g_X9_differ_176 k_104 v0 v2 v3 v4 v6 v7 w0 w1 D).map (lS n K R) := by
  unfold f_X9_differ_176 g_X9_differ_176
  refine z_ko (X9_o hv0) ?_
  refine z_cP (G_X9_isPassed _ _ _ hv0) (fun r1 he2 => ?_)
  refine z_if (fun _ => ?_) (fun _ => ?_)
  ·
    exact G_X9_differ_201 _ _ hk_104 _ _ _ _ _ _ _ _ _ hv0
  ·
    refine z_ko (X9_o hv0) ?_
    refine z_rb (X9_r13 hv0) ?_
    refine z_ka (X9_a13 hv0) (fun _ => ?_)
    exact G_X9_differ_201 _ _ hk_104 _ _ _ _ _ _ _ _ _ hv0
set_option maxRecDepth 100000 in
def g_X9_differ_158 (k_104 : Nat → Int32 → Int32 → Int32 → Int32 → Int32 → Int32 → DD → Option (Int32 × DD)) (v0 : Nat) (v2 : Int32) (v3 : Int32) (v5 : Int32) (v6 : Int32) (v7 : Int32) (w0 : Int32) (D : DD) : Option (Int32 × DD) :=
  pcb (g_X9_isPassed v0 v7 D) (fun r3 => if r3 = 0 then (g_X9_differ_176 k_104 v0 v2 v3 w0 v6 v7 v5 (0 : Int32) D) else (g_X9_differ_176 k_104 v0 v2 v3 w0 v6 v7 v5 (1 : Int32) D))
set_option maxRecDepth 100000 in
set_option maxHeartbeats 4000000 in
theorem G_X9_differ_158 {n : Nat} {K : Nat → Nat × Nat} {R : Nat → Nat → Option Nat} (k_104 : Nat → Int32 → Int32 → Int32 → Int32 → Int32 → Int32 → DD → Option (Int32 × DD)) (f_104 : Nat → Int32 → Int32 → Int32 → Int32 → Int32 → Int32 → Mm → Option (Int32 × Mm)) (hk_104 : ∀ (v0 : Nat) (v2 : Int32) (v3 : Int32) (v4 : Int32) (v5 : Int32) (v6 : Int32) (v7 : Int32) (D : DD) (hv0 : isX9 n K R v0), f_104 v0 v2 v3 v4 v5 v6 v7 ((n, K, R, D) : Mm) = (k_104 v0 v2 v3 v4 v5 v6 v7 D).map (lS n K R)) (v0 : Nat) (v2 : Int32) (v3 : Int32) (v5 : Int32) (v6 : Int32) (v7 : Int32) (w0 : Int32) (D : DD) (hv0 : isX9 n K R v0) : f_X9_differ_158 f_104 v0 v2 v3 v5 v6 v7 w0 ((n, K, R, D) : Mm) = (g_X9_differ_158 k_104 v0 v2 v3 v5 v6 v7 w0 D).map (lS n K R) := by
  unfold f_X9_differ_158 g_X9_differ_158
  refine z_ko (X9_o hv0) ?_
  refine z_cP (G_X9_isPassed _ _ _ hv0) (fun r3 he4 => ?_)
  refine z_if (fun _ => ?_) (fun _ => ?_)
  ·
    exact G_X9_differ_176 _ _ hk_104 _ _ _ _ _ _ _ _ _ hv0
  ·
    exact G_X9_differ_176 _ _ hk_104 _ _ _ _ _ _ _ _ _ hv0
set_option maxRecDepth 100000 in
def g_X9_differ_132 (k_104 : Nat → Int32 → Int32 → Int32 → Int32 → Int32 → Int32 → DD → Option (Int32 × DD)) (v0 : Nat) (v2 : Int32) (v4 : Int32) (v5 : Int32) (v6 : Int32) (v7 : Int32) (w0 : Int32) (w1 : Int32) (D : DD) : Option (Int32 × DD) :=
  zck (inb v7 100) (zck (inb v7 100) (if (D (v0 + 1) (ix v7)) = (D (v0 + 2) (ix v7)) then (g_X9_differ_158 k_104 v0 v2 (w0 + w1) v5 v6 v7 v4 D) else (g_X9_differ_158 k_104 v0 v2 (w0 + w1) v5 v6 v7 v7 D)))
set_option maxRecDepth 100000 in
set_option maxHeartbeats 4000000 in
theorem G_X9_differ_132 {n : Nat} {K : Nat → Nat × Nat} {R : Nat → Nat → Option Nat} (k_104 : Nat → Int32 → Int32 → Int32 → Int32 → Int32 → Int32 → DD → Option (Int32 × DD)) (f_104 : Nat → Int32 → Int32 → Int32 → Int32 → Int32 → Int32 → Mm → Option (Int32 × Mm)) (hk_104 : ∀ (v0 : Nat) (v2 : Int32) (v3 : Int32) (v4 : Int32) (v5 : Int32) (v6 : Int32) (v7 : Int32) (D : DD) (hv0 : isX9 n K R v0), f_104 v0 v2 v3 v4 v5 v6 v7 ((n, K, R, D) : Mm) = (k_104 v0 v2 v3 v4 v5 v6 v7 D).map (lS n K R)) (v0 : Nat) (v2 : Int32) (v4 : Int32) (v5 : Int32) (v6 : Int32) (v7 : Int32) (w0 : Int32) (w1 : Int32) (D : DD) (hv0 : isX9 n K R v0) : f_X9_differ_132 f_104 v0 v2 v4 v5 v6 v7 w0 w1 ((n, K, R, D) : Mm) = (g_X9_differ_132 k_104 v0 v2 v4 v5 v6 v7 w0 w1 D).map (lS n K R) := by
  unfold f_X9_differ_132 g_X9_differ_132
  refine z_ko (X9_o hv0) ?_
  refine z_rb (X9_r0 hv0) ?_
  refine z_ka (X9_a0 hv0) (fun _ => ?_)
  refine z_rb (X9_r1 hv0) ?_
  refine z_ka (X9_a1 hv0) (fun _ => ?_)
  refine z_if (fun _ => ?_) (fun _ => ?_)
  ·
    exact G_X9_differ_158 _ _ hk_104 _ _ _ _ _ _ _ _ hv0
  ·
    exact G_X9_differ_158 _ _ hk_104 _ _ _ _ _ _ _ _ hv0
set_option maxRecDepth 100000 in
def g_X9_differ_104 : Nat → Nat → Int32 → Int32 → Int32 → Int32 → Int32 → Int32 → DD → Option (Int32 × DD)
  | 0, _, _, _, _, _, _, _, _ => none
  | n + 1, v0, v2, v3, v4, v5, v6, v7, D =>
    if v7 < 0 then (if v2 = 0 then (some (v3, D)) else (if v2 = (1 : Int32) then (some (v4, D)) else (if v2 = (2 : Int32) then (some (v5, D)) else (some (v6, D))))) else (zck (inb v7 100) (zck (inb v7 100) (if (D (v0 + 1) (ix v7)) = (D (v0 + 2) (ix v7)) then (g_X9_differ_132 (g_X9_differ_104 n) v0 v2 v4 v5 v6 v7 v3 (0 : Int32) D) else (g_X9_differ_132 (g_X9_differ_104 n) v0 v2 v4 v5 v6 v7 v3 (1 : Int32) D))))
set_option maxRecDepth 100000 in
set_option maxHeartbeats 4000000 in
theorem G_X9_differ_104 {n : Nat} {K : Nat → Nat × Nat} {R : Nat → Nat → Option Nat} : ∀ (N : Nat) (v0 : Nat) (v2 : Int32) (v3 : Int32) (v4 : Int32) (v5 : Int32) (v6 : Int32) (v7 : Int32) (D : DD) (hv0 : isX9 n K R v0), f_X9_differ_104 N v0 v2 v3 v4 v5 v6 v7 ((n, K, R, D) : Mm) = (g_X9_differ_104 N v0 v2 v3 v4 v5 v6 v7 D).map (lS n K R) := by
  intro N
  induction N with
  | zero => intros; rfl
  | succ N ih =>
    intro v0 v2 v3 v4 v5 v6 v7 D hv0
    unfold f_X9_differ_104 g_X9_differ_104
    refine z_if (fun _ => ?_) (fun _ => ?_)
    ·
      refine z_if (fun _ => ?_) (fun _ => ?_)
      ·
        rfl
      ·
        refine z_if (fun _ => ?_) (fun _ => ?_)
        ·
          rfl
        ·
          refine z_if (fun _ => ?_) (fun _ => ?_)
          ·
            rfl
          ·
            rfl
    ·
      refine z_ko (X9_o hv0) ?_
      refine z_rb (X9_r0 hv0) ?_
      refine z_ka (X9_a0 hv0) (fun _ => ?_)
      refine z_rb (X9_r1 hv0) ?_
      refine z_ka (X9_a1 hv0) (fun _ => ?_)
      refine z_if (fun _ => ?_) (fun _ => ?_)
      ·
        exact G_X9_differ_132 _ _ ih _ _ _ _ _ _ _ _ _ hv0
      ·
        exact G_X9_differ_132 _ _ ih _ _ _ _ _ _ _ _ _ hv0
set_option maxRecDepth 100000 in
def g_X9_differ_41 : Nat → Nat → Int32 → Int32 → Int32 → DD → Option (Int32 × DD)
  | 0, _, _, _, _, _ => none
  | n + 1, v0, v1, v2, v3, D =>
    if (100 : Int32) ≤ v3 then (vcb (g_X9_make v0 (v0 + 1) (0 : Int32) D) (fun D6 => vcb (g_X9_make v0 (v0 + 2) (1 : Int32) D6) (fun D8 => g_X9_differ_104 1000 v0 v2 (0 : Int32) (-9 : Int32) (0 : Int32) (0 : Int32) (99 : Int32) D8))) else (zck (inb (((100 : Int32) * v1) + v3) 200) (zck (inb v3 100) (dlt (u2 D (v0 + 2) (ix v3) (D (v0 + 4) (ix (((100 : Int32) * v1) + v3)))) (fun D9 => g_X9_differ_41 n v0 v1 v2 (v3 + (1 : Int32)) D9))))
set_option maxRecDepth 100000 in
set_option maxHeartbeats 4000000 in
theorem G_X9_differ_41 {n : Nat} {K : Nat → Nat × Nat} {R : Nat → Nat → Option Nat} : ∀ (N : Nat) (v0 : Nat) (v1 : Int32) (v2 : Int32) (v3 : Int32) (D : DD) (hv0 : isX9 n K R v0), f_X9_differ_41 N v0 v1 v2 v3 ((n, K, R, D) : Mm) = (g_X9_differ_41 N v0 v1 v2 v3 D).map (lS n K R) := by
  intro N
  induction N with
  | zero => intros; rfl
  | succ N ih =>
    intro v0 v1 v2 v3 D hv0
    unfold f_X9_differ_41 g_X9_differ_41
    refine z_if (fun _ => ?_) (fun _ => ?_)
    ·
      refine z_ko (X9_o hv0) ?_
      refine z_rb (X9_r0 hv0) ?_
      refine z_cV (G_X9_make _ _ _ _ hv0 (X9_a0 hv0)) (fun _ D6 => ?_)
      refine z_ko (X9_o hv0) ?_
      refine z_rb (X9_r1 hv0) ?_
      refine z_cV (G_X9_make _ _ _ _ hv0 (X9_a1 hv0)) (fun _ D8 => ?_)
      exact G_X9_differ_104 1000 _ _ _ _ _ _ _ _ hv0
    ·
      refine z_ko (X9_o hv0) ?_
      refine z_rb (X9_r1 hv0) ?_
      refine z_rb (X9_r5 hv0) ?_
      refine z_ka (X9_a5 hv0) (fun _ => ?_)
      refine z_ka (X9_a1 hv0) (fun _ => ?_)
      refine z_lt rfl (fun D9 => ?_)
      exact ih _ _ _ _ _ hv0
set_option maxRecDepth 100000 in
def g_X9_differ (v0 : Nat) (v1 : Int32) (v2 : Int32) (D : DD) : Option (Int32 × DD) :=
  pcb (g_X9_in ((v1).toInt64) (0 : Int64) (1 : Int64)) (fun r10 => if r10 = 0 then (some ((-1 : Int32), D)) else (zck (inb v1 2) (if (D (v0 + 5) (ix v1)) = 0 then (some ((-3 : Int32), D)) else (pcb (g_X9_in ((v2).toInt64) (0 : Int64) (3 : Int64)) (fun r12 => if r12 = 0 then (some ((-2 : Int32), D)) else (g_X9_differ_41 1000 v0 v1 v2 (0 : Int32) D))))))
set_option maxRecDepth 100000 in
set_option maxHeartbeats 4000000 in
theorem G_X9_differ {n : Nat} {K : Nat → Nat × Nat} {R : Nat → Nat → Option Nat} (v0 : Nat) (v1 : Int32) (v2 : Int32) (D : DD) (hv0 : isX9 n K R v0) : f_X9_differ v0 v1 v2 ((n, K, R, D) : Mm) = (g_X9_differ v0 v1 v2 D).map (lS n K R) := by
  unfold f_X9_differ g_X9_differ
  refine z_cP (G_X9_in _ _ _ _) (fun r10 he11 => ?_)
  refine z_if (fun _ => ?_) (fun _ => ?_)
  ·
    rfl
  ·
    refine z_ko (X9_o hv0) ?_
    refine z_rb (X9_r6 hv0) ?_
    refine z_ka (X9_a6 hv0) (fun _ => ?_)
    refine z_if (fun _ => ?_) (fun _ => ?_)
    ·
      rfl
    ·
      refine z_cP (G_X9_in _ _ _ _) (fun r12 he13 => ?_)
      refine z_if (fun _ => ?_) (fun _ => ?_)
      ·
        rfl
      ·
        exact G_X9_differ_41 1000 _ _ _ _ _ hv0
