set_option maxRecDepth 100000 in
def g_X9_uppermost_42 (k_6 : Nat → Int32 → Int32 → Int32 → DD → Option Int32) (v0 : Nat) (v2 : Int32) (v4 : Int32) (w0 : Int32) (D : DD) : Option Int32 :=
  k_6 v0 v2 w0 (v4 + (1 : Int32)) D
set_option maxRecDepth 100000 in
set_option maxHeartbeats 4000000 in
theorem G_X9_uppermost_42 {n : Nat} {K : Nat → Nat × Nat} {R : Nat → Nat → Option Nat} (k_6 : Nat → Int32 → Int32 → Int32 → DD → Option Int32) (f_6 : Nat → Int32 → Int32 → Int32 → Mm → Option (Int32 × Mm)) (hk_6 : ∀ (v0 : Nat) (v2 : Int32) (v3 : Int32) (v4 : Int32) (D : DD) (hv0 : v0 < n ∧ K v0 = (1, 100)), f_6 v0 v2 v3 v4 ((n, K, R, D) : Mm) = (k_6 v0 v2 v3 v4 D).map (lP n K R D)) (v0 : Nat) (v2 : Int32) (v4 : Int32) (w0 : Int32) (D : DD) (hv0 : v0 < n ∧ K v0 = (1, 100)) : f_X9_uppermost_42 f_6 v0 v2 v4 w0 ((n, K, R, D) : Mm) = (g_X9_uppermost_42 k_6 v0 v2 v4 w0 D).map (lP n K R D) := by
  unfold f_X9_uppermost_42 g_X9_uppermost_42
  exact hk_6 _ _ _ _ _ hv0
set_option maxRecDepth 100000 in
def g_X9_uppermost_36 (k_6 : Nat → Int32 → Int32 → Int32 → DD → Option Int32) (v0 : Nat) (v2 : Int32) (v4 : Int32) (D : DD) : Option Int32 :=
  g_X9_uppermost_42 k_6 v0 v2 v4 v4 D
set_option maxRecDepth 100000 in
set_option maxHeartbeats 4000000 in
theorem G_X9_uppermost_36 {n : Nat} {K : Nat → Nat × Nat} {R : Nat → Nat → Option Nat} (k_6 : Nat → Int32 → Int32 → Int32 → DD → Option Int32) (f_6 : Nat → Int32 → Int32 → Int32 → Mm → Option (Int32 × Mm)) (hk_6 : ∀ (v0 : Nat) (v2 : Int32) (v3 : Int32) (v4 : Int32) (D : DD) (hv0 : v0 < n ∧ K v0 = (1, 100)), f_6 v0 v2 v3 v4 ((n, K, R, D) : Mm) = (k_6 v0 v2 v3 v4 D).map (lP n K R D)) (v0 : Nat) (v2 : Int32) (v4 : Int32) (D : DD) (hv0 : v0 < n ∧ K v0 = (1, 100)) : f_X9_uppermost_36 f_6 v0 v2 v4 ((n, K, R, D) : Mm) = (g_X9_uppermost_36 k_6 v0 v2 v4 D).map (lP n K R D) := by
  unfold f_X9_uppermost_36 g_X9_uppermost_36
  exact G_X9_uppermost_42 _ _ hk_6 _ _ _ _ _ hv0
set_option maxRecDepth 100000 in
def g_X9_uppermost_41 (k_6 : Nat → Int32 → Int32 → Int32 → DD → Option Int32) (v0 : Nat) (v2 : Int32) (v3 : Int32) (v4 : Int32) (D : DD) : Option Int32 :=
  g_X9_uppermost_42 k_6 v0 v2 v4 v3 D
set_option maxRecDepth 100000 in
set_option maxHeartbeats 4000000 in
theorem G_X9_uppermost_41 {n : Nat} {K : Nat → Nat × Nat} {R : Nat → Nat → Option Nat} (k_6 : Nat → Int32 → Int32 → Int32 → DD → Option Int32) (f_6 : Nat → Int32 → Int32 → Int32 → Mm → Option (Int32 × Mm)) (hk_6 : ∀ (v0 : Nat) (v2 : Int32) (v3 : Int32) (v4 : Int32) (D : DD) (hv0 : v0 < n ∧ K v0 = (1, 100)), f_6 v0 v2 v3 v4 ((n, K, R, D) : Mm) = (k_6 v0 v2 v3 v4 D).map (lP n K R D)) (v0 : Nat) (v2 : Int32) (v3 : Int32) (v4 : Int32) (D : DD) (hv0 : v0 < n ∧ K v0 = (1, 100)) : f_X9_uppermost_41 f_6 v0 v2 v3 v4 ((n, K, R, D) : Mm) = (g_X9_uppermost_41 k_6 v0 v2 v3 v4 D).map (lP n K R D) := by
  unfold f_X9_uppermost_41 g_X9_uppermost_41
  exact G_X9_uppermost_42 _ _ hk_6 _ _ _ _ _ hv0
set_option maxRecDepth 100000 in
def g_X9_uppermost_6 : Nat → Nat → Int32 → Int32 → Int32 → DD → Option Int32
  | 0, _, _, _, _, _ => none
  | n + 1, v0, v2, v3, v4, D =>
    if v2 < v4 then (some v3) else (zck (inb v4 100) (if (D v0 (ix v4)) = (-9 : Int32) then (g_X9_uppermost_41 (g_X9_uppermost_6 n) v0 v2 v3 v4 D) else (if v3 = (-9 : Int32) then (g_X9_uppermost_36 (g_X9_uppermost_6 n) v0 v2 v4 D) else (pcb (g_X9_isAbove v4 v3) (fun r1 => if r1 = 0 then (g_X9_uppermost_41 (g_X9_uppermost_6 n) v0 v2 v3 v4 D) else (g_X9_uppermost_36 (g_X9_uppermost_6 n) v0 v2 v4 D))))))
set_option maxRecDepth 100000 in
set_option maxHeartbeats 4000000 in
theorem G_X9_uppermost_6 {n : Nat} {K : Nat → Nat × Nat} {R : Nat → Nat → Option Nat} : ∀ (N : Nat) (v0 : Nat) (v2 : Int32) (v3 : Int32) (v4 : Int32) (D : DD) (hv0 : v0 < n ∧ K v0 = (1, 100)), f_X9_uppermost_6 N v0 v2 v3 v4 ((n, K, R, D) : Mm) = (g_X9_uppermost_6 N v0 v2 v3 v4 D).map (lP n K R D) := by
  intro N
  induction N with
  | zero => intros; rfl
  | succ N ih =>
    intro v0 v2 v3 v4 D hv0
    unfold f_X9_uppermost_6 g_X9_uppermost_6
    refine z_if (fun _ => ?_) (fun _ => ?_)
    ·
      rfl
    ·
      refine z_ka hv0 (fun _ => ?_)
      refine z_if (fun _ => ?_) (fun _ => ?_)
      ·
        exact G_X9_uppermost_41 _ _ ih _ _ _ _ _ hv0
      ·
        refine z_if (fun _ => ?_) (fun _ => ?_)
        ·
          exact G_X9_uppermost_36 _ _ ih _ _ _ _ hv0
        ·
          refine z_cP (G_X9_isAbove _ _ _) (fun r1 he2 => ?_)
          refine z_if (fun _ => ?_) (fun _ => ?_)
          ·
            exact G_X9_uppermost_41 _ _ ih _ _ _ _ _ hv0
          ·
            exact G_X9_uppermost_36 _ _ ih _ _ _ _ hv0
set_option maxRecDepth 100000 in
def g_X9_uppermost (v0 : Nat) (v1 : Int32) (v2 : Int32) (D : DD) : Option Int32 :=
  g_X9_uppermost_6 1000 v0 v2 (-9 : Int32) v1 D
set_option maxRecDepth 100000 in
set_option maxHeartbeats 4000000 in
theorem G_X9_uppermost {n : Nat} {K : Nat → Nat × Nat} {R : Nat → Nat → Option Nat} (v0 : Nat) (v1 : Int32) (v2 : Int32) (D : DD) (hv0 : v0 < n ∧ K v0 = (1, 100)) : f_X9_uppermost v0 v1 v2 ((n, K, R, D) : Mm) = (g_X9_uppermost v0 v1 v2 D).map (lP n K R D) := by
  unfold f_X9_uppermost g_X9_uppermost
  exact G_X9_uppermost_6 1000 _ _ _ _ _ hv0
set_option maxRecDepth 100000 in
def g_X9_make_259 (k_31 : Nat → Nat → Int32 → Int32 → Int32 → DD → Option DD) (v0 : Nat) (v1 : Nat) (v2 : Int32) (v3 : Int32) (v4 : Int32) (D : DD) : Option DD :=
  k_31 v0 v1 v2 v3 v4 D
set_option maxRecDepth 100000 in
set_option maxHeartbeats 4000000 in
theorem G_X9_make_259 {n : Nat} {K : Nat → Nat × Nat} {R : Nat → Nat → Option Nat} (k_31 : Nat → Nat → Int32 → Int32 → Int32 → DD → Option DD) (f_31 : Nat → Nat → Int32 → Int32 → Int32 → Mm → Option (Unit × Mm)) (hk_31 : ∀ (v0 : Nat) (v1 : Nat) (v2 : Int32) (v3 : Int32) (v4 : Int32) (D : DD) (hv0 : isX9 n K R v0) (hv1 : v1 < n ∧ K v1 = (1, 100)), f_31 v0 v1 v2 v3 v4 ((n, K, R, D) : Mm) = (k_31 v0 v1 v2 v3 v4 D).map (lV n K R)) (v0 : Nat) (v1 : Nat) (v2 : Int32) (v3 : Int32) (v4 : Int32) (D : DD) (hv0 : isX9 n K R v0) (hv1 : v1 < n ∧ K v1 = (1, 100)) : f_X9_make_259 f_31 v0 v1 v2 v3 v4 ((n, K, R, D) : Mm) = (g_X9_make_259 k_31 v0 v1 v2 v3 v4 D).map (lV n K R) := by
  unfold f_X9_make_259 g_X9_make_259
  exact hk_31 _ _ _ _ _ _ hv0 hv1
set_option maxRecDepth 100000 in
def g_X9_make_210 (k_31 : Nat → Nat → Int32 → Int32 → Int32 → DD → Option DD) (v0 : Nat) (v1 : Nat) (v2 : Int32) (v3 : Int32) (v4 : Int32) (v5 : Int32) (v6 : Int32) (v9 : Int32) (w0 : Nat) (w1 : Int32) (w2 : Int32) (D : DD) : Option DD :=
  zck (inb w1 200) (dlt (u2 D w0 (ix w1) w2) (fun D1 => zck (inb (v3 + v9) 200) (dlt (u2 D1 (v0 + 10) (ix (v3 + v9)) v5) (fun D2 => zck (inb (v3 + v9) 200) (dlt (u2 D2 (v0 + 11) (ix (v3 + v9)) v6) (fun D3 => vcb (g_X9_want v0 (v9 + (1 : Int32)) v6 v9 (1 : Int32) D3) (fun D5 => vcb (g_X9_want v0 v5 (v9 - (1 : Int32)) v9 (0 : Int32) D5) (fun D7 => g_X9_make_259 k_31 v0 v1 v2 v3 v4 D7))))))))
set_option maxRecDepth 100000 in
set_option maxHeartbeats 4000000 in
theorem G_X9_make_210 {n : Nat} {K : Nat → Nat × Nat} {R : Nat → Nat → Option Nat} (k_31 : Nat → Nat → Int32 → Int32 → Int32 → DD → Option DD) (f_31 : Nat → Nat → Int32 → Int32 → Int32 → Mm → Option (Unit × Mm)) (hk_31 : ∀ (v0 : Nat) (v1 : Nat) (v2 : Int32) (v3 : Int32) (v4 : Int32) (D : DD) (hv0 : isX9 n K R v0) (hv1 : v1 < n ∧ K v1 = (1, 100)), f_31 v0 v1 v2 v3 v4 ((n, K, R, D) : Mm) = (k_31 v0 v1 v2 v3 v4 D).map (lV n K R)) (v0 : Nat) (v1 : Nat) (v2 : Int32) (v3 : Int32) (v4 : Int32) (v5 : Int32) (v6 : Int32) (v9 : Int32) (w0 : Nat) (w1 : Int32) (w2 : Int32) (D : DD) (hv0 : isX9 n K R v0) (hv1 : v1 < n ∧ K v1 = (1, 100)) (hw0 : w0 < n ∧ K w0 = (1, 200)) : f_X9_make_210 f_31 v0 v1 v2 v3 v4 v5 v6 v9 w0 w1 w2 ((n, K, R, D) : Mm) = (g_X9_make_210 k_31 v0 v1 v2 v3 v4 v5 v6 v9 w0 w1 w2 D).map (lV n K R) := by
  unfold f_X9_make_210 g_X9_make_210
  refine z_ka hw0 (fun _ => ?_)
  refine z_lt rfl (fun D1 => ?_)
  refine z_ko (X9_o hv0) ?_
  refine z_rb (X9_r11 hv0) ?_
  refine z_ka (X9_a11 hv0) (fun _ => ?_)
  refine z_lt rfl (fun D2 => ?_)
  refine z_rb (X9_r12 hv0) ?_
  refine z_ka (X9_a12 hv0) (fun _ => ?_)
  refine z_lt rfl (fun D3 => ?_)
  refine z_cV (G_X9_want _ _ _ _ _ _ hv0) (fun _ D5 => ?_)
  refine z_ko (X9_o hv0) ?_
  refine z_cV (G_X9_want _ _ _ _ _ _ hv0) (fun _ D7 => ?_)
  exact G_X9_make_259 _ _ hk_31 _ _ _ _ _ _ hv0 hv1
set_option maxRecDepth 100000 in
def g_X9_make_150 (k_31 : Nat → Nat → Int32 → Int32 → Int32 → DD → Option DD) (v0 : Nat) (v1 : Nat) (v2 : Int32) (v3 : Int32) (v4 : Int32) (v5 : Int32) (v6 : Int32) (v7 : Int32) (v9 : Int32) (D : DD) : Option DD :=
  if v9 = (-9 : Int32) then (g_X9_make_259 k_31 v0 v1 v2 v3 v4 D) else (zck (inb v4 100) (dlt (u2 D (v0 + 15) (ix v4) v9) (fun D8 => zck (inb (v3 + v9) 200) (dlt (u2 D8 (v0 + 6) (ix (v3 + v9)) v7) (fun D9 => if v7 = (-9 : Int32) then (g_X9_make_210 k_31 v0 v1 v2 v3 (v4 + (1 : Int32)) v5 v6 v9 (v0 + 9) (v3 + v9) (0 : Int32) D9) else (zck (inb (v3 + v7) 200) (g_X9_make_210 k_31 v0 v1 v2 v3 (v4 + (1 : Int32)) v5 v6 v9 (v0 + 9) (v3 + v9) ((D9 (v0 + 9) (ix (v3 + v7))) + (1 : Int32)) D9)))))))
set_option maxRecDepth 100000 in
set_option maxHeartbeats 4000000 in
theorem G_X9_make_150 {n : Nat} {K : Nat → Nat × Nat} {R : Nat → Nat → Option Nat} (k_31 : Nat → Nat → Int32 → Int32 → Int32 → DD → Option DD) (f_31 : Nat → Nat → Int32 → Int32 → Int32 → Mm → Option (Unit × Mm)) (hk_31 : ∀ (v0 : Nat) (v1 : Nat) (v2 : Int32) (v3 : Int32) (v4 : Int32) (D : DD) (hv0 : isX9 n K R v0) (hv1 : v1 < n ∧ K v1 = (1, 100)), f_31 v0 v1 v2 v3 v4 ((n, K, R, D) : Mm) = (k_31 v0 v1 v2 v3 v4 D).map (lV n K R)) (v0 : Nat) (v1 : Nat) (v2 : Int32) (v3 : Int32) (v4 : Int32) (v5 : Int32) (v6 : Int32) (v7 : Int32) (v9 : Int32) (D : DD) (hv0 : isX9 n K R v0) (hv1 : v1 < n ∧ K v1 = (1, 100)) : f_X9_make_150 f_31 v0 v1 v2 v3 v4 v5 v6 v7 v9 ((n, K, R, D) : Mm) = (g_X9_make_150 k_31 v0 v1 v2 v3 v4 v5 v6 v7 v9 D).map (lV n K R) := by
  unfold f_X9_make_150 g_X9_make_150
  refine z_if (fun _ => ?_) (fun _ => ?_)
  ·
    exact G_X9_make_259 _ _ hk_31 _ _ _ _ _ _ hv0 hv1
  ·
    refine z_ko (X9_o hv0) ?_
    refine z_rb (X9_r16 hv0) ?_
    refine z_ka (X9_a16 hv0) (fun _ => ?_)
    refine z_lt rfl (fun D8 => ?_)
    refine z_rb (X9_r7 hv0) ?_
    refine z_ka (X9_a7 hv0) (fun _ => ?_)
    refine z_lt rfl (fun D9 => ?_)
    refine z_rb (X9_r10 hv0) ?_
    refine z_if (fun _ => ?_) (fun _ => ?_)
    ·
      exact G_X9_make_210 _ _ hk_31 _ _ _ _ _ _ _ _ _ _ _ _ hv0 hv1 (X9_a10 hv0)
    ·
      refine z_ka (X9_a10 hv0) (fun _ => ?_)
      exact G_X9_make_210 _ _ hk_31 _ _ _ _ _ _ _ _ _ _ _ _ hv0 hv1 (X9_a10 hv0)
set_option maxRecDepth 100000 in
def g_X9_make_410 (k_268 : Nat → Nat → Int32 → Int32 → DD → Option DD) (v0 : Nat) (v1 : Nat) (v3 : Int32) (v5 : Int32) (w0 : Nat) (w1 : Int32) (w2 : Int32) (w3 : Int32) (w4 : Int32) (w5 : Int32) (D : DD) : Option DD :=
  pcb (g_X9_digestOf w2 w3 w4 w5) (fun r10 => zck (inb w1 200) (dlt (u2 D w0 (ix w1) r10) (fun D12 => k_268 v0 v1 v3 (v5 + (-1 : Int32)) D12)))
set_option maxRecDepth 100000 in
set_option maxHeartbeats 4000000 in
theorem G_X9_make_410 {n : Nat} {K : Nat → Nat × Nat} {R : Nat → Nat → Option Nat} (k_268 : Nat → Nat → Int32 → Int32 → DD → Option DD) (f_268 : Nat → Nat → Int32 → Int32 → Mm → Option (Unit × Mm)) (hk_268 : ∀ (v0 : Nat) (v1 : Nat) (v3 : Int32) (v5 : Int32) (D : DD) (hv0 : isX9 n K R v0) (hv1 : v1 < n ∧ K v1 = (1, 100)), f_268 v0 v1 v3 v5 ((n, K, R, D) : Mm) = (k_268 v0 v1 v3 v5 D).map (lV n K R)) (v0 : Nat) (v1 : Nat) (v3 : Int32) (v5 : Int32) (w0 : Nat) (w1 : Int32) (w2 : Int32) (w3 : Int32) (w4 : Int32) (w5 : Int32) (D : DD) (hv0 : isX9 n K R v0) (hv1 : v1 < n ∧ K v1 = (1, 100)) (hw0 : w0 < n ∧ K w0 = (1, 200)) : f_X9_make_410 f_268 v0 v1 v3 v5 w0 w1 w2 w3 w4 w5 ((n, K, R, D) : Mm) = (g_X9_make_410 k_268 v0 v1 v3 v5 w0 w1 w2 w3 w4 w5 D).map (lV n K R) := by
  unfold f_X9_make_410 g_X9_make_410
  refine z_cP (G_X9_digestOf _ _ _ _ _) (fun r10 he11 => ?_)
  refine z_ka hw0 (fun _ => ?_)
  refine z_lt rfl (fun D12 => ?_)
  exact hk_268 _ _ _ _ _ hv0 hv1
set_option maxRecDepth 100000 in
def g_X9_make_390 (k_268 : Nat → Nat → Int32 → Int32 → DD → Option DD) (v0 : Nat) (v1 : Nat) (v3 : Int32) (v5 : Int32) (v8 : Int32) (w0 : Nat) (w1 : Int32) (w2 : Int32) (w3 : Int32) (w4 : Int32) (D : DD) : Option DD :=
  if v8 = (-9 : Int32) then (g_X9_make_410 k_268 v0 v1 v3 v5 w0 w1 w2 w3 w4 (0 : Int32) D) else (zck (inb (v3 + v8) 200) (g_X9_make_410 k_268 v0 v1 v3 v5 w0 w1 w2 w3 w4 (D (v0 + 13) (ix (v3 + v8))) D))
set_option maxRecDepth 100000 in
set_option maxHeartbeats 4000000 in
theorem G_X9_make_390 {n : Nat} {K : Nat → Nat × Nat} {R : Nat → Nat → Option Nat} (k_268 : Nat → Nat → Int32 → Int32 → DD → Option DD) (f_268 : Nat → Nat → Int32 → Int32 → Mm → Option (Unit × Mm)) (hk_268 : ∀ (v0 : Nat) (v1 : Nat) (v3 : Int32) (v5 : Int32) (D : DD) (hv0 : isX9 n K R v0) (hv1 : v1 < n ∧ K v1 = (1, 100)), f_268 v0 v1 v3 v5 ((n, K, R, D) : Mm) = (k_268 v0 v1 v3 v5 D).map (lV n K R)) (v0 : Nat) (v1 : Nat) (v3 : Int32) (v5 : Int32) (v8 : Int32) (w0 : Nat) (w1 : Int32) (w2 : Int32) (w3 : Int32) (w4 : Int32) (D : DD) (hv0 : isX9 n K R v0) (hv1 : v1 < n ∧ K v1 = (1, 100)) (hw0 : w0 < n ∧ K w0 = (1, 200)) : f_X9_make_390 f_268 v0 v1 v3 v5 v8 w0 w1 w2 w3 w4 ((n, K, R, D) : Mm) = (g_X9_make_390 k_268 v0 v1 v3 v5 v8 w0 w1 w2 w3 w4 D).map (lV n K R) := by
  unfold f_X9_make_390 g_X9_make_390
  refine z_if (fun _ => ?_) (fun _ => ?_)
  ·
    exact G_X9_make_410 _ _ hk_268 _ _ _ _ _ _ _ _ _ _ _ hv0 hv1 hw0
  ·
    refine z_ko (X9_o hv0) ?_
    refine z_rb (X9_r14 hv0) ?_
    refine z_ka (X9_a14 hv0) (fun _ => ?_)
    exact G_X9_make_410 _ _ hk_268 _ _ _ _ _ _ _ _ _ _ _ hv0 hv1 hw0
set_option maxRecDepth 100000 in
def g_X9_make_354 (k_268 : Nat → Nat → Int32 → Int32 → DD → Option DD) (v0 : Nat) (v1 : Nat) (v3 : Int32) (v5 : Int32) (v6 : Int32) (v7 : Int32) (v8 : Int32) (w0 : Nat) (w1 : Int32) (w2 : Int32) (w3 : Int32) (D : DD) : Option DD :=
  zck (inb w1 200) (dlt (u2 D w0 (ix w1) (w2 + w3)) (fun D13 => zck (inb v6 100) (if v7 = (-9 : Int32) then (g_X9_make_390 k_268 v0 v1 v3 v5 v8 (v0 + 13) (v3 + v6) v6 (D13 v1 (ix v6)) (0 : Int32) D13) else (zck (inb (v3 + v7) 200) (g_X9_make_390 k_268 v0 v1 v3 v5 v8 (v0 + 13) (v3 + v6) v6 (D13 v1 (ix v6)) (D13 (v0 + 13) (ix (v3 + v7))) D13)))))
set_option maxRecDepth 100000 in
set_option maxHeartbeats 4000000 in
theorem G_X9_make_354 {n : Nat} {K : Nat → Nat × Nat} {R : Nat → Nat → Option Nat} (k_268 : Nat → Nat → Int32 → Int32 → DD → Option DD) (f_268 : Nat → Nat → Int32 → Int32 → Mm → Option (Unit × Mm)) (hk_268 : ∀ (v0 : Nat) (v1 : Nat) (v3 : Int32) (v5 : Int32) (D : DD) (hv0 : isX9 n K R v0) (hv1 : v1 < n ∧ K v1 = (1, 100)), f_268 v0 v1 v3 v5 ((n, K, R, D) : Mm) = (k_268 v0 v1 v3 v5 D).map (lV n K R)) (v0 : Nat) (v1 : Nat) (v3 : Int32) (v5 : Int32) (v6 : Int32) (v7 : Int32) (v8 : Int32) (w0 : Nat) (w1 : Int32) (w2 : Int32) (w3 : Int32) (D : DD) (hv0 : isX9 n K R v0) (hv1 : v1 < n ∧ K v1 = (1, 100)) (hw0 : w0 < n ∧ K w0 = (1, 200)) : f_X9_make_354 f_268 v0 v1 v3 v5 v6 v7 v8 w0 w1 w2 w3 ((n, K, R, D) : Mm) = (g_X9_make_354 k_268 v0 v1 v3 v5 v6 v7 v8 w0 w1 w2 w3 D).map (lV n K R) := by
  unfold f_X9_make_354 g_X9_make_354
  refine z_ka hw0 (fun _ => ?_)
  refine z_lt rfl (fun D13 => ?_)
  refine z_ko (X9_o hv0) ?_
  refine z_rb (X9_r14 hv0) ?_
  refine z_ka hv1 (fun _ => ?_)
  refine z_if (fun _ => ?_) (fun _ => ?_)
  ·
    exact G_X9_make_390 _ _ hk_268 _ _ _ _ _ _ _ _ _ _ _ hv0 hv1 (X9_a14 hv0)
  ·
    refine z_ka (X9_a14 hv0) (fun _ => ?_)
    exact G_X9_make_390 _ _ hk_268 _ _ _ _ _ _ _ _ _ _ _ hv0 hv1 (X9_a14 hv0)
set_option maxRecDepth 100000 in
def g_X9_make_333 (k_268 : Nat → Nat → Int32 → Int32 → DD → Option DD) (v0 : Nat) (v1 : Nat) (v3 : Int32) (v5 : Int32) (v6 : Int32) (v7 : Int32) (v8 : Int32) (w0 : Nat) (w1 : Int32) (w2 : Int32) (w3 : Int32) (D : DD) : Option DD :=
  if v8 = (-9 : Int32) then (g_X9_make_354 k_268 v0 v1 v3 v5 v6 v7 v8 w0 w1 (w2 + w3) (0 : Int32) D) else (zck (inb (v3 + v8) 200) (g_X9_make_354 k_268 v0 v1 v3 v5 v6 v7 v8 w0 w1 (w2 + w3) (D (v0 + 12) (ix (v3 + v8))) D))
set_option maxRecDepth 100000 in
set_option maxHeartbeats 4000000 in
theorem G_X9_make_333 {n : Nat} {K : Nat → Nat × Nat} {R : Nat → Nat → Option Nat} (k_268 : Nat → Nat → Int32 → Int32 → DD → Option DD) (f_268 : Nat → Nat → Int32 → Int32 → Mm → Option (Unit × Mm)) (hk_268 : ∀ (v0 : Nat) (v1 : Nat) (v3 : Int32) (v5 : Int32) (D : DD) (hv0 : isX9 n K R v0) (hv1 : v1 < n ∧ K v1 = (1, 100)), f_268 v0 v1 v3 v5 ((n, K, R, D) : Mm) = (k_268 v0 v1 v3 v5 D).map (lV n K R)) (v0 : Nat) (v1 : Nat) (v3 : Int32) (v5 : Int32) (v6 : Int32) (v7 : Int32) (v8 : Int32) (w0 : Nat) (w1 : Int32) (w2 : Int32) (w3 : Int32) (D : DD) (hv0 : isX9 n K R v0) (hv1 : v1 < n ∧ K v1 = (1, 100)) (hw0 : w0 < n ∧ K w0 = (1, 200)) : f_X9_make_333 f_268 v0 v1 v3 v5 v6 v7 v8 w0 w1 w2 w3 ((n, K, R, D) : Mm) = (g_X9_make_333 k_268 v0 v1 v3 v5 v6 v7 v8 w0 w1 w2 w3 D).map (lV n K R) := by
  unfold f_X9_make_333 g_X9_make_333
  refine z_if (fun _ => ?_) (fun _ => ?_)
  ·
    exact G_X9_make_354 _ _ hk_268 _ _ _ _ _ _ _ _ _ _ _ _ hv0 hv1 hw0
  ·
    refine z_ko (X9_o hv0) ?_
    refine z_rb (X9_r13 hv0) ?_
    refine z_ka (X9_a13 hv0) (fun _ => ?_)
    exact G_X9_make_354 _ _ hk_268 _ _ _ _ _ _ _ _ _ _ _ _ hv0 hv1 hw0
set_option maxRecDepth 100000 in
def g_X9_make_268 : Nat → Nat → Nat → Int32 → Int32 → DD → Option DD
  | 0, _, _, _, _, _ => none
  | n + 1, v0, v1, v3, v5, D =>
    if v5 < 0 then (some D) else (zck (inb v5 100) (zck (inb (v3 + (D (v0 + 15) (ix v5))) 200) (zck (inb (v3 + (D (v0 + 15) (ix v5))) 200) (if (D (v0 + 7) (ix (v3 + (D (v0 + 15) (ix v5))))) = (-9 : Int32) then (g_X9_make_333 (g_X9_make_268 n) v0 v1 v3 v5 (D (v0 + 15) (ix v5)) (D (v0 + 7) (ix (v3 + (D (v0 + 15) (ix v5))))) (D (v0 + 8) (ix (v3 + (D (v0 + 15) (ix v5))))) (v0 + 12) (v3 + (D (v0 + 15) (ix v5))) (1 : Int32) (0 : Int32) D) else (zck (inb (v3 + (D (v0 + 7) (ix (v3 + (D (v0 + 15) (ix v5)))))) 200) (g_X9_make_333 (g_X9_make_268 n) v0 v1 v3 v5 (D (v0 + 15) (ix v5)) (D (v0 + 7) (ix (v3 + (D (v0 + 15) (ix v5))))) (D (v0 + 8) (ix (v3 + (D (v0 + 15) (ix v5))))) (v0 + 12) (v3 + (D (v0 + 15) (ix v5))) (1 : Int32) (D (v0 + 12) (ix (v3 + (D (v0 + 7) (ix (v3 + (D (v0 + 15) (ix v5)))))))) D))))))
set_option maxRecDepth 100000 in
set_option maxHeartbeats 4000000 in
theorem G_X9_make_268 {n : Nat} {K : Nat → Nat × Nat} {R : Nat → Nat → Option Nat} : ∀ (N : Nat) (v0 : Nat) (v1 : Nat) (v3 : Int32) (v5 : Int32) (D : DD) (hv0 : isX9 n K R v0) (hv1 : v1 < n ∧ K v1 = (1, 100)), f_X9_make_268 N v0 v1 v3 v5 ((n, K, R, D) : Mm) = (g_X9_make_268 N v0 v1 v3 v5 D).map (lV n K R) := by
  intro N
  induction N with
  | zero => intros; rfl
  | succ N ih =>
    intro v0 v1 v3 v5 D hv0 hv1
    unfold f_X9_make_268 g_X9_make_268
    refine z_if (fun _ => ?_) (fun _ => ?_)
    ·
      rfl
    ·
      refine z_ko (X9_o hv0) ?_
      refine z_rb (X9_r16 hv0) ?_
      refine z_ka (X9_a16 hv0) (fun _ => ?_)
      refine z_rb (X9_r8 hv0) ?_
      refine z_ka (X9_a8 hv0) (fun _ => ?_)
      refine z_rb (X9_r9 hv0) ?_
      refine z_ka (X9_a9 hv0) (fun _ => ?_)
      refine z_rb (X9_r13 hv0) ?_
      refine z_if (fun _ => ?_) (fun _ => ?_)
      ·
        exact G_X9_make_333 _ _ ih _ _ _ _ _ _ _ _ _ _ _ _ hv0 hv1 (X9_a13 hv0)
      ·
        refine z_ka (X9_a13 hv0) (fun _ => ?_)
        exact G_X9_make_333 _ _ ih _ _ _ _ _ _ _ _ _ _ _ _ hv0 hv1 (X9_a13 hv0)
set_option maxRecDepth 100000 in
def g_X9_make_31 : Nat → Nat → Nat → Int32 → Int32 → Int32 → DD → Option DD
  | 0, _, _, _, _, _, _ => none
  | n + 1, v0, v1, v2, v3, v4, D =>
    if (D v0 21) ≤ 0 then (g_X9_make_268 1000 v0 v1 v3 (v4 - (1 : Int32)) D) else (dlt (u2 D v0 21 ((D v0 21) - (1 : Int32))) (fun D14 => zck (inb (D14 v0 21) 110) (zck (inb (D14 v0 21) 110) (zck (inb (D14 v0 21) 110) (zck (inb (D14 v0 21) 110) (pcb (g_X9_uppermost v1 (D14 (v0 + 16) (ix (D14 v0 21))) (D14 (v0 + 17) (ix (D14 v0 21))) D14) (fun r15 => if (D14 (v0 + 18) (ix (D14 v0 21))) = (-9 : Int32) then (zck (inb v2 2) (dlt (u2 D14 (v0 + 14) (ix v2) r15) (fun D17 => g_X9_make_150 (g_X9_make_31 n) v0 v1 v2 v3 v4 (D14 (v0 + 16) (ix (D14 v0 21))) (D14 (v0 + 17) (ix (D14 v0 21))) (D14 (v0 + 18) (ix (D14 v0 21))) r15 D17))) else (if (D14 (v0 + 19) (ix (D14 v0 21))) = 0 then (zck (inb (v3 + (D14 (v0 + 18) (ix (D14 v0 21)))) 200) (dlt (u2 D14 (v0 + 7) (ix (v3 + (D14 (v0 + 18) (ix (D14 v0 21))))) r15) (fun D18 => g_X9_make_150 (g_X9_make_31 n) v0 v1 v2 v3 v4 (D14 (v0 + 16) (ix (D14 v0 21))) (D14 (v0 + 17) (ix (D14 v0 21))) (D14 (v0 + 18) (ix (D14 v0 21))) r15 D18))) else (zck (inb (v3 + (D14 (v0 + 18) (ix (D14 v0 21)))) 200) (dlt (u2 D14 (v0 + 8) (ix (v3 + (D14 (v0 + 18) (ix (D14 v0 21))))) r15) (fun D19 => g_X9_make_150 (g_X9_make_31 n) v0 v1 v2 v3 v4 (D14 (v0 + 16) (ix (D14 v0 21))) (D14 (v0 + 17) (ix (D14 v0 21))) (D14 (v0 + 18) (ix (D14 v0 21))) r15 D19)))))))))))
set_option maxRecDepth 100000 in
set_option maxHeartbeats 4000000 in
theorem G_X9_make_31 {n : Nat} {K : Nat → Nat × Nat} {R : Nat → Nat → Option Nat} : ∀ (N : Nat) (v0 : Nat) (v1 : Nat) (v2 : Int32) (v3 : Int32) (v4 : Int32) (D : DD) (hv0 : isX9 n K R v0) (hv1 : v1 < n ∧ K v1 = (1, 100)), f_X9_make_31 N v0 v1 v2 v3 v4 ((n, K, R, D) : Mm) = (g_X9_make_31 N v0 v1 v2 v3 v4 D).map (lV n K R) := by
  intro N
  induction N with
  | zero => intros; rfl
  | succ N ih =>
    intro v0 v1 v2 v3 v4 D hv0 hv1
    unfold f_X9_make_31 g_X9_make_31
    refine z_ko (X9_o hv0) ?_
    refine z_if (fun _ => ?_) (fun _ => ?_)
    ·
      exact G_X9_make_268 1000 _ _ _ _ _ hv0 hv1
    ·
      refine z_lt rfl (fun D14 => ?_)
      refine z_rb (X9_r17 hv0) ?_
      refine z_ka (X9_a17 hv0) (fun _ => ?_)
      refine z_rb (X9_r18 hv0) ?_
      refine z_ka (X9_a18 hv0) (fun _ => ?_)
      refine z_rb (X9_r19 hv0) ?_
      refine z_ka (X9_a19 hv0) (fun _ => ?_)
      refine z_rb (X9_r20 hv0) ?_
      refine z_ka (X9_a20 hv0) (fun _ => ?_)
      refine z_cP (G_X9_uppermost _ _ _ _ hv1) (fun r15 he16 => ?_)
      refine z_if (fun _ => ?_) (fun _ => ?_)
      ·
        refine z_ko (X9_o hv0) ?_
        refine z_rb (X9_r15 hv0) ?_
        refine z_ka (X9_a15 hv0) (fun _ => ?_)
        refine z_lt rfl (fun D17 => ?_)
        exact G_X9_make_150 _ _ ih _ _ _ _ _ _ _ _ _ _ hv0 hv1
      ·
        refine z_if (fun _ => ?_) (fun _ => ?_)
        ·
          refine z_ko (X9_o hv0) ?_
          refine z_rb (X9_r8 hv0) ?_
          refine z_ka (X9_a8 hv0) (fun _ => ?_)
          refine z_lt rfl (fun D18 => ?_)
          exact G_X9_make_150 _ _ ih _ _ _ _ _ _ _ _ _ _ hv0 hv1
        ·
          refine z_ko (X9_o hv0) ?_
          refine z_rb (X9_r9 hv0) ?_
          refine z_ka (X9_a9 hv0) (fun _ => ?_)
          refine z_lt rfl (fun D19 => ?_)
          exact G_X9_make_150 _ _ ih _ _ _ _ _ _ _ _ _ _ hv0 hv1
set_option maxRecDepth 100000 in
def g_X9_make (v0 : Nat) (v1 : Nat) (v2 : Int32) (D : DD) : Option DD :=
  dlt (u2 D v0 21 (0 : Int32)) (fun D20 => zck (inb v2 2) (dlt (u2 D20 (v0 + 14) (ix v2) (-9 : Int32)) (fun D21 => vcb (g_X9_want v0 (0 : Int32) (99 : Int32) (-9 : Int32) (0 : Int32) D21) (fun D23 => g_X9_make_31 1000 v0 v1 v2 ((100 : Int32) * v2) (0 : Int32) D23))))
set_option maxRecDepth 100000 in
set_option maxHeartbeats 4000000 in
theorem G_X9_make {n : Nat} {K : Nat → Nat × Nat} {R : Nat → Nat → Option Nat} (v0 : Nat) (v1 : Nat) (v2 : Int32) (D : DD) (hv0 : isX9 n K R v0) (hv1 : v1 < n ∧ K v1 = (1, 100)) : f_X9_make v0 v1 v2 ((n, K, R, D) : Mm) = (g_X9_make v0 v1 v2 D).map (lV n K R) := by
  unfold f_X9_make g_X9_make
  refine z_ko (X9_o hv0) ?_
  refine z_lt rfl (fun D20 => ?_)
  refine z_rb (X9_r15 hv0) ?_
  refine z_ka (X9_a15 hv0) (fun _ => ?_)
  refine z_lt rfl (fun D21 => ?_)
  refine z_cV (G_X9_want _ _ _ _ _ _ hv0) (fun _ D23 => ?_)
  exact G_X9_make_31 1000 _ _ _ _ _ _ hv0 hv1
set_option maxRecDepth 100000 in
def g_X9_rootOf (v0 : Nat) (v1 : Nat) (D : DD) : Option (Int32 × DD) :=
  vcb (g_X9_make v0 v1 (0 : Int32) D) (fun D2 => zck (inb (0 : Int32) 2) (if (D2 (v0 + 14) (ix (0 : Int32))) = (-9 : Int32) then (some ((0 : Int32), D2)) else (zck (inb (0 : Int32) 2) (zck (inb (D2 (v0 + 14) (ix (0 : Int32))) 200) (some ((D2 (v0 + 13) (ix (D2 (v0 + 14) (ix (0 : Int32))))), D2))))))
set_option maxRecDepth 100000 in
set_option maxHeartbeats 4000000 in
theorem G_X9_rootOf {n : Nat} {K : Nat → Nat × Nat} {R : Nat → Nat → Option Nat} (v0 : Nat) (v1 : Nat) (D : DD) (hv0 : isX9 n K R v0) (hv1 : v1 < n ∧ K v1 = (1, 100)) : f_X9_rootOf v0 v1 ((n, K, R, D) : Mm) = (g_X9_rootOf v0 v1 D).map (lS n K R) := by
  unfold f_X9_rootOf g_X9_rootOf
  refine z_ko (X9_o hv0) ?_
  refine z_cV (G_X9_make _ _ _ _ hv0 hv1) (fun _ D2 => ?_)
  refine z_ko (X9_o hv0) ?_
  refine z_rb (X9_r15 hv0) ?_
  refine z_ka (X9_a15 hv0) (fun _ => ?_)
  refine z_if (fun _ => ?_) (fun _ => ?_)
  ·
    rfl
  ·
    refine z_rb (X9_r14 hv0) ?_
    refine z_ka (X9_a15 hv0) (fun _ => ?_)
    refine z_ka (X9_a14 hv0) (fun _ => ?_)
    rfl
set_option maxRecDepth 100000 in
def g_X9_note_68 (w0 : Nat) (w1 : Int32) (D : DD) : Option DD :=
  dlt (u2 D w0 3 w1) (fun D1 => some D1)
set_option maxRecDepth 100000 in
set_option maxHeartbeats 4000000 in
theorem G_X9_note_68 {n : Nat} {K : Nat → Nat × Nat} {R : Nat → Nat → Option Nat} (w0 : Nat) (w1 : Int32) (D : DD) (hw0 : isX9 n K R w0) : f_X9_note_68 w0 w1 ((n, K, R, D) : Mm) = (g_X9_note_68 w0 w1 D).map (lV n K R) := by
  unfold f_X9_note_68 g_X9_note_68
  refine z_ko (X9_o hw0) ?_
  refine z_lt rfl (fun D1 => ?_)
  rfl
set_option maxRecDepth 100000 in
def g_X9_note_2 : Nat → Nat → Int32 → DD → Option DD
  | 0, _, _, _ => none
  | n + 1, v0, v1, D =>
    if (100 : Int32) ≤ v1 then (dlt (u2 D v0 4 (((D v0 4) + (1 : Int32)) - ((D v0 4) + (1 : Int32)) / (14 : Int32) * (14 : Int32))) (fun D2 => if (14 : Int32) ≤ (D2 v0 3) then (g_X9_note_68 v0 (14 : Int32) D2) else (g_X9_note_68 v0 ((D2 v0 3) + (1 : Int32)) D2))) else (zck (inb v1 100) (zck (inb (((100 : Int32) * (D v0 4)) + v1) 1400) (dlt (u2 D (v0 + 3) (ix (((100 : Int32) * (D v0 4)) + v1)) (D (v0 + 1) (ix v1))) (fun D3 => g_X9_note_2 n v0 (v1 + (1 : Int32)) D3))))
set_option maxRecDepth 100000 in
set_option maxHeartbeats 4000000 in
theorem G_X9_note_2 {n : Nat} {K : Nat → Nat × Nat} {R : Nat → Nat → Option Nat} : ∀ (N : Nat) (v0 : Nat) (v1 : Int32) (D : DD) (hv0 : isX9 n K R v0), f_X9_note_2 N v0 v1 ((n, K, R, D) : Mm) = (g_X9_note_2 N v0 v1 D).map (lV n K R) := by
  intro N
  induction N with
  | zero => intros; rfl
  | succ N ih =>
    intro v0 v1 D hv0
    unfold f_X9_note_2 g_X9_note_2
    refine z_if (fun _ => ?_) (fun _ => ?_)
    ·
      refine z_ko (X9_o hv0) ?_
      refine z_lt rfl (fun D2 => ?_)
      refine z_if (fun _ => ?_) (fun _ => ?_)
      ·
        exact G_X9_note_68 _ _ _ hv0
      ·
        exact G_X9_note_68 _ _ _ hv0
    ·
      refine z_ko (X9_o hv0) ?_
      refine z_rb (X9_r2 hv0) ?_
      refine z_rb (X9_r0 hv0) ?_
      refine z_ka (X9_a0 hv0) (fun _ => ?_)
      refine z_ka (X9_a2 hv0) (fun _ => ?_)
      refine z_lt rfl (fun D3 => ?_)
      exact ih _ _ _ hv0
set_option maxRecDepth 100000 in
def g_X9_note (v0 : Nat) (D : DD) : Option DD :=
  g_X9_note_2 1000 v0 (0 : Int32) D
set_option maxRecDepth 100000 in
set_option maxHeartbeats 4000000 in
theorem G_X9_note {n : Nat} {K : Nat → Nat × Nat} {R : Nat → Nat → Option Nat} (v0 : Nat) (D : DD) (hv0 : isX9 n K R v0) : f_X9_note v0 ((n, K, R, D) : Mm) = (g_X9_note v0 D).map (lV n K R) := by
  unfold f_X9_note g_X9_note
  exact G_X9_note_2 1000 _ _ _ hv0
set_option maxRecDepth 100000 in
def g_X9_mayPut (v0 : Nat) (v1 : Int32) (D : DD) : Option Int32 :=
  zck (inb v1 100) (if (D v0 (ix v1)) = (-9 : Int32) then (pcb (g_X9_manyOf v0 D) (fun r1 => if (40 : Int32) ≤ r1 then (some (0 : Int32)) else (some (1 : Int32)))) else (some (1 : Int32)))
set_option maxRecDepth 100000 in
set_option maxHeartbeats 4000000 in
theorem G_X9_mayPut {n : Nat} {K : Nat → Nat × Nat} {R : Nat → Nat → Option Nat} (v0 : Nat) (v1 : Int32) (D : DD) (hv0 : v0 < n ∧ K v0 = (1, 100)) : f_X9_mayPut v0 v1 ((n, K, R, D) : Mm) = (g_X9_mayPut v0 v1 D).map (lP n K R D) := by
  unfold f_X9_mayPut g_X9_mayPut
  refine z_ka hv0 (fun _ => ?_)
  refine z_if (fun _ => ?_) (fun _ => ?_)
  ·
    refine z_cP (G_X9_manyOf _ _ hv0) (fun r1 he2 => ?_)
    refine z_if (fun _ => ?_) (fun _ => ?_)
    ·
      rfl
    ·
      rfl
  ·
    rfl
set_option maxRecDepth 100000 in
def g_X9_put (v0 : Nat) (v1 : Int32) (v2 : Int32) (D : DD) : Option (Int32 × DD) :=
  pcb (g_X9_isNumber v1) (fun r1 => if r1 = 0 then (some ((-2 : Int32), D)) else (pcb (g_X9_isNumber v2) (fun r3 => if r3 = 0 then (some ((-2 : Int32), D)) else (pcb (g_X9_mayPut (v0 + 1) v1 D) (fun r5 => if r5 = 0 then (some ((-4 : Int32), D)) else (vcb (g_X9_note v0 D) (fun D8 => zck (inb v1 100) (zck (inb v1 100) (dlt (u2 D8 (v0 + 1) (ix v1) v2) (fun D9 => some ((D8 (v0 + 1) (ix v1)), D9)))))))))))
set_option maxRecDepth 100000 in
set_option maxHeartbeats 4000000 in
theorem G_X9_put {n : Nat} {K : Nat → Nat × Nat} {R : Nat → Nat → Option Nat} (v0 : Nat) (v1 : Int32) (v2 : Int32) (D : DD) (hv0 : isX9 n K R v0) : f_X9_put v0 v1 v2 ((n, K, R, D) : Mm) = (g_X9_put v0 v1 v2 D).map (lS n K R) := by
  unfold f_X9_put g_X9_put
  refine z_cP (G_X9_isNumber _ _) (fun r1 he2 => ?_)
  refine z_if (fun _ => ?_) (fun _ => ?_)
  ·
    rfl
  ·
    refine z_cP (G_X9_isNumber _ _) (fun r3 he4 => ?_)
    refine z_if (fun _ => ?_) (fun _ => ?_)
    ·
      rfl
    ·
      refine z_ko (X9_o hv0) ?_
      refine z_rb (X9_r0 hv0) ?_
      refine z_cP (G_X9_mayPut _ _ _ (X9_a0 hv0)) (fun r5 he6 => ?_)
      refine z_if (fun _ => ?_) (fun _ => ?_)
      ·
        rfl
      ·
        refine z_ko (X9_o hv0) ?_
        refine z_cV (G_X9_note _ _ hv0) (fun _ D8 => ?_)
        refine z_ko (X9_o hv0) ?_
        refine z_rb (X9_r0 hv0) ?_
        refine z_ka (X9_a0 hv0) (fun _ => ?_)
        refine z_ka (X9_a0 hv0) (fun _ => ?_)
        refine z_lt rfl (fun D9 => ?_)
        rfl
set_option maxRecDepth 100000 in
def g_X9_remove (v0 : Nat) (v1 : Int32) (D : DD) : Option (Int32 × DD) :=
  pcb (g_X9_isNumber v1) (fun r1 => if r1 = 0 then (some ((-2 : Int32), D)) else (zck (inb v1 100) (if (D (v0 + 1) (ix v1)) = (-9 : Int32) then (some ((-1 : Int32), D)) else (vcb (g_X9_note v0 D) (fun D4 => zck (inb v1 100) (zck (inb v1 100) (dlt (u2 D4 (v0 + 1) (ix v1) (-9 : Int32)) (fun D5 => some ((D4 (v0 + 1) (ix v1)), D5)))))))))
set_option maxRecDepth 100000 in
set_option maxHeartbeats 4000000 in
theorem G_X9_remove {n : Nat} {K : Nat → Nat × Nat} {R : Nat → Nat → Option Nat} (v0 : Nat) (v1 : Int32) (D : DD) (hv0 : isX9 n K R v0) : f_X9_remove v0 v1 ((n, K, R, D) : Mm) = (g_X9_remove v0 v1 D).map (lS n K R) := by
  unfold f_X9_remove g_X9_remove
  refine z_cP (G_X9_isNumber _ _) (fun r1 he2 => ?_)
  refine z_if (fun _ => ?_) (fun _ => ?_)
  ·
    rfl
  ·
    refine z_ko (X9_o hv0) ?_
    refine z_rb (X9_r0 hv0) ?_
    refine z_ka (X9_a0 hv0) (fun _ => ?_)
    refine z_if (fun _ => ?_) (fun _ => ?_)
    ·
      rfl
    ·
      refine z_cV (G_X9_note _ _ hv0) (fun _ D4 => ?_)
      refine z_ko (X9_o hv0) ?_
      refine z_rb (X9_r0 hv0) ?_
      refine z_ka (X9_a0 hv0) (fun _ => ?_)
      refine z_ka (X9_a0 hv0) (fun _ => ?_)
      refine z_lt rfl (fun D5 => ?_)
      rfl
set_option maxRecDepth 100000 in
def g_X9_get (v0 : Nat) (v1 : Int32) (D : DD) : Option Int32 :=
  pcb (g_X9_isNumber v1) (fun r1 => if r1 = 0 then (some (-2 : Int32)) else (zck (inb v1 100) (some (D (v0 + 1) (ix v1)))))
set_option maxRecDepth 100000 in
set_option maxHeartbeats 4000000 in
theorem G_X9_get {n : Nat} {K : Nat → Nat × Nat} {R : Nat → Nat → Option Nat} (v0 : Nat) (v1 : Int32) (D : DD) (hv0 : isX9 n K R v0) : f_X9_get v0 v1 ((n, K, R, D) : Mm) = (g_X9_get v0 v1 D).map (lP n K R D) := by
  unfold f_X9_get g_X9_get
  refine z_cP (G_X9_isNumber _ _) (fun r1 he2 => ?_)
  refine z_if (fun _ => ?_) (fun _ => ?_)
  ·
    rfl
  ·
    refine z_ko (X9_o hv0) ?_
    refine z_rb (X9_r0 hv0) ?_
    refine z_ka (X9_a0 hv0) (fun _ => ?_)
    rfl
set_option maxRecDepth 100000 in
def g_X9_scatter_85 (k_25 : Nat → Int32 → Int64 → Int32 → DD → Option (Int32 × DD)) (v0 : Nat) (v1 : Int32) (v4 : Int64) (v6 : Int32) (D : DD) : Option (Int32 × DD) :=
  k_25 v0 v1 v4 (v6 + (1 : Int32)) D
set_option maxRecDepth 100000 in
set_option maxHeartbeats 4000000 in
theorem G_X9_scatter_85 {n : Nat} {K : Nat → Nat × Nat} {R : Nat → Nat → Option Nat} (k_25 : Nat → Int32 → Int64 → Int32 → DD → Option (Int32 × DD)) (f_25 : Nat → Int32 → Int64 → Int32 → Mm → Option (Int32 × Mm)) (hk_25 : ∀ (v0 : Nat) (v1 : Int32) (v4 : Int64) (v6 : Int32) (D : DD) (hv0 : isX9 n K R v0), f_25 v0 v1 v4 v6 ((n, K, R, D) : Mm) = (k_25 v0 v1 v4 v6 D).map (lS n K R)) (v0 : Nat) (v1 : Int32) (v4 : Int64) (v6 : Int32) (D : DD) (hv0 : isX9 n K R v0) : f_X9_scatter_85 f_25 v0 v1 v4 v6 ((n, K, R, D) : Mm) = (g_X9_scatter_85 k_25 v0 v1 v4 v6 D).map (lS n K R) := by
  unfold f_X9_scatter_85 g_X9_scatter_85
  exact hk_25 _ _ _ _ _ hv0
set_option maxRecDepth 100000 in
def g_X9_scatter_25 : Nat → Nat → Int32 → Int64 → Int32 → DD → Option (Int32 × DD)
  | 0, _, _, _, _, _ => none
  | n + 1, v0, v1, v4, v6, D =>
    if v1 ≤ v6 then (pcb (g_X9_manyOf (v0 + 1) D) (fun r1 => some (r1, D))) else (pcb (g_X9_mayPut (v0 + 1) (((((((v4 * (6364136223846793005 : Int64)) + (1442695040888963407 : Int64)).toUInt64 >>> ((33 : Int32).toInt64.toUInt64 &&& Int64.toUInt64 63)).toInt64)).toInt32) - ((((((v4 * (6364136223846793005 : Int64)) + (1442695040888963407 : Int64)).toUInt64 >>> ((33 : Int32).toInt64.toUInt64 &&& Int64.toUInt64 63)).toInt64)).toInt32) / (100 : Int32) * (100 : Int32)) D) (fun r3 => if r3 = 0 then (g_X9_scatter_85 (g_X9_scatter_25 n) v0 v1 ((v4 * (6364136223846793005 : Int64)) + (1442695040888963407 : Int64)) v6 D) else (zck (inb (((((((v4 * (6364136223846793005 : Int64)) + (1442695040888963407 : Int64)).toUInt64 >>> ((33 : Int32).toInt64.toUInt64 &&& Int64.toUInt64 63)).toInt64)).toInt32) - ((((((v4 * (6364136223846793005 : Int64)) + (1442695040888963407 : Int64)).toUInt64 >>> ((33 : Int32).toInt64.toUInt64 &&& Int64.toUInt64 63)).toInt64)).toInt32) / (100 : Int32) * (100 : Int32)) 100) (dlt (u2 D (v0 + 1) (ix (((((((v4 * (6364136223846793005 : Int64)) + (1442695040888963407 : Int64)).toUInt64 >>> ((33 : Int32).toInt64.toUInt64 &&& Int64.toUInt64 63)).toInt64)).toInt32) - ((((((v4 * (6364136223846793005 : Int64)) + (1442695040888963407 : Int64)).toUInt64 >>> ((33 : Int32).toInt64.toUInt64 &&& Int64.toUInt64 63)).toInt64)).toInt32) / (100 : Int32) * (100 : Int32))) ((((((((v4 * (6364136223846793005 : Int64)) + (1442695040888963407 : Int64)).toUInt64 >>> ((33 : Int32).toInt64.toUInt64 &&& Int64.toUInt64 63)).toInt64)).toInt32) / (128 : Int32)) - (((((((v4 * (6364136223846793005 : Int64)) + (1442695040888963407 : Int64)).toUInt64 >>> ((33 : Int32).toInt64.toUInt64 &&& Int64.toUInt64 63)).toInt64)).toInt32) / (128 : Int32)) / (100 : Int32) * (100 : Int32))) (fun D5 => g_X9_scatter_85 (g_X9_scatter_25 n) v0 v1 ((v4 * (6364136223846793005 : Int64)) + (1442695040888963407 : Int64)) v6 D5)))))
set_option maxRecDepth 100000 in
set_option maxHeartbeats 4000000 in
theorem G_X9_scatter_25 {n : Nat} {K : Nat → Nat × Nat} {R : Nat → Nat → Option Nat} : ∀ (N : Nat) (v0 : Nat) (v1 : Int32) (v4 : Int64) (v6 : Int32) (D : DD) (hv0 : isX9 n K R v0), f_X9_scatter_25 N v0 v1 v4 v6 ((n, K, R, D) : Mm) = (g_X9_scatter_25 N v0 v1 v4 v6 D).map (lS n K R) := by
  intro N
  induction N with
  | zero => intros; rfl
  | succ N ih =>
    intro v0 v1 v4 v6 D hv0
    unfold f_X9_scatter_25 g_X9_scatter_25
    refine z_if (fun _ => ?_) (fun _ => ?_)
    ·
      refine z_ko (X9_o hv0) ?_
      refine z_rb (X9_r0 hv0) ?_
      refine z_cP (G_X9_manyOf _ _ (X9_a0 hv0)) (fun r1 he2 => ?_)
      rfl
    ·
      refine z_ko (X9_o hv0) ?_
      refine z_rb (X9_r0 hv0) ?_
      refine z_cP (G_X9_mayPut _ _ _ (X9_a0 hv0)) (fun r3 he4 => ?_)
      refine z_if (fun _ => ?_) (fun _ => ?_)
      ·
        exact G_X9_scatter_85 _ _ ih _ _ _ _ _ hv0
      ·
        refine z_ko (X9_o hv0) ?_
        refine z_rb (X9_r0 hv0) ?_
        refine z_ka (X9_a0 hv0) (fun _ => ?_)
        refine z_lt rfl (fun D5 => ?_)
        exact G_X9_scatter_85 _ _ ih _ _ _ _ _ hv0
set_option maxRecDepth 100000 in
def g_X9_scatter (v0 : Nat) (v1 : Int32) (v2 : Int64) (D : DD) : Option (Int32 × DD) :=
  pcb (g_X9_in ((v1).toInt64) (1 : Int64) (20 : Int64)) (fun r6 => if r6 = 0 then (some ((-2 : Int32), D)) else (vcb (g_X9_note v0 D) (fun D9 => g_X9_scatter_25 1000 v0 v1 v2 (0 : Int32) D9)))
set_option maxRecDepth 100000 in
set_option maxHeartbeats 4000000 in
theorem G_X9_scatter {n : Nat} {K : Nat → Nat × Nat} {R : Nat → Nat → Option Nat} (v0 : Nat) (v1 : Int32) (v2 : Int64) (D : DD) (hv0 : isX9 n K R v0) : f_X9_scatter v0 v1 v2 ((n, K, R, D) : Mm) = (g_X9_scatter v0 v1 v2 D).map (lS n K R) := by
  unfold f_X9_scatter g_X9_scatter
  refine z_cP (G_X9_in _ _ _ _) (fun r6 he7 => ?_)
  refine z_if (fun _ => ?_) (fun _ => ?_)
  ·
    rfl
  ·
    refine z_ko (X9_o hv0) ?_
    refine z_cV (G_X9_note _ _ hv0) (fun _ D9 => ?_)
    exact G_X9_scatter_25 1000 _ _ _ _ _ hv0
set_option maxRecDepth 100000 in
def g_X9_undo_38 : Nat → Nat → Int32 → DD → Option (Int32 × DD)
  | 0, _, _, _ => none
  | n + 1, v0, v1, D =>
    if (100 : Int32) ≤ v1 then (some ((D v0 3), D)) else (zck (inb (((100 : Int32) * (D v0 4)) + v1) 1400) (zck (inb v1 100) (dlt (u2 D (v0 + 1) (ix v1) (D (v0 + 3) (ix (((100 : Int32) * (D v0 4)) + v1)))) (fun D1 => g_X9_undo_38 n v0 (v1 + (1 : Int32)) D1))))
set_option maxRecDepth 100000 in
set_option maxHeartbeats 4000000 in
theorem G_X9_undo_38 {n : Nat} {K : Nat → Nat × Nat} {R : Nat → Nat → Option Nat} : ∀ (N : Nat) (v0 : Nat) (v1 : Int32) (D : DD) (hv0 : isX9 n K R v0), f_X9_undo_38 N v0 v1 ((n, K, R, D) : Mm) = (g_X9_undo_38 N v0 v1 D).map (lS n K R) := by
  intro N
  induction N with
  | zero => intros; rfl
  | succ N ih =>
    intro v0 v1 D hv0
    unfold f_X9_undo_38 g_X9_undo_38
    refine z_if (fun _ => ?_) (fun _ => ?_)
    ·
      refine z_ko (X9_o hv0) ?_
      rfl
    ·
      refine z_ko (X9_o hv0) ?_
      refine z_rb (X9_r0 hv0) ?_
      refine z_rb (X9_r2 hv0) ?_
      refine z_ka (X9_a2 hv0) (fun _ => ?_)
      refine z_ka (X9_a0 hv0) (fun _ => ?_)
      refine z_lt rfl (fun D1 => ?_)
      exact ih _ _ _ hv0
set_option maxRecDepth 100000 in
def g_X9_undo (v0 : Nat) (D : DD) : Option (Int32 × DD) :=
  if (D v0 3) = 0 then (some ((-3 : Int32), D)) else (dlt (u2 D v0 3 ((D v0 3) - (1 : Int32))) (fun D2 => dlt (u2 D2 v0 4 ((((D2 v0 4) + (14 : Int32)) - (1 : Int32)) - (((D2 v0 4) + (14 : Int32)) - (1 : Int32)) / (14 : Int32) * (14 : Int32))) (fun D3 => g_X9_undo_38 1000 v0 (0 : Int32) D3)))
set_option maxRecDepth 100000 in
set_option maxHeartbeats 4000000 in
theorem G_X9_undo {n : Nat} {K : Nat → Nat × Nat} {R : Nat → Nat → Option Nat} (v0 : Nat) (D : DD) (hv0 : isX9 n K R v0) : f_X9_undo v0 ((n, K, R, D) : Mm) = (g_X9_undo v0 D).map (lS n K R) := by
  unfold f_X9_undo g_X9_undo
  refine z_ko (X9_o hv0) ?_
  refine z_if (fun _ => ?_) (fun _ => ?_)
  ·
    rfl
  ·
    refine z_lt rfl (fun D2 => ?_)
    refine z_lt rfl (fun D3 => ?_)
    exact G_X9_undo_38 1000 _ _ _ hv0
set_option maxRecDepth 100000 in
def g_X9_height_54 (k_13 : Nat → Int32 → Int32 → DD → Option (Int32 × DD)) (v0 : Nat) (v2 : Int32) (w0 : Int32) (D : DD) : Option (Int32 × DD) :=
  k_13 v0 w0 (v2 + (1 : Int32)) D
set_option maxRecDepth 100000 in
set_option maxHeartbeats 4000000 in
theorem G_X9_height_54 {n : Nat} {K : Nat → Nat × Nat} {R : Nat → Nat → Option Nat} (k_13 : Nat → Int32 → Int32 → DD → Option (Int32 × DD)) (f_13 : Nat → Int32 → Int32 → Mm → Option (Int32 × Mm)) (hk_13 : ∀ (v0 : Nat) (v1 : Int32) (v2 : Int32) (D : DD) (hv0 : isX9 n K R v0), f_13 v0 v1 v2 ((n, K, R, D) : Mm) = (k_13 v0 v1 v2 D).map (lS n K R)) (v0 : Nat) (v2 : Int32) (w0 : Int32) (D : DD) (hv0 : isX9 n K R v0) : f_X9_height_54 f_13 v0 v2 w0 ((n, K, R, D) : Mm) = (g_X9_height_54 k_13 v0 v2 w0 D).map (lS n K R) := by
  unfold f_X9_height_54 g_X9_height_54
  exact hk_13 _ _ _ _ hv0
set_option maxRecDepth 100000 in
def g_X9_height_53 (k_13 : Nat → Int32 → Int32 → DD → Option (Int32 × DD)) (v0 : Nat) (v1 : Int32) (v2 : Int32) (D : DD) : Option (Int32 × DD) :=
  g_X9_height_54 k_13 v0 v2 v1 D
set_option maxRecDepth 100000 in
set_option maxHeartbeats 4000000 in
theorem G_X9_height_53 {n : Nat} {K : Nat → Nat × Nat} {R : Nat → Nat → Option Nat} (k_13 : Nat → Int32 → Int32 → DD → Option (Int32 × DD)) (f_13 : Nat → Int32 → Int32 → Mm → Option (Int32 × Mm)) (hk_13 : ∀ (v0 : Nat) (v1 : Int32) (v2 : Int32) (D : DD) (hv0 : isX9 n K R v0), f_13 v0 v1 v2 ((n, K, R, D) : Mm) = (k_13 v0 v1 v2 D).map (lS n K R)) (v0 : Nat) (v1 : Int32) (v2 : Int32) (D : DD) (hv0 : isX9 n K R v0) : f_X9_height_53 f_13 v0 v1 v2 ((n, K, R, D) : Mm) = (g_X9_height_53 k_13 v0 v1 v2 D).map (lS n K R) := by
  unfold f_X9_height_53 g_X9_height_53
  exact G_X9_height_54 _ _ hk_13 _ _ _ _ hv0
set_option maxRecDepth 100000 in
def g_X9_height_13 : Nat → Nat → Int32 → Int32 → DD → Option (Int32 × DD)
  | 0, _, _, _, _ => none
  | n + 1, v0, v1, v2, D =>
    if (100 : Int32) ≤ v2 then (some (v1, D)) else (zck (inb v2 100) (if (D (v0 + 1) (ix v2)) = (-9 : Int32) then (g_X9_height_53 (g_X9_height_13 n) v0 v1 v2 D) else (zck (inb v2 200) (if ((D (v0 + 9) (ix v2)) + (1 : Int32)) ≤ v1 then (g_X9_height_53 (g_X9_height_13 n) v0 v1 v2 D) else (zck (inb v2 200) (g_X9_height_54 (g_X9_height_13 n) v0 v2 ((D (v0 + 9) (ix v2)) + (1 : Int32)) D))))))
set_option maxRecDepth 100000 in
set_option maxHeartbeats 4000000 in
theorem G_X9_height_13 {n : Nat} {K : Nat → Nat × Nat} {R : Nat → Nat → Option Nat} : ∀ (N : Nat) (v0 : Nat) (v1 : Int32) (v2 : Int32) (D : DD) (hv0 : isX9 n K R v0), f_X9_height_13 N v0 v1 v2 ((n, K, R, D) : Mm) = (g_X9_height_13 N v0 v1 v2 D).map (lS n K R) := by
  intro N
  induction N with
  | zero => intros; rfl
  | succ N ih =>
    intro v0 v1 v2 D hv0
    unfold f_X9_height_13 g_X9_height_13
    refine z_if (fun _ => ?_) (fun _ => ?_)
    ·
      rfl
    ·
      refine z_ko (X9_o hv0) ?_
      refine z_rb (X9_r0 hv0) ?_
      refine z_ka (X9_a0 hv0) (fun _ => ?_)
      refine z_if (fun _ => ?_) (fun _ => ?_)
      ·
        exact G_X9_height_53 _ _ ih _ _ _ _ hv0
      ·
        refine z_rb (X9_r10 hv0) ?_
        refine z_ka (X9_a10 hv0) (fun _ => ?_)
        refine z_if (fun _ => ?_) (fun _ => ?_)
        ·
          exact G_X9_height_53 _ _ ih _ _ _ _ hv0
        ·
          refine z_ka (X9_a10 hv0) (fun _ => ?_)
          exact G_X9_height_54 _ _ ih _ _ _ _ hv0
set_option maxRecDepth 100000 in
def g_X9_height (v0 : Nat) (D : DD) : Option (Int32 × DD) :=
  vcb (g_X9_make v0 (v0 + 1) (0 : Int32) D) (fun D2 => g_X9_height_13 1000 v0 (0 : Int32) (0 : Int32) D2)
set_option maxRecDepth 100000 in
set_option maxHeartbeats 4000000 in
theorem G_X9_height {n : Nat} {K : Nat → Nat × Nat} {R : Nat → Nat → Option Nat} (v0 : Nat) (D : DD) (hv0 : isX9 n K R v0) : f_X9_height v0 ((n, K, R, D) : Mm) = (g_X9_height v0 D).map (lS n K R) := by
  unfold f_X9_height g_X9_height
  refine z_ko (X9_o hv0) ?_
  refine z_rb (X9_r0 hv0) ?_
  refine z_cV (G_X9_make _ _ _ _ hv0 (X9_a0 hv0)) (fun _ D2 => ?_)
  exact G_X9_height_13 1000 _ _ _ _ hv0
set_option maxRecDepth 100000 in
def g_X9_values_32 (k_4 : Nat → Int32 → Int32 → DD → Option Int32) (v0 : Nat) (v2 : Int32) (w0 : Int32) (w1 : Int32) (D : DD) : Option Int32 :=
  k_4 v0 (w0 + w1) (v2 + (1 : Int32)) D
set_option maxRecDepth 100000 in
set_option maxHeartbeats 4000000 in
theorem G_X9_values_32 {n : Nat} {K : Nat → Nat × Nat} {R : Nat → Nat → Option Nat} (k_4 : Nat → Int32 → Int32 → DD → Option Int32) (f_4 : Nat → Int32 → Int32 → Mm → Option (Int32 × Mm)) (hk_4 : ∀ (v0 : Nat) (v1 : Int32) (v2 : Int32) (D : DD) (hv0 : isX9 n K R v0), f_4 v0 v1 v2 ((n, K, R, D) : Mm) = (k_4 v0 v1 v2 D).map (lP n K R D)) (v0 : Nat) (v2 : Int32) (w0 : Int32) (w1 : Int32) (D : DD) (hv0 : isX9 n K R v0) : f_X9_values_32 f_4 v0 v2 w0 w1 ((n, K, R, D) : Mm) = (g_X9_values_32 k_4 v0 v2 w0 w1 D).map (lP n K R D) := by
  unfold f_X9_values_32 g_X9_values_32
  exact hk_4 _ _ _ _ hv0
set_option maxRecDepth 100000 in
def g_X9_values_4 : Nat → Nat → Int32 → Int32 → DD → Option Int32
  | 0, _, _, _, _ => none
  | n + 1, v0, v1, v2, D =>
    if (100 : Int32) ≤ v2 then (some v1) else (zck (inb v2 100) (if (D (v0 + 1) (ix v2)) = (-9 : Int32) then (g_X9_values_32 (g_X9_values_4 n) v0 v2 v1 (0 : Int32) D) else (zck (inb v2 100) (g_X9_values_32 (g_X9_values_4 n) v0 v2 v1 (D (v0 + 1) (ix v2)) D))))
set_option maxRecDepth 100000 in
set_option maxHeartbeats 4000000 in
theorem G_X9_values_4 {n : Nat} {K : Nat → Nat × Nat} {R : Nat → Nat → Option Nat} : ∀ (N : Nat) (v0 : Nat) (v1 : Int32) (v2 : Int32) (D : DD) (hv0 : isX9 n K R v0), f_X9_values_4 N v0 v1 v2 ((n, K, R, D) : Mm) = (g_X9_values_4 N v0 v1 v2 D).map (lP n K R D) := by
  intro N
  induction N with
  | zero => intros; rfl
  | succ N ih =>
    intro v0 v1 v2 D hv0
    unfold f_X9_values_4 g_X9_values_4
    refine z_if (fun _ => ?_) (fun _ => ?_)
    ·
      rfl
    ·
      refine z_ko (X9_o hv0) ?_
      refine z_rb (X9_r0 hv0) ?_
      refine z_ka (X9_a0 hv0) (fun _ => ?_)
      refine z_if (fun _ => ?_) (fun _ => ?_)
      ·
        exact G_X9_values_32 _ _ ih _ _ _ _ _ hv0
      ·
        refine z_ka (X9_a0 hv0) (fun _ => ?_)
        exact G_X9_values_32 _ _ ih _ _ _ _ _ hv0
set_option maxRecDepth 100000 in
def g_X9_values (v0 : Nat) (D : DD) : Option Int32 :=
  g_X9_values_4 1000 v0 (0 : Int32) (0 : Int32) D
set_option maxRecDepth 100000 in
set_option maxHeartbeats 4000000 in
theorem G_X9_values {n : Nat} {K : Nat → Nat × Nat} {R : Nat → Nat → Option Nat} (v0 : Nat) (D : DD) (hv0 : isX9 n K R v0) : f_X9_values v0 ((n, K, R, D) : Mm) = (g_X9_values v0 D).map (lP n K R D) := by
  unfold f_X9_values g_X9_values
  exact G_X9_values_4 1000 _ _ _ _ hv0
set_option maxRecDepth 100000 in
def g_X9_about (v0 : Nat) (v1 : Int32) (D : DD) : Option (Int32 × DD) :=
  if v1 = (0 : Int32) then (pcb (g_X9_manyOf (v0 + 1) D) (fun r1 => some (r1, D))) else (if v1 = (1 : Int32) then (dcb (g_X9_rootOf v0 (v0 + 1) D) (fun r3 D4 => some (r3, D4))) else (if v1 = (2 : Int32) then (dcb (g_X9_height v0 D) (fun r5 D6 => some (r5, D6))) else (if v1 = (3 : Int32) then (pcb (g_X9_values v0 D) (fun r7 => some (r7, D))) else (if v1 = (4 : Int32) then (some ((D v0 3), D)) else (if v1 = (5 : Int32) then (some ((D v0 25), D)) else (if v1 = (6 : Int32) then (some ((D v0 26), D)) else (if v1 = (7 : Int32) then (some ((D v0 28), D)) else (some ((-2 : Int32), D)))))))))
set_option maxRecDepth 100000 in
set_option maxHeartbeats 4000000 in
theorem G_X9_about {n : Nat} {K : Nat → Nat × Nat} {R : Nat → Nat → Option Nat} (v0 : Nat) (v1 : Int32) (D : DD) (hv0 : isX9 n K R v0) : f_X9_about v0 v1 ((n, K, R, D) : Mm) = (g_X9_about v0 v1 D).map (lS n K R) := by
  unfold f_X9_about g_X9_about
  refine z_if (fun _ => ?_) (fun _ => ?_)
  ·
    refine z_ko (X9_o hv0) ?_
    refine z_rb (X9_r0 hv0) ?_
    refine z_cP (G_X9_manyOf _ _ (X9_a0 hv0)) (fun r1 he2 => ?_)
    rfl
  refine z_if (fun _ => ?_) (fun _ => ?_)
  ·
    refine z_ko (X9_o hv0) ?_
    refine z_rb (X9_r0 hv0) ?_
    refine z_cS (G_X9_rootOf _ _ _ hv0 (X9_a0 hv0)) (fun r3 D4 => ?_)
    rfl
  refine z_if (fun _ => ?_) (fun _ => ?_)
  ·
    refine z_ko (X9_o hv0) ?_
    refine z_cS (G_X9_height _ _ hv0) (fun r5 D6 => ?_)
    rfl
  refine z_if (fun _ => ?_) (fun _ => ?_)
  ·
    refine z_ko (X9_o hv0) ?_
    refine z_cP (G_X9_values _ _ hv0) (fun r7 he8 => ?_)
    rfl
  refine z_if (fun _ => ?_) (fun _ => ?_)
  ·
    refine z_ko (X9_o hv0) ?_
    rfl
  refine z_if (fun _ => ?_) (fun _ => ?_)
  ·
    refine z_ko (X9_o hv0) ?_
    rfl
  refine z_if (fun _ => ?_) (fun _ => ?_)
  ·
    refine z_ko (X9_o hv0) ?_
    rfl
  refine z_if (fun _ => ?_) (fun _ => ?_)
  ·
    refine z_ko (X9_o hv0) ?_
    rfl
  rfl
set_option maxRecDepth 100000 in
def g_X9_node (v0 : Nat) (v1 : Int32) (v2 : Int32) (D : DD) : Option (Int32 × DD) :=
  pcb (g_X9_isNumber v1) (fun r1 => if r1 = 0 then (some ((-1 : Int32), D)) else (zck (inb v1 100) (if (D (v0 + 1) (ix v1)) = (-9 : Int32) then (some ((-1 : Int32), D)) else (vcb (g_X9_make v0 (v0 + 1) (0 : Int32) D) (fun D4 => if v2 = (0 : Int32) then (zck (inb v1 200) (some ((D4 (v0 + 9) (ix v1)), D4))) else (if v2 = (1 : Int32) then (zck (inb v1 200) (some ((D4 (v0 + 6) (ix v1)), D4))) else (if v2 = (2 : Int32) then (zck (inb v1 200) (some ((D4 (v0 + 7) (ix v1)), D4))) else (if v2 = (3 : Int32) then (zck (inb v1 200) (some ((D4 (v0 + 8) (ix v1)), D4))) else (if v2 = (4 : Int32) then (zck (inb v1 200) (some ((D4 (v0 + 12) (ix v1)), D4))) else (if v2 = (5 : Int32) then (zck (inb v1 200) (some ((D4 (v0 + 13) (ix v1)), D4))) else (if v2 = (6 : Int32) then (zck (inb v1 200) (some ((D4 (v0 + 10) (ix v1)), D4))) else (if v2 = (7 : Int32) then (zck (inb v1 200) (some ((D4 (v0 + 11) (ix v1)), D4))) else (some ((-2 : Int32), D4))))))))))))))
set_option maxRecDepth 100000 in
set_option maxHeartbeats 4000000 in
theorem G_X9_node {n : Nat} {K : Nat → Nat × Nat} {R : Nat → Nat → Option Nat} (v0 : Nat) (v1 : Int32) (v2 : Int32) (D : DD) (hv0 : isX9 n K R v0) : f_X9_node v0 v1 v2 ((n, K, R, D) : Mm) = (g_X9_node v0 v1 v2 D).map (lS n K R) := by
  unfold f_X9_node g_X9_node
  refine z_cP (G_X9_isNumber _ _) (fun r1 he2 => ?_)
  refine z_if (fun _ => ?_) (fun _ => ?_)
  ·
    rfl
  ·
    refine z_ko (X9_o hv0) ?_
    refine z_rb (X9_r0 hv0) ?_
    refine z_ka (X9_a0 hv0) (fun _ => ?_)
    refine z_if (fun _ => ?_) (fun _ => ?_)
    ·
      rfl
    ·
      refine z_cV (G_X9_make _ _ _ _ hv0 (X9_a0 hv0)) (fun _ D4 => ?_)
      refine z_if (fun _ => ?_) (fun _ => ?_)
      ·
        refine z_ko (X9_o hv0) ?_
        refine z_rb (X9_r10 hv0) ?_
        refine z_ka (X9_a10 hv0) (fun _ => ?_)
        rfl
      refine z_if (fun _ => ?_) (fun _ => ?_)
      ·
        refine z_ko (X9_o hv0) ?_
        refine z_rb (X9_r7 hv0) ?_
        refine z_ka (X9_a7 hv0) (fun _ => ?_)
        rfl
      refine z_if (fun _ => ?_) (fun _ => ?_)
      ·
        refine z_ko (X9_o hv0) ?_
        refine z_rb (X9_r8 hv0) ?_
        refine z_ka (X9_a8 hv0) (fun _ => ?_)
        rfl
      refine z_if (fun _ => ?_) (fun _ => ?_)
      ·
        refine z_ko (X9_o hv0) ?_
        refine z_rb (X9_r9 hv0) ?_
        refine z_ka (X9_a9 hv0) (fun _ => ?_)
        rfl
      refine z_if (fun _ => ?_) (fun _ => ?_)
      ·
        refine z_ko (X9_o hv0) ?_
        refine z_rb (X9_r13 hv0) ?_
        refine z_ka (X9_a13 hv0) (fun _ => ?_)
        rfl
      refine z_if (fun _ => ?_) (fun _ => ?_)
      ·
        refine z_ko (X9_o hv0) ?_
        refine z_rb (X9_r14 hv0) ?_
        refine z_ka (X9_a14 hv0) (fun _ => ?_)
        rfl
      refine z_if (fun _ => ?_) (fun _ => ?_)
      ·
        refine z_ko (X9_o hv0) ?_
        refine z_rb (X9_r11 hv0) ?_
        refine z_ka (X9_a11 hv0) (fun _ => ?_)
        rfl
      refine z_if (fun _ => ?_) (fun _ => ?_)
      ·
        refine z_ko (X9_o hv0) ?_
        refine z_rb (X9_r12 hv0) ?_
        refine z_ka (X9_a12 hv0) (fun _ => ?_)
        rfl
      rfl
set_option maxRecDepth 100000 in
def g_X9_rank (v0 : Nat) (v1 : Int32) : Option Int32 :=
  pcb (g_X9_isNumber v1) (fun r1 => if r1 = 0 then (some (-2 : Int32)) else (pcb (g_X9_rankOf v1) (fun r3 => some r3)))
set_option maxRecDepth 100000 in
set_option maxHeartbeats 4000000 in
theorem G_X9_rank {n : Nat} {K : Nat → Nat × Nat} {R : Nat → Nat → Option Nat} (v0 : Nat) (v1 : Int32) (D : DD) (hv0 : isX9 n K R v0) : f_X9_rank v0 v1 ((n, K, R, D) : Mm) = (g_X9_rank v0 v1).map (lP n K R D) := by
  unfold f_X9_rank g_X9_rank
  refine z_cP (G_X9_isNumber _ _) (fun r1 he2 => ?_)
  refine z_if (fun _ => ?_) (fun _ => ?_)
  ·
    rfl
  ·
    refine z_cP (G_X9_rankOf _ _) (fun r3 he4 => ?_)
    rfl
set_option maxRecDepth 100000 in
def g_X9_itemOf (v0 : Int32) (v1 : Int32) : Option Int32 :=
  some ((-100 : Int32) - (((100 : Int32) * v0) + v1))
set_option maxRecDepth 100000 in
set_option maxHeartbeats 4000000 in
theorem G_X9_itemOf {n : Nat} {K : Nat → Nat × Nat} {R : Nat → Nat → Option Nat} (v0 : Int32) (v1 : Int32) (D : DD) : f_X9_itemOf v0 v1 ((n, K, R, D) : Mm) = (g_X9_itemOf v0 v1).map (lP n K R D) := by
  unfold f_X9_itemOf g_X9_itemOf
  rfl
set_option maxRecDepth 100000 in
def g_X9_prove_216 (k_30 : Nat → Nat → Int32 → Int32 → DD → Option DD) (v0 : Nat) (v1 : Nat) (v2 : Int32) (v3 : Int32) (D : DD) : Option DD :=
  k_30 v0 v1 v2 v3 D
set_option maxRecDepth 100000 in
set_option maxHeartbeats 4000000 in
theorem G_X9_prove_216 {n : Nat} {K : Nat → Nat × Nat} {R : Nat → Nat → Option Nat} (k_30 : Nat → Nat → Int32 → Int32 → DD → Option DD) (f_30 : Nat → Nat → Int32 → Int32 → Mm → Option (Unit × Mm)) (hk_30 : ∀ (v0 : Nat) (v1 : Nat) (v2 : Int32) (v3 : Int32) (D : DD) (hv0 : isX9 n K R v0) (hv1 : v1 < n ∧ K v1 = (1, 100)), f_30 v0 v1 v2 v3 ((n, K, R, D) : Mm) = (k_30 v0 v1 v2 v3 D).map (lV n K R)) (v0 : Nat) (v1 : Nat) (v2 : Int32) (v3 : Int32) (D : DD) (hv0 : isX9 n K R v0) (hv1 : v1 < n ∧ K v1 = (1, 100)) : f_X9_prove_216 f_30 v0 v1 v2 v3 ((n, K, R, D) : Mm) = (g_X9_prove_216 k_30 v0 v1 v2 v3 D).map (lV n K R) := by
  unfold f_X9_prove_216 g_X9_prove_216
  exact hk_30 _ _ _ _ _ hv0 hv1
set_option maxRecDepth 100000 in
def g_X9_prove_157 (k_30 : Nat → Nat → Int32 → Int32 → DD → Option DD) (v0 : Nat) (v1 : Nat) (v2 : Int32) (v3 : Int32) (v4 : Int32) (v5 : Int32) (v6 : Int32) (v7 : Int32) (w0 : Nat) (w1 : Int32) (w2 : Int32) (D : DD) : Option DD :=
  zck (inb w1 100) (dlt (u2 D w0 (ix w1) w2) (fun D1 => dlt (u2 D1 v0 23 ((D1 v0 23) + (1 : Int32))) (fun D2 => if v6 = (-9 : Int32) then (g_X9_prove_216 k_30 v0 v1 v2 v3 D2) else (if v7 = 0 then (g_X9_prove_216 k_30 v0 v1 v2 v3 D2) else (zck (inb v6 200) (vcb (g_X9_want v0 (v6 + (1 : Int32)) v5 (D2 (v0 + 8) (ix v6)) (0 : Int32) D2) (fun D4 => zck (inb v6 200) (vcb (g_X9_want v0 v4 (v6 - (1 : Int32)) (D4 (v0 + 7) (ix v6)) (0 : Int32) D4) (fun D6 => g_X9_prove_216 k_30 v0 v1 v2 v3 D6)))))))))
set_option maxRecDepth 100000 in
set_option maxHeartbeats 4000000 in
theorem G_X9_prove_157 {n : Nat} {K : Nat → Nat × Nat} {R : Nat → Nat → Option Nat} (k_30 : Nat → Nat → Int32 → Int32 → DD → Option DD) (f_30 : Nat → Nat → Int32 → Int32 → Mm → Option (Unit × Mm)) (hk_30 : ∀ (v0 : Nat) (v1 : Nat) (v2 : Int32) (v3 : Int32) (D : DD) (hv0 : isX9 n K R v0) (hv1 : v1 < n ∧ K v1 = (1, 100)), f_30 v0 v1 v2 v3 ((n, K, R, D) : Mm) = (k_30 v0 v1 v2 v3 D).map (lV n K R)) (v0 : Nat) (v1 : Nat) (v2 : Int32) (v3 : Int32) (v4 : Int32) (v5 : Int32) (v6 : Int32) (v7 : Int32) (w0 : Nat) (w1 : Int32) (w2 : Int32) (D : DD) (hv0 : isX9 n K R v0) (hv1 : v1 < n ∧ K v1 = (1, 100)) (hw0 : w0 < n ∧ K w0 = (1, 100)) : f_X9_prove_157 f_30 v0 v1 v2 v3 v4 v5 v6 v7 w0 w1 w2 ((n, K, R, D) : Mm) = (g_X9_prove_157 k_30 v0 v1 v2 v3 v4 v5 v6 v7 w0 w1 w2 D).map (lV n K R) := by
  unfold f_X9_prove_157 g_X9_prove_157
  refine z_ka hw0 (fun _ => ?_)
  refine z_lt rfl (fun D1 => ?_)
  refine z_ko (X9_o hv0) ?_
  refine z_lt rfl (fun D2 => ?_)
  refine z_if (fun _ => ?_) (fun _ => ?_)
  ·
    exact G_X9_prove_216 _ _ hk_30 _ _ _ _ _ hv0 hv1
  ·
    refine z_if (fun _ => ?_) (fun _ => ?_)
    ·
      exact G_X9_prove_216 _ _ hk_30 _ _ _ _ _ hv0 hv1
    ·
      refine z_rb (X9_r9 hv0) ?_
      refine z_ka (X9_a9 hv0) (fun _ => ?_)
      refine z_cV (G_X9_want _ _ _ _ _ _ hv0) (fun _ D4 => ?_)
      refine z_ko (X9_o hv0) ?_
      refine z_rb (X9_r8 hv0) ?_
      refine z_ka (X9_a8 hv0) (fun _ => ?_)
      refine z_cV (G_X9_want _ _ _ _ _ _ hv0) (fun _ D6 => ?_)
      exact G_X9_prove_216 _ _ hk_30 _ _ _ _ _ hv0 hv1
set_option maxRecDepth 100000 in
def g_X9_prove_112 (k_30 : Nat → Nat → Int32 → Int32 → DD → Option DD) (v0 : Nat) (v1 : Nat) (v2 : Int32) (v3 : Int32) (v4 : Int32) (v5 : Int32) (v6 : Int32) (w0 : Int32) (D : DD) : Option DD :=
  if v6 = (-9 : Int32) then (g_X9_prove_157 k_30 v0 v1 v2 v3 v4 v5 v6 w0 (v0 + 20) (D v0 23) (0 : Int32) D) else (if w0 = 0 then (zck (inb v6 200) (g_X9_prove_157 k_30 v0 v1 v2 v3 v4 v5 v6 w0 (v0 + 20) (D v0 23) (D (v0 + 13) (ix v6)) D)) else (zck (inb v6 100) (pcb (g_X9_itemOf v6 (D v1 (ix v6))) (fun r7 => g_X9_prove_157 k_30 v0 v1 v2 v3 v4 v5 v6 w0 (v0 + 20) (D v0 23) r7 D))))
set_option maxRecDepth 100000 in
set_option maxHeartbeats 4000000 in
theorem G_X9_prove_112 {n : Nat} {K : Nat → Nat × Nat} {R : Nat → Nat → Option Nat} (k_30 : Nat → Nat → Int32 → Int32 → DD → Option DD) (f_30 : Nat → Nat → Int32 → Int32 → Mm → Option (Unit × Mm)) (hk_30 : ∀ (v0 : Nat) (v1 : Nat) (v2 : Int32) (v3 : Int32) (D : DD) (hv0 : isX9 n K R v0) (hv1 : v1 < n ∧ K v1 = (1, 100)), f_30 v0 v1 v2 v3 ((n, K, R, D) : Mm) = (k_30 v0 v1 v2 v3 D).map (lV n K R)) (v0 : Nat) (v1 : Nat) (v2 : Int32) (v3 : Int32) (v4 : Int32) (v5 : Int32) (v6 : Int32) (w0 : Int32) (D : DD) (hv0 : isX9 n K R v0) (hv1 : v1 < n ∧ K v1 = (1, 100)) : f_X9_prove_112 f_30 v0 v1 v2 v3 v4 v5 v6 w0 ((n, K, R, D) : Mm) = (g_X9_prove_112 k_30 v0 v1 v2 v3 v4 v5 v6 w0 D).map (lV n K R) := by
  unfold f_X9_prove_112 g_X9_prove_112
  refine z_ko (X9_o hv0) ?_
  refine z_rb (X9_r22 hv0) ?_
  refine z_if (fun _ => ?_) (fun _ => ?_)
  ·
    exact G_X9_prove_157 _ _ hk_30 _ _ _ _ _ _ _ _ _ _ _ _ hv0 hv1 (X9_a22 hv0)
  ·
    refine z_if (fun _ => ?_) (fun _ => ?_)
    ·
      refine z_rb (X9_r14 hv0) ?_
      refine z_ka (X9_a14 hv0) (fun _ => ?_)
      exact G_X9_prove_157 _ _ hk_30 _ _ _ _ _ _ _ _ _ _ _ _ hv0 hv1 (X9_a22 hv0)
    ·
      refine z_ka hv1 (fun _ => ?_)
      refine z_cP (G_X9_itemOf _ _ _) (fun r7 he8 => ?_)
      exact G_X9_prove_157 _ _ hk_30 _ _ _ _ _ _ _ _ _ _ _ _ hv0 hv1 (X9_a22 hv0)
set_option maxRecDepth 100000 in
def g_X9_prove_104 (k_30 : Nat → Nat → Int32 → Int32 → DD → Option DD) (v0 : Nat) (v1 : Nat) (v2 : Int32) (v3 : Int32) (v4 : Int32) (v5 : Int32) (v6 : Int32) (w0 : Int32) (w1 : Int32) (D : DD) : Option DD :=
  if w1 < w0 then (g_X9_prove_112 k_30 v0 v1 v2 v3 v4 v5 v6 (0 : Int32) D) else (g_X9_prove_112 k_30 v0 v1 v2 v3 v4 v5 v6 (1 : Int32) D)
set_option maxRecDepth 100000 in
set_option maxHeartbeats 4000000 in
theorem G_X9_prove_104 {n : Nat} {K : Nat → Nat × Nat} {R : Nat → Nat → Option Nat} (k_30 : Nat → Nat → Int32 → Int32 → DD → Option DD) (f_30 : Nat → Nat → Int32 → Int32 → Mm → Option (Unit × Mm)) (hk_30 : ∀ (v0 : Nat) (v1 : Nat) (v2 : Int32) (v3 : Int32) (D : DD) (hv0 : isX9 n K R v0) (hv1 : v1 < n ∧ K v1 = (1, 100)), f_30 v0 v1 v2 v3 ((n, K, R, D) : Mm) = (k_30 v0 v1 v2 v3 D).map (lV n K R)) (v0 : Nat) (v1 : Nat) (v2 : Int32) (v3 : Int32) (v4 : Int32) (v5 : Int32) (v6 : Int32) (w0 : Int32) (w1 : Int32) (D : DD) (hv0 : isX9 n K R v0) (hv1 : v1 < n ∧ K v1 = (1, 100)) : f_X9_prove_104 f_30 v0 v1 v2 v3 v4 v5 v6 w0 w1 ((n, K, R, D) : Mm) = (g_X9_prove_104 k_30 v0 v1 v2 v3 v4 v5 v6 w0 w1 D).map (lV n K R) := by
  unfold f_X9_prove_104 g_X9_prove_104
  refine z_if (fun _ => ?_) (fun _ => ?_)
  ·
    exact G_X9_prove_112 _ _ hk_30 _ _ _ _ _ _ _ _ _ hv0 hv1
  ·
    exact G_X9_prove_112 _ _ hk_30 _ _ _ _ _ _ _ _ _ hv0 hv1
set_option maxRecDepth 100000 in
def g_X9_prove_92 (k_30 : Nat → Nat → Int32 → Int32 → DD → Option DD) (v0 : Nat) (v1 : Nat) (v2 : Int32) (v3 : Int32) (v4 : Int32) (v5 : Int32) (v6 : Int32) (w0 : Int32) (D : DD) : Option DD :=
  if v3 ≤ v5 then (g_X9_prove_104 k_30 v0 v1 v2 v3 v4 v5 v6 w0 v3 D) else (g_X9_prove_104 k_30 v0 v1 v2 v3 v4 v5 v6 w0 v5 D)
set_option maxRecDepth 100000 in
set_option maxHeartbeats 4000000 in
theorem G_X9_prove_92 {n : Nat} {K : Nat → Nat × Nat} {R : Nat → Nat → Option Nat} (k_30 : Nat → Nat → Int32 → Int32 → DD → Option DD) (f_30 : Nat → Nat → Int32 → Int32 → Mm → Option (Unit × Mm)) (hk_30 : ∀ (v0 : Nat) (v1 : Nat) (v2 : Int32) (v3 : Int32) (D : DD) (hv0 : isX9 n K R v0) (hv1 : v1 < n ∧ K v1 = (1, 100)), f_30 v0 v1 v2 v3 ((n, K, R, D) : Mm) = (k_30 v0 v1 v2 v3 D).map (lV n K R)) (v0 : Nat) (v1 : Nat) (v2 : Int32) (v3 : Int32) (v4 : Int32) (v5 : Int32) (v6 : Int32) (w0 : Int32) (D : DD) (hv0 : isX9 n K R v0) (hv1 : v1 < n ∧ K v1 = (1, 100)) : f_X9_prove_92 f_30 v0 v1 v2 v3 v4 v5 v6 w0 ((n, K, R, D) : Mm) = (g_X9_prove_92 k_30 v0 v1 v2 v3 v4 v5 v6 w0 D).map (lV n K R) := by
  unfold f_X9_prove_92 g_X9_prove_92
  refine z_if (fun _ => ?_) (fun _ => ?_)
  ·
    exact G_X9_prove_104 _ _ hk_30 _ _ _ _ _ _ _ _ _ _ hv0 hv1
  ·
    exact G_X9_prove_104 _ _ hk_30 _ _ _ _ _ _ _ _ _ _ hv0 hv1
set_option maxRecDepth 100000 in
def g_X9_prove_30 : Nat → Nat → Nat → Int32 → Int32 → DD → Option DD
  | 0, _, _, _, _, _ => none
  | n + 1, v0, v1, v2, v3, D =>
    if (D v0 21) ≤ 0 then (some D) else (dlt (u2 D v0 21 ((D v0 21) - (1 : Int32))) (fun D9 => zck (inb (D9 v0 21) 110) (zck (inb (D9 v0 21) 110) (zck (inb (D9 v0 21) 110) (if (D9 (v0 + 16) (ix (D9 v0 21))) ≤ v2 then (g_X9_prove_92 (g_X9_prove_30 n) v0 v1 v2 v3 (D9 (v0 + 16) (ix (D9 v0 21))) (D9 (v0 + 17) (ix (D9 v0 21))) (D9 (v0 + 18) (ix (D9 v0 21))) v2 D9) else (g_X9_prove_92 (g_X9_prove_30 n) v0 v1 v2 v3 (D9 (v0 + 16) (ix (D9 v0 21))) (D9 (v0 + 17) (ix (D9 v0 21))) (D9 (v0 + 18) (ix (D9 v0 21))) (D9 (v0 + 16) (ix (D9 v0 21))) D9))))))
set_option maxRecDepth 100000 in
set_option maxHeartbeats 4000000 in
theorem G_X9_prove_30 {n : Nat} {K : Nat → Nat × Nat} {R : Nat → Nat → Option Nat} : ∀ (N : Nat) (v0 : Nat) (v1 : Nat) (v2 : Int32) (v3 : Int32) (D : DD) (hv0 : isX9 n K R v0) (hv1 : v1 < n ∧ K v1 = (1, 100)), f_X9_prove_30 N v0 v1 v2 v3 ((n, K, R, D) : Mm) = (g_X9_prove_30 N v0 v1 v2 v3 D).map (lV n K R) := by
  intro N
  induction N with
  | zero => intros; rfl
  | succ N ih =>
    intro v0 v1 v2 v3 D hv0 hv1
    unfold f_X9_prove_30 g_X9_prove_30
    refine z_ko (X9_o hv0) ?_
    refine z_if (fun _ => ?_) (fun _ => ?_)
    ·
      rfl
    ·
      refine z_lt rfl (fun D9 => ?_)
      refine z_rb (X9_r17 hv0) ?_
      refine z_ka (X9_a17 hv0) (fun _ => ?_)
      refine z_rb (X9_r18 hv0) ?_
      refine z_ka (X9_a18 hv0) (fun _ => ?_)
      refine z_rb (X9_r19 hv0) ?_
      refine z_ka (X9_a19 hv0) (fun _ => ?_)
      refine z_if (fun _ => ?_) (fun _ => ?_)
      ·
        exact G_X9_prove_92 _ _ ih _ _ _ _ _ _ _ _ _ hv0 hv1
      ·
        exact G_X9_prove_92 _ _ ih _ _ _ _ _ _ _ _ _ hv0 hv1
set_option maxRecDepth 100000 in
def g_X9_prove (v0 : Nat) (v1 : Nat) (v2 : Int32) (v3 : Int32) (D : DD) : Option DD :=
  vcb (g_X9_make v0 v1 (0 : Int32) D) (fun D11 => dlt (u2 D11 v0 23 (0 : Int32)) (fun D12 => dlt (u2 D12 v0 21 (0 : Int32)) (fun D13 => zck (inb (0 : Int32) 2) (vcb (g_X9_want v0 (0 : Int32) (99 : Int32) (D13 (v0 + 14) (ix (0 : Int32))) (0 : Int32) D13) (fun D15 => g_X9_prove_30 1000 v0 v1 v2 v3 D15)))))
set_option maxRecDepth 100000 in
set_option maxHeartbeats 4000000 in
theorem G_X9_prove {n : Nat} {K : Nat → Nat × Nat} {R : Nat → Nat → Option Nat} (v0 : Nat) (v1 : Nat) (v2 : Int32) (v3 : Int32) (D : DD) (hv0 : isX9 n K R v0) (hv1 : v1 < n ∧ K v1 = (1, 100)) : f_X9_prove v0 v1 v2 v3 ((n, K, R, D) : Mm) = (g_X9_prove v0 v1 v2 v3 D).map (lV n K R) := by
  unfold f_X9_prove g_X9_prove
  refine z_ko (X9_o hv0) ?_
  refine z_cV (G_X9_make _ _ _ _ hv0 hv1) (fun _ D11 => ?_)
  refine z_ko (X9_o hv0) ?_
  refine z_lt rfl (fun D12 => ?_)
  refine z_lt rfl (fun D13 => ?_)
  refine z_rb (X9_r15 hv0) ?_
  refine z_ka (X9_a15 hv0) (fun _ => ?_)
  refine z_cV (G_X9_want _ _ _ _ _ _ hv0) (fun _ D15 => ?_)
  exact G_X9_prove_30 1000 _ _ _ _ _ hv0 hv1
