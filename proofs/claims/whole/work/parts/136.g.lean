set_option maxRecDepth 100000 in
def g_X9_placeOf_28 (k_5 : Nat → Int32 → Int32 → Int32 → DD → Option Int32) (v0 : Nat) (v1 : Int32) (v3 : Int32) (w0 : Int32) (D : DD) : Option Int32 :=
  k_5 v0 v1 w0 (v3 + (1 : Int32)) D
set_option maxRecDepth 100000 in
set_option maxHeartbeats 4000000 in
theorem G_X9_placeOf_28 {n : Nat} {K : Nat → Nat × Nat} {R : Nat → Nat → Option Nat} (k_5 : Nat → Int32 → Int32 → Int32 → DD → Option Int32) (f_5 : Nat → Int32 → Int32 → Int32 → Mm → Option (Int32 × Mm)) (hk_5 : ∀ (v0 : Nat) (v1 : Int32) (v2 : Int32) (v3 : Int32) (D : DD) (hv0 : isX9 n K R v0), f_5 v0 v1 v2 v3 ((n, K, R, D) : Mm) = (k_5 v0 v1 v2 v3 D).map (lP n K R D)) (v0 : Nat) (v1 : Int32) (v3 : Int32) (w0 : Int32) (D : DD) (hv0 : isX9 n K R v0) : f_X9_placeOf_28 f_5 v0 v1 v3 w0 ((n, K, R, D) : Mm) = (g_X9_placeOf_28 k_5 v0 v1 v3 w0 D).map (lP n K R D) := by
  unfold f_X9_placeOf_28 g_X9_placeOf_28
  exact hk_5 _ _ _ _ _ hv0
set_option maxRecDepth 100000 in
def g_X9_placeOf_5 : Nat → Nat → Int32 → Int32 → Int32 → DD → Option Int32
  | 0, _, _, _, _, _ => none
  | n + 1, v0, v1, v2, v3, D =>
    if (D v0 41) ≤ v3 then (some v2) else (zck (inb v3 102) (if (D (v0 + 30) (ix v3)) = v1 then (g_X9_placeOf_28 (g_X9_placeOf_5 n) v0 v1 v3 v3 D) else (g_X9_placeOf_28 (g_X9_placeOf_5 n) v0 v1 v3 v2 D)))
set_option maxRecDepth 100000 in
set_option maxHeartbeats 4000000 in
theorem G_X9_placeOf_5 {n : Nat} {K : Nat → Nat × Nat} {R : Nat → Nat → Option Nat} : ∀ (N : Nat) (v0 : Nat) (v1 : Int32) (v2 : Int32) (v3 : Int32) (D : DD) (hv0 : isX9 n K R v0), f_X9_placeOf_5 N v0 v1 v2 v3 ((n, K, R, D) : Mm) = (g_X9_placeOf_5 N v0 v1 v2 v3 D).map (lP n K R D) := by
  intro N
  induction N with
  | zero => intros; rfl
  | succ N ih =>
    intro v0 v1 v2 v3 D hv0
    unfold f_X9_placeOf_5 g_X9_placeOf_5
    refine z_ko (X9_o hv0) ?_
    refine z_if (fun _ => ?_) (fun _ => ?_)
    ·
      rfl
    ·
      refine z_rb (X9_r38 hv0) ?_
      refine z_ka (X9_a38 hv0) (fun _ => ?_)
      refine z_if (fun _ => ?_) (fun _ => ?_)
      ·
        exact G_X9_placeOf_28 _ _ ih _ _ _ _ _ hv0
      ·
        exact G_X9_placeOf_28 _ _ ih _ _ _ _ _ hv0
set_option maxRecDepth 100000 in
def g_X9_placeOf (v0 : Nat) (v1 : Int32) (D : DD) : Option Int32 :=
  g_X9_placeOf_5 1000 v0 v1 (-9 : Int32) (0 : Int32) D
set_option maxRecDepth 100000 in
set_option maxHeartbeats 4000000 in
theorem G_X9_placeOf {n : Nat} {K : Nat → Nat × Nat} {R : Nat → Nat → Option Nat} (v0 : Nat) (v1 : Int32) (D : DD) (hv0 : isX9 n K R v0) : f_X9_placeOf v0 v1 ((n, K, R, D) : Mm) = (g_X9_placeOf v0 v1 D).map (lP n K R D) := by
  unfold f_X9_placeOf g_X9_placeOf
  exact G_X9_placeOf_5 1000 _ _ _ _ _ hv0
set_option maxRecDepth 100000 in
def g_X9_layRow_78 (k_17 : Nat → Int32 → DD → Option DD) (k_25 : Nat → Int32 → Int32 → DD → Option DD) (v0 : Nat) (v1 : Int32) (v2 : Int32) (D : DD) : Option DD :=
  k_25 v0 v1 (v2 + (1 : Int32)) D
set_option maxRecDepth 100000 in
set_option maxHeartbeats 4000000 in
theorem G_X9_layRow_78 {n : Nat} {K : Nat → Nat × Nat} {R : Nat → Nat → Option Nat} (k_17 : Nat → Int32 → DD → Option DD) (f_17 : Nat → Int32 → Mm → Option (Unit × Mm)) (hk_17 : ∀ (v0 : Nat) (v1 : Int32) (D : DD) (hv0 : isX9 n K R v0), f_17 v0 v1 ((n, K, R, D) : Mm) = (k_17 v0 v1 D).map (lV n K R)) (k_25 : Nat → Int32 → Int32 → DD → Option DD) (f_25 : Nat → Int32 → Int32 → Mm → Option (Unit × Mm)) (hk_25 : ∀ (v0 : Nat) (v1 : Int32) (v2 : Int32) (D : DD) (hv0 : isX9 n K R v0), f_25 v0 v1 v2 ((n, K, R, D) : Mm) = (k_25 v0 v1 v2 D).map (lV n K R)) (v0 : Nat) (v1 : Int32) (v2 : Int32) (D : DD) (hv0 : isX9 n K R v0) : f_X9_layRow_78 f_17 f_25 v0 v1 v2 ((n, K, R, D) : Mm) = (g_X9_layRow_78 k_17 k_25 v0 v1 v2 D).map (lV n K R) := by
  unfold f_X9_layRow_78 g_X9_layRow_78
  exact hk_25 _ _ _ _ hv0
set_option maxRecDepth 100000 in
def g_X9_layRow_25 (k_17 : Nat → Int32 → DD → Option DD) : Nat → Nat → Int32 → Int32 → DD → Option DD
  | 0, _, _, _, _ => none
  | n + 1, v0, v1, v2, D =>
    if (D v0 36) ≤ v2 then (k_17 v0 (v1 + (1 : Int32)) D) else (zck (inb v2 100) (if (D (v0 + 23) (ix v2)) = v1 then (zck (inb (D v0 41) 102) (dlt (u2 D (v0 + 30) (ix (D v0 41)) v1) (fun D1 => zck (inb v2 100) (zck (inb (D1 v0 41) 102) (dlt (u2 D1 (v0 + 31) (ix (D1 v0 41)) (D1 (v0 + 24) (ix v2))) (fun D2 => dlt (u2 D2 v0 41 ((D2 v0 41) + (1 : Int32))) (fun D3 => g_X9_layRow_78 k_17 (g_X9_layRow_25 k_17 n) v0 v1 v2 D3))))))) else (g_X9_layRow_78 k_17 (g_X9_layRow_25 k_17 n) v0 v1 v2 D)))
set_option maxRecDepth 100000 in
set_option maxHeartbeats 4000000 in
theorem G_X9_layRow_25 {n : Nat} {K : Nat → Nat × Nat} {R : Nat → Nat → Option Nat} (k_17 : Nat → Int32 → DD → Option DD) (f_17 : Nat → Int32 → Mm → Option (Unit × Mm)) (hk_17 : ∀ (v0 : Nat) (v1 : Int32) (D : DD) (hv0 : isX9 n K R v0), f_17 v0 v1 ((n, K, R, D) : Mm) = (k_17 v0 v1 D).map (lV n K R)) : ∀ (N : Nat) (v0 : Nat) (v1 : Int32) (v2 : Int32) (D : DD) (hv0 : isX9 n K R v0), f_X9_layRow_25 f_17 N v0 v1 v2 ((n, K, R, D) : Mm) = (g_X9_layRow_25 k_17 N v0 v1 v2 D).map (lV n K R) := by
  intro N
  induction N with
  | zero => intros; rfl
  | succ N ih =>
    intro v0 v1 v2 D hv0
    unfold f_X9_layRow_25 g_X9_layRow_25
    refine z_ko (X9_o hv0) ?_
    refine z_if (fun _ => ?_) (fun _ => ?_)
    ·
      exact hk_17 _ _ _ hv0
    ·
      refine z_rb (X9_r29 hv0) ?_
      refine z_ka (X9_a29 hv0) (fun _ => ?_)
      refine z_if (fun _ => ?_) (fun _ => ?_)
      ·
        refine z_rb (X9_r38 hv0) ?_
        refine z_ka (X9_a38 hv0) (fun _ => ?_)
        refine z_lt rfl (fun D1 => ?_)
        refine z_rb (X9_r39 hv0) ?_
        refine z_rb (X9_r30 hv0) ?_
        refine z_ka (X9_a30 hv0) (fun _ => ?_)
        refine z_ka (X9_a39 hv0) (fun _ => ?_)
        refine z_lt rfl (fun D2 => ?_)
        refine z_lt rfl (fun D3 => ?_)
        exact G_X9_layRow_78 _ _ hk_17 _ _ ih _ _ _ _ hv0
      ·
        exact G_X9_layRow_78 _ _ hk_17 _ _ ih _ _ _ _ hv0
set_option maxRecDepth 100000 in
def g_X9_layRow_159 (k_92 : Nat → Int32 → DD → Option DD) (v0 : Nat) (v1 : Int32) (D : DD) : Option DD :=
  k_92 v0 (v1 + (1 : Int32)) D
set_option maxRecDepth 100000 in
set_option maxHeartbeats 4000000 in
theorem G_X9_layRow_159 {n : Nat} {K : Nat → Nat × Nat} {R : Nat → Nat → Option Nat} (k_92 : Nat → Int32 → DD → Option DD) (f_92 : Nat → Int32 → Mm → Option (Unit × Mm)) (hk_92 : ∀ (v0 : Nat) (v1 : Int32) (D : DD) (hv0 : isX9 n K R v0), f_92 v0 v1 ((n, K, R, D) : Mm) = (k_92 v0 v1 D).map (lV n K R)) (v0 : Nat) (v1 : Int32) (D : DD) (hv0 : isX9 n K R v0) : f_X9_layRow_159 f_92 v0 v1 ((n, K, R, D) : Mm) = (g_X9_layRow_159 k_92 v0 v1 D).map (lV n K R) := by
  unfold f_X9_layRow_159 g_X9_layRow_159
  exact hk_92 _ _ _ hv0
set_option maxRecDepth 100000 in
def g_X9_layRow_134 (k_92 : Nat → Int32 → DD → Option DD) (v0 : Nat) (v1 : Int32) (v2 : Int32) (D : DD) : Option DD :=
  zck (inb v1 100) (if (D (v0 + 26) (ix v1)) = (-9 : Int32) then (zck (inb v1 100) (zck (inb (v2 + (1 : Int32)) 103) (dlt (u2 D (v0 + 32) (ix (v2 + (1 : Int32))) (D (v0 + 28) (ix v1))) (fun D4 => g_X9_layRow_159 k_92 v0 v1 D4)))) else (g_X9_layRow_159 k_92 v0 v1 D))
set_option maxRecDepth 100000 in
set_option maxHeartbeats 4000000 in
theorem G_X9_layRow_134 {n : Nat} {K : Nat → Nat × Nat} {R : Nat → Nat → Option Nat} (k_92 : Nat → Int32 → DD → Option DD) (f_92 : Nat → Int32 → Mm → Option (Unit × Mm)) (hk_92 : ∀ (v0 : Nat) (v1 : Int32) (D : DD) (hv0 : isX9 n K R v0), f_92 v0 v1 ((n, K, R, D) : Mm) = (k_92 v0 v1 D).map (lV n K R)) (v0 : Nat) (v1 : Int32) (v2 : Int32) (D : DD) (hv0 : isX9 n K R v0) : f_X9_layRow_134 f_92 v0 v1 v2 ((n, K, R, D) : Mm) = (g_X9_layRow_134 k_92 v0 v1 v2 D).map (lV n K R) := by
  unfold f_X9_layRow_134 g_X9_layRow_134
  refine z_ko (X9_o hv0) ?_
  refine z_rb (X9_r32 hv0) ?_
  refine z_ka (X9_a32 hv0) (fun _ => ?_)
  refine z_if (fun _ => ?_) (fun _ => ?_)
  ·
    refine z_rb (X9_r40 hv0) ?_
    refine z_rb (X9_r34 hv0) ?_
    refine z_ka (X9_a34 hv0) (fun _ => ?_)
    refine z_ka (X9_a40 hv0) (fun _ => ?_)
    refine z_lt rfl (fun D4 => ?_)
    exact G_X9_layRow_159 _ _ hk_92 _ _ _ hv0
  ·
    exact G_X9_layRow_159 _ _ hk_92 _ _ _ hv0
set_option maxRecDepth 100000 in
def g_X9_layRow_92 : Nat → Nat → Int32 → DD → Option DD
  | 0, _, _, _ => none
  | n + 1, v0, v1, D =>
    if (D v0 36) ≤ v1 then (some D) else (zck (inb v1 100) (pcb (g_X9_placeOf v0 (D (v0 + 23) (ix v1)) D) (fun r5 => zck (inb v1 100) (if (D (v0 + 25) (ix v1)) = (-9 : Int32) then (zck (inb v1 100) (zck (inb r5 103) (dlt (u2 D (v0 + 32) (ix r5) (D (v0 + 27) (ix v1))) (fun D7 => g_X9_layRow_134 (g_X9_layRow_92 n) v0 v1 r5 D7)))) else (g_X9_layRow_134 (g_X9_layRow_92 n) v0 v1 r5 D)))))
set_option maxRecDepth 100000 in
set_option maxHeartbeats 4000000 in
theorem G_X9_layRow_92 {n : Nat} {K : Nat → Nat × Nat} {R : Nat → Nat → Option Nat} : ∀ (N : Nat) (v0 : Nat) (v1 : Int32) (D : DD) (hv0 : isX9 n K R v0), f_X9_layRow_92 N v0 v1 ((n, K, R, D) : Mm) = (g_X9_layRow_92 N v0 v1 D).map (lV n K R) := by
  intro N
  induction N with
  | zero => intros; rfl
  | succ N ih =>
    intro v0 v1 D hv0
    unfold f_X9_layRow_92 g_X9_layRow_92
    refine z_ko (X9_o hv0) ?_
    refine z_if (fun _ => ?_) (fun _ => ?_)
    ·
      rfl
    ·
      refine z_rb (X9_r29 hv0) ?_
      refine z_ka (X9_a29 hv0) (fun _ => ?_)
      refine z_cP (G_X9_placeOf _ _ _ hv0) (fun r5 he6 => ?_)
      refine z_ko (X9_o hv0) ?_
      refine z_rb (X9_r31 hv0) ?_
      refine z_ka (X9_a31 hv0) (fun _ => ?_)
      refine z_if (fun _ => ?_) (fun _ => ?_)
      ·
        refine z_rb (X9_r40 hv0) ?_
        refine z_rb (X9_r33 hv0) ?_
        refine z_ka (X9_a33 hv0) (fun _ => ?_)
        refine z_ka (X9_a40 hv0) (fun _ => ?_)
        refine z_lt rfl (fun D7 => ?_)
        exact G_X9_layRow_134 _ _ ih _ _ _ _ hv0
      ·
        exact G_X9_layRow_134 _ _ ih _ _ _ _ hv0
set_option maxRecDepth 100000 in
def g_X9_layRow_17 : Nat → Nat → Int32 → DD → Option DD
  | 0, _, _, _ => none
  | n + 1, v0, v1, D =>
    if (100 : Int32) ≤ v1 then (g_X9_layRow_92 1000 v0 (0 : Int32) D) else (g_X9_layRow_25 (g_X9_layRow_17 n) 1000 v0 v1 (0 : Int32) D)
set_option maxRecDepth 100000 in
set_option maxHeartbeats 4000000 in
theorem G_X9_layRow_17 {n : Nat} {K : Nat → Nat × Nat} {R : Nat → Nat → Option Nat} : ∀ (N : Nat) (v0 : Nat) (v1 : Int32) (D : DD) (hv0 : isX9 n K R v0), f_X9_layRow_17 N v0 v1 ((n, K, R, D) : Mm) = (g_X9_layRow_17 N v0 v1 D).map (lV n K R) := by
  intro N
  induction N with
  | zero => intros; rfl
  | succ N ih =>
    intro v0 v1 D hv0
    unfold f_X9_layRow_17 g_X9_layRow_17
    refine z_if (fun _ => ?_) (fun _ => ?_)
    ·
      exact G_X9_layRow_92 1000 _ _ _ hv0
    ·
      exact G_X9_layRow_25 _ _ ih 1000 _ _ _ _ hv0
set_option maxRecDepth 100000 in
def g_X9_layRow (v0 : Nat) (D : DD) : Option DD :=
  dlt (u2 D v0 41 (0 : Int32)) (fun D8 => zck (inb (0 : Int32) 103) (dlt (u2 D8 (v0 + 32) (ix (0 : Int32)) (D8 v0 37)) (fun D9 => g_X9_layRow_17 1000 v0 (0 : Int32) D9)))
set_option maxRecDepth 100000 in
set_option maxHeartbeats 4000000 in
theorem G_X9_layRow {n : Nat} {K : Nat → Nat × Nat} {R : Nat → Nat → Option Nat} (v0 : Nat) (D : DD) (hv0 : isX9 n K R v0) : f_X9_layRow v0 ((n, K, R, D) : Mm) = (g_X9_layRow v0 D).map (lV n K R) := by
  unfold f_X9_layRow g_X9_layRow
  refine z_ko (X9_o hv0) ?_
  refine z_lt rfl (fun D8 => ?_)
  refine z_rb (X9_r40 hv0) ?_
  refine z_ka (X9_a40 hv0) (fun _ => ?_)
  refine z_lt rfl (fun D9 => ?_)
  exact G_X9_layRow_17 1000 _ _ _ hv0
set_option maxRecDepth 100000 in
def g_X9_found_88 (k_33 : Nat → Int32 → Int32 → Int32 → Int32 → Int32 → DD → Option (Int32 × DD)) (v0 : Nat) (v1 : Int32) (v2 : Int32) (v3 : Int32) (v4 : Int32) (v5 : Int32) (D : DD) : Option (Int32 × DD) :=
  k_33 v0 v1 v2 v3 v4 (v5 + (1 : Int32)) D
set_option maxRecDepth 100000 in
set_option maxHeartbeats 4000000 in
theorem G_X9_found_88 {n : Nat} {K : Nat → Nat × Nat} {R : Nat → Nat → Option Nat} (k_33 : Nat → Int32 → Int32 → Int32 → Int32 → Int32 → DD → Option (Int32 × DD)) (f_33 : Nat → Int32 → Int32 → Int32 → Int32 → Int32 → Mm → Option (Int32 × Mm)) (hk_33 : ∀ (v0 : Nat) (v1 : Int32) (v2 : Int32) (v3 : Int32) (v4 : Int32) (v5 : Int32) (D : DD) (hv0 : isX9 n K R v0), f_33 v0 v1 v2 v3 v4 v5 ((n, K, R, D) : Mm) = (k_33 v0 v1 v2 v3 v4 v5 D).map (lS n K R)) (v0 : Nat) (v1 : Int32) (v2 : Int32) (v3 : Int32) (v4 : Int32) (v5 : Int32) (D : DD) (hv0 : isX9 n K R v0) : f_X9_found_88 f_33 v0 v1 v2 v3 v4 v5 ((n, K, R, D) : Mm) = (g_X9_found_88 k_33 v0 v1 v2 v3 v4 v5 D).map (lS n K R) := by
  unfold f_X9_found_88 g_X9_found_88
  exact hk_33 _ _ _ _ _ _ _ hv0
set_option maxRecDepth 100000 in
def g_X9_found_33 : Nat → Nat → Int32 → Int32 → Int32 → Int32 → Int32 → DD → Option (Int32 × DD)
  | 0, _, _, _, _, _, _, _ => none
  | n + 1, v0, v1, v2, v3, v4, v5, D =>
    if (D v0 41) ≤ v5 then (some ((-9 : Int32), D)) else (zck (inb v5 102) (pcb (g_X9_in (((D (v0 + 30) (ix v5))).toInt64) ((v1).toInt64) ((v2).toInt64)) (fun r1 => if r1 = 0 then (g_X9_found_88 (g_X9_found_33 n) v0 v1 v2 v3 v4 v5 D) else (if v4 = v3 then (zck (inb v5 102) (zck (inb v5 102) (some ((((100 : Int32) * (D (v0 + 30) (ix v5))) + (D (v0 + 31) (ix v5))), D)))) else (g_X9_found_88 (g_X9_found_33 n) v0 v1 v2 v3 (v4 + (1 : Int32)) v5 D)))))
set_option maxRecDepth 100000 in
set_option maxHeartbeats 4000000 in
theorem G_X9_found_33 {n : Nat} {K : Nat → Nat × Nat} {R : Nat → Nat → Option Nat} : ∀ (N : Nat) (v0 : Nat) (v1 : Int32) (v2 : Int32) (v3 : Int32) (v4 : Int32) (v5 : Int32) (D : DD) (hv0 : isX9 n K R v0), f_X9_found_33 N v0 v1 v2 v3 v4 v5 ((n, K, R, D) : Mm) = (g_X9_found_33 N v0 v1 v2 v3 v4 v5 D).map (lS n K R) := by
  intro N
  induction N with
  | zero => intros; rfl
  | succ N ih =>
    intro v0 v1 v2 v3 v4 v5 D hv0
    unfold f_X9_found_33 g_X9_found_33
    refine z_ko (X9_o hv0) ?_
    refine z_if (fun _ => ?_) (fun _ => ?_)
    ·
      rfl
    ·
      refine z_rb (X9_r38 hv0) ?_
      refine z_ka (X9_a38 hv0) (fun _ => ?_)
      refine z_cP (G_X9_in _ _ _ _) (fun r1 he2 => ?_)
      refine z_if (fun _ => ?_) (fun _ => ?_)
      ·
        exact G_X9_found_88 _ _ ih _ _ _ _ _ _ _ hv0
      ·
        refine z_if (fun _ => ?_) (fun _ => ?_)
        ·
          refine z_ko (X9_o hv0) ?_
          refine z_rb (X9_r38 hv0) ?_
          refine z_ka (X9_a38 hv0) (fun _ => ?_)
          refine z_rb (X9_r39 hv0) ?_
          refine z_ka (X9_a39 hv0) (fun _ => ?_)
          rfl
        ·
          exact G_X9_found_88 _ _ ih _ _ _ _ _ _ _ hv0
set_option maxRecDepth 100000 in
def g_X9_found (v0 : Nat) (v1 : Int32) (v2 : Int32) (v3 : Int32) (D : DD) : Option (Int32 × DD) :=
  pcb (g_X9_isRange v1 v2) (fun r3 => if r3 = 0 then (some ((-2 : Int32), D)) else (dcb (g_X9_reasonOf v0 v1 v2 D) (fun r5 D6 => if r5 = 0 then (vcb (g_X9_layRow v0 D6) (fun D8 => g_X9_found_33 1000 v0 v1 v2 v3 (0 : Int32) (0 : Int32) D8)) else (some ((-3 : Int32), D6)))))
set_option maxRecDepth 100000 in
set_option maxHeartbeats 4000000 in
theorem G_X9_found {n : Nat} {K : Nat → Nat × Nat} {R : Nat → Nat → Option Nat} (v0 : Nat) (v1 : Int32) (v2 : Int32) (v3 : Int32) (D : DD) (hv0 : isX9 n K R v0) : f_X9_found v0 v1 v2 v3 ((n, K, R, D) : Mm) = (g_X9_found v0 v1 v2 v3 D).map (lS n K R) := by
  unfold f_X9_found g_X9_found
  refine z_cP (G_X9_isRange _ _ _) (fun r3 he4 => ?_)
  refine z_if (fun _ => ?_) (fun _ => ?_)
  ·
    rfl
  ·
    refine z_ko (X9_o hv0) ?_
    refine z_cS (G_X9_reasonOf _ _ _ _ hv0) (fun r5 D6 => ?_)
    refine z_if (fun _ => ?_) (fun _ => ?_)
    ·
      refine z_ko (X9_o hv0) ?_
      refine z_cV (G_X9_layRow _ _ hv0) (fun _ D8 => ?_)
      exact G_X9_found_33 1000 _ _ _ _ _ _ _ hv0
    ·
      rfl
set_option maxRecDepth 100000 in
def g_X9_takeOut_48 : Nat → Nat → Int32 → DD → Option DD
  | 0, _, _, _ => none
  | n + 1, v0, v2, D =>
    if (D v0 41) ≤ v2 then (dlt (u2 D v0 41 ((D v0 41) - (1 : Int32))) (fun D1 => some D1)) else (zck (inb (v2 + (1 : Int32)) 103) (zck (inb v2 103) (dlt (u2 D (v0 + 32) (ix v2) (D (v0 + 32) (ix (v2 + (1 : Int32))))) (fun D2 => g_X9_takeOut_48 n v0 (v2 + (1 : Int32)) D2))))
set_option maxRecDepth 100000 in
set_option maxHeartbeats 4000000 in
theorem G_X9_takeOut_48 {n : Nat} {K : Nat → Nat × Nat} {R : Nat → Nat → Option Nat} : ∀ (N : Nat) (v0 : Nat) (v2 : Int32) (D : DD) (hv0 : isX9 n K R v0), f_X9_takeOut_48 N v0 v2 ((n, K, R, D) : Mm) = (g_X9_takeOut_48 N v0 v2 D).map (lV n K R) := by
  intro N
  induction N with
  | zero => intros; rfl
  | succ N ih =>
    intro v0 v2 D hv0
    unfold f_X9_takeOut_48 g_X9_takeOut_48
    refine z_ko (X9_o hv0) ?_
    refine z_if (fun _ => ?_) (fun _ => ?_)
    ·
      refine z_lt rfl (fun D1 => ?_)
      rfl
    ·
      refine z_rb (X9_r40 hv0) ?_
      refine z_ka (X9_a40 hv0) (fun _ => ?_)
      refine z_ka (X9_a40 hv0) (fun _ => ?_)
      refine z_lt rfl (fun D2 => ?_)
      exact ih _ _ _ hv0
set_option maxRecDepth 100000 in
def g_X9_takeOut_2 : Nat → Nat → Int32 → Int32 → DD → Option DD
  | 0, _, _, _, _ => none
  | n + 1, v0, v1, v2, D =>
    if ((D v0 41) - (1 : Int32)) ≤ v2 then (g_X9_takeOut_48 1000 v0 v1 D) else (zck (inb (v2 + (1 : Int32)) 102) (zck (inb v2 102) (dlt (u2 D (v0 + 30) (ix v2) (D (v0 + 30) (ix (v2 + (1 : Int32))))) (fun D3 => zck (inb (v2 + (1 : Int32)) 102) (zck (inb v2 102) (dlt (u2 D3 (v0 + 31) (ix v2) (D3 (v0 + 31) (ix (v2 + (1 : Int32))))) (fun D4 => g_X9_takeOut_2 n v0 v1 (v2 + (1 : Int32)) D4)))))))
set_option maxRecDepth 100000 in
set_option maxHeartbeats 4000000 in
theorem G_X9_takeOut_2 {n : Nat} {K : Nat → Nat × Nat} {R : Nat → Nat → Option Nat} : ∀ (N : Nat) (v0 : Nat) (v1 : Int32) (v2 : Int32) (D : DD) (hv0 : isX9 n K R v0), f_X9_takeOut_2 N v0 v1 v2 ((n, K, R, D) : Mm) = (g_X9_takeOut_2 N v0 v1 v2 D).map (lV n K R) := by
  intro N
  induction N with
  | zero => intros; rfl
  | succ N ih =>
    intro v0 v1 v2 D hv0
    unfold f_X9_takeOut_2 g_X9_takeOut_2
    refine z_ko (X9_o hv0) ?_
    refine z_if (fun _ => ?_) (fun _ => ?_)
    ·
      exact G_X9_takeOut_48 1000 _ _ _ hv0
    ·
      refine z_rb (X9_r38 hv0) ?_
      refine z_ka (X9_a38 hv0) (fun _ => ?_)
      refine z_ka (X9_a38 hv0) (fun _ => ?_)
      refine z_lt rfl (fun D3 => ?_)
      refine z_rb (X9_r39 hv0) ?_
      refine z_ka (X9_a39 hv0) (fun _ => ?_)
      refine z_ka (X9_a39 hv0) (fun _ => ?_)
      refine z_lt rfl (fun D4 => ?_)
      exact ih _ _ _ _ hv0
set_option maxRecDepth 100000 in
def g_X9_takeOut (v0 : Nat) (v1 : Int32) (D : DD) : Option DD :=
  g_X9_takeOut_2 1000 v0 v1 v1 D
set_option maxRecDepth 100000 in
set_option maxHeartbeats 4000000 in
theorem G_X9_takeOut {n : Nat} {K : Nat → Nat × Nat} {R : Nat → Nat → Option Nat} (v0 : Nat) (v1 : Int32) (D : DD) (hv0 : isX9 n K R v0) : f_X9_takeOut v0 v1 ((n, K, R, D) : Mm) = (g_X9_takeOut v0 v1 D).map (lV n K R) := by
  unfold f_X9_takeOut g_X9_takeOut
  exact G_X9_takeOut_2 1000 _ _ _ _ hv0
set_option maxRecDepth 100000 in
def g_X9_putIn_84 : Nat → Nat → Int32 → Int32 → Int32 → Int32 → DD → Option DD
  | 0, _, _, _, _, _, _ => none
  | n + 1, v0, v1, v2, v3, v4, D =>
    if v4 ≤ v3 then (zck (inb v3 103) (dlt (u2 D (v0 + 32) (ix v3) (0 : Int32)) (fun D1 => zck (inb v3 102) (dlt (u2 D1 (v0 + 30) (ix v3) v1) (fun D2 => zck (inb v3 102) (dlt (u2 D2 (v0 + 31) (ix v3) v2) (fun D3 => dlt (u2 D3 v0 41 ((D3 v0 41) + (1 : Int32))) (fun D4 => some D4)))))))) else (zck (inb (v4 - (1 : Int32)) 103) (zck (inb v4 103) (dlt (u2 D (v0 + 32) (ix v4) (D (v0 + 32) (ix (v4 - (1 : Int32))))) (fun D5 => g_X9_putIn_84 n v0 v1 v2 v3 (v4 + (-1 : Int32)) D5))))
set_option maxRecDepth 100000 in
set_option maxHeartbeats 4000000 in
theorem G_X9_putIn_84 {n : Nat} {K : Nat → Nat × Nat} {R : Nat → Nat → Option Nat} : ∀ (N : Nat) (v0 : Nat) (v1 : Int32) (v2 : Int32) (v3 : Int32) (v4 : Int32) (D : DD) (hv0 : isX9 n K R v0), f_X9_putIn_84 N v0 v1 v2 v3 v4 ((n, K, R, D) : Mm) = (g_X9_putIn_84 N v0 v1 v2 v3 v4 D).map (lV n K R) := by
  intro N
  induction N with
  | zero => intros; rfl
  | succ N ih =>
    intro v0 v1 v2 v3 v4 D hv0
    unfold f_X9_putIn_84 g_X9_putIn_84
    refine z_if (fun _ => ?_) (fun _ => ?_)
    ·
      refine z_ko (X9_o hv0) ?_
      refine z_rb (X9_r40 hv0) ?_
      refine z_ka (X9_a40 hv0) (fun _ => ?_)
      refine z_lt rfl (fun D1 => ?_)
      refine z_rb (X9_r38 hv0) ?_
      refine z_ka (X9_a38 hv0) (fun _ => ?_)
      refine z_lt rfl (fun D2 => ?_)
      refine z_rb (X9_r39 hv0) ?_
      refine z_ka (X9_a39 hv0) (fun _ => ?_)
      refine z_lt rfl (fun D3 => ?_)
      refine z_lt rfl (fun D4 => ?_)
      rfl
    ·
      refine z_ko (X9_o hv0) ?_
      refine z_rb (X9_r40 hv0) ?_
      refine z_ka (X9_a40 hv0) (fun _ => ?_)
      refine z_ka (X9_a40 hv0) (fun _ => ?_)
      refine z_lt rfl (fun D5 => ?_)
      exact ih _ _ _ _ _ _ hv0
set_option maxRecDepth 100000 in
def g_X9_putIn_32 : Nat → Nat → Int32 → Int32 → Int32 → Int32 → DD → Option DD
  | 0, _, _, _, _, _, _ => none
  | n + 1, v0, v1, v2, v3, v4, D =>
    if v4 ≤ v3 then (g_X9_putIn_84 1000 v0 v1 v2 v3 ((D v0 41) + (1 : Int32)) D) else (zck (inb (v4 - (1 : Int32)) 102) (zck (inb v4 102) (dlt (u2 D (v0 + 30) (ix v4) (D (v0 + 30) (ix (v4 - (1 : Int32))))) (fun D6 => zck (inb (v4 - (1 : Int32)) 102) (zck (inb v4 102) (dlt (u2 D6 (v0 + 31) (ix v4) (D6 (v0 + 31) (ix (v4 - (1 : Int32))))) (fun D7 => g_X9_putIn_32 n v0 v1 v2 v3 (v4 + (-1 : Int32)) D7)))))))
set_option maxRecDepth 100000 in
set_option maxHeartbeats 4000000 in
theorem G_X9_putIn_32 {n : Nat} {K : Nat → Nat × Nat} {R : Nat → Nat → Option Nat} : ∀ (N : Nat) (v0 : Nat) (v1 : Int32) (v2 : Int32) (v3 : Int32) (v4 : Int32) (D : DD) (hv0 : isX9 n K R v0), f_X9_putIn_32 N v0 v1 v2 v3 v4 ((n, K, R, D) : Mm) = (g_X9_putIn_32 N v0 v1 v2 v3 v4 D).map (lV n K R) := by
  intro N
  induction N with
  | zero => intros; rfl
  | succ N ih =>
    intro v0 v1 v2 v3 v4 D hv0
    unfold f_X9_putIn_32 g_X9_putIn_32
    refine z_if (fun _ => ?_) (fun _ => ?_)
    ·
      refine z_ko (X9_o hv0) ?_
      exact G_X9_putIn_84 1000 _ _ _ _ _ _ hv0
    ·
      refine z_ko (X9_o hv0) ?_
      refine z_rb (X9_r38 hv0) ?_
      refine z_ka (X9_a38 hv0) (fun _ => ?_)
      refine z_ka (X9_a38 hv0) (fun _ => ?_)
      refine z_lt rfl (fun D6 => ?_)
      refine z_rb (X9_r39 hv0) ?_
      refine z_ka (X9_a39 hv0) (fun _ => ?_)
      refine z_ka (X9_a39 hv0) (fun _ => ?_)
      refine z_lt rfl (fun D7 => ?_)
      exact ih _ _ _ _ _ _ hv0
set_option maxRecDepth 100000 in
def g_X9_putIn_26 (v0 : Nat) (v1 : Int32) (v2 : Int32) (v3 : Int32) (D : DD) : Option DD :=
  g_X9_putIn_32 1000 v0 v1 v2 v3 (D v0 41) D
set_option maxRecDepth 100000 in
set_option maxHeartbeats 4000000 in
theorem G_X9_putIn_26 {n : Nat} {K : Nat → Nat × Nat} {R : Nat → Nat → Option Nat} (v0 : Nat) (v1 : Int32) (v2 : Int32) (v3 : Int32) (D : DD) (hv0 : isX9 n K R v0) : f_X9_putIn_26 v0 v1 v2 v3 ((n, K, R, D) : Mm) = (g_X9_putIn_26 v0 v1 v2 v3 D).map (lV n K R) := by
  unfold f_X9_putIn_26 g_X9_putIn_26
  refine z_ko (X9_o hv0) ?_
  exact G_X9_putIn_32 1000 _ _ _ _ _ _ hv0
set_option maxRecDepth 100000 in
def g_X9_putIn_2 : Nat → Nat → Int32 → Int32 → Int32 → DD → Option DD
  | 0, _, _, _, _, _ => none
  | n + 1, v0, v1, v2, v3, D =>
    if (D v0 41) ≤ v3 then (g_X9_putIn_26 v0 v1 v2 v3 D) else (zck (inb v3 102) (if v1 ≤ (D (v0 + 30) (ix v3)) then (g_X9_putIn_26 v0 v1 v2 v3 D) else (g_X9_putIn_2 n v0 v1 v2 (v3 + (1 : Int32)) D)))
set_option maxRecDepth 100000 in
set_option maxHeartbeats 4000000 in
theorem G_X9_putIn_2 {n : Nat} {K : Nat → Nat × Nat} {R : Nat → Nat → Option Nat} : ∀ (N : Nat) (v0 : Nat) (v1 : Int32) (v2 : Int32) (v3 : Int32) (D : DD) (hv0 : isX9 n K R v0), f_X9_putIn_2 N v0 v1 v2 v3 ((n, K, R, D) : Mm) = (g_X9_putIn_2 N v0 v1 v2 v3 D).map (lV n K R) := by
  intro N
  induction N with
  | zero => intros; rfl
  | succ N ih =>
    intro v0 v1 v2 v3 D hv0
    unfold f_X9_putIn_2 g_X9_putIn_2
    refine z_ko (X9_o hv0) ?_
    refine z_if (fun _ => ?_) (fun _ => ?_)
    ·
      exact G_X9_putIn_26 _ _ _ _ _ hv0
    ·
      refine z_rb (X9_r38 hv0) ?_
      refine z_ka (X9_a38 hv0) (fun _ => ?_)
      refine z_if (fun _ => ?_) (fun _ => ?_)
      ·
        exact G_X9_putIn_26 _ _ _ _ _ hv0
      ·
        exact ih _ _ _ _ _ hv0
set_option maxRecDepth 100000 in
def g_X9_putIn (v0 : Nat) (v1 : Int32) (v2 : Int32) (D : DD) : Option DD :=
  g_X9_putIn_2 1000 v0 v1 v2 (0 : Int32) D
set_option maxRecDepth 100000 in
set_option maxHeartbeats 4000000 in
theorem G_X9_putIn {n : Nat} {K : Nat → Nat × Nat} {R : Nat → Nat → Option Nat} (v0 : Nat) (v1 : Int32) (v2 : Int32) (D : DD) (hv0 : isX9 n K R v0) : f_X9_putIn v0 v1 v2 ((n, K, R, D) : Mm) = (g_X9_putIn v0 v1 v2 D).map (lV n K R) := by
  unfold f_X9_putIn g_X9_putIn
  exact G_X9_putIn_2 1000 _ _ _ _ _ hv0
set_option maxRecDepth 100000 in
def g_X9_uppermostOf_43 (k_6 : Nat → Int32 → Int32 → Int32 → DD → Option Int32) (v0 : Nat) (v2 : Int32) (v4 : Int32) (w0 : Int32) (D : DD) : Option Int32 :=
  k_6 v0 v2 w0 (v4 + (1 : Int32)) D
set_option maxRecDepth 100000 in
set_option maxHeartbeats 4000000 in
theorem G_X9_uppermostOf_43 {n : Nat} {K : Nat → Nat × Nat} {R : Nat → Nat → Option Nat} (k_6 : Nat → Int32 → Int32 → Int32 → DD → Option Int32) (f_6 : Nat → Int32 → Int32 → Int32 → Mm → Option (Int32 × Mm)) (hk_6 : ∀ (v0 : Nat) (v2 : Int32) (v3 : Int32) (v4 : Int32) (D : DD) (hv0 : isX9 n K R v0), f_6 v0 v2 v3 v4 ((n, K, R, D) : Mm) = (k_6 v0 v2 v3 v4 D).map (lP n K R D)) (v0 : Nat) (v2 : Int32) (v4 : Int32) (w0 : Int32) (D : DD) (hv0 : isX9 n K R v0) : f_X9_uppermostOf_43 f_6 v0 v2 v4 w0 ((n, K, R, D) : Mm) = (g_X9_uppermostOf_43 k_6 v0 v2 v4 w0 D).map (lP n K R D) := by
  unfold f_X9_uppermostOf_43 g_X9_uppermostOf_43
  exact hk_6 _ _ _ _ _ hv0
set_option maxRecDepth 100000 in
def g_X9_uppermostOf_37 (k_6 : Nat → Int32 → Int32 → Int32 → DD → Option Int32) (v0 : Nat) (v2 : Int32) (v4 : Int32) (D : DD) : Option Int32 :=
  g_X9_uppermostOf_43 k_6 v0 v2 v4 v4 D
set_option maxRecDepth 100000 in
set_option maxHeartbeats 4000000 in
theorem G_X9_uppermostOf_37 {n : Nat} {K : Nat → Nat × Nat} {R : Nat → Nat → Option Nat} (k_6 : Nat → Int32 → Int32 → Int32 → DD → Option Int32) (f_6 : Nat → Int32 → Int32 → Int32 → Mm → Option (Int32 × Mm)) (hk_6 : ∀ (v0 : Nat) (v2 : Int32) (v3 : Int32) (v4 : Int32) (D : DD) (hv0 : isX9 n K R v0), f_6 v0 v2 v3 v4 ((n, K, R, D) : Mm) = (k_6 v0 v2 v3 v4 D).map (lP n K R D)) (v0 : Nat) (v2 : Int32) (v4 : Int32) (D : DD) (hv0 : isX9 n K R v0) : f_X9_uppermostOf_37 f_6 v0 v2 v4 ((n, K, R, D) : Mm) = (g_X9_uppermostOf_37 k_6 v0 v2 v4 D).map (lP n K R D) := by
  unfold f_X9_uppermostOf_37 g_X9_uppermostOf_37
  exact G_X9_uppermostOf_43 _ _ hk_6 _ _ _ _ _ hv0
set_option maxRecDepth 100000 in
def g_X9_uppermostOf_6 : Nat → Nat → Int32 → Int32 → Int32 → DD → Option Int32
  | 0, _, _, _, _, _ => none
  | n + 1, v0, v2, v3, v4, D =>
    if v2 < v4 then (some v3) else (if v3 = (-9 : Int32) then (g_X9_uppermostOf_37 (g_X9_uppermostOf_6 n) v0 v2 v4 D) else (zck (inb v4 102) (zck (inb v3 102) (pcb (g_X9_isAbove (D (v0 + 30) (ix v4)) (D (v0 + 30) (ix v3))) (fun r1 => if r1 = 0 then (g_X9_uppermostOf_43 (g_X9_uppermostOf_6 n) v0 v2 v4 v3 D) else (g_X9_uppermostOf_37 (g_X9_uppermostOf_6 n) v0 v2 v4 D))))))
set_option maxRecDepth 100000 in
set_option maxHeartbeats 4000000 in
theorem G_X9_uppermostOf_6 {n : Nat} {K : Nat → Nat × Nat} {R : Nat → Nat → Option Nat} : ∀ (N : Nat) (v0 : Nat) (v2 : Int32) (v3 : Int32) (v4 : Int32) (D : DD) (hv0 : isX9 n K R v0), f_X9_uppermostOf_6 N v0 v2 v3 v4 ((n, K, R, D) : Mm) = (g_X9_uppermostOf_6 N v0 v2 v3 v4 D).map (lP n K R D) := by
  intro N
  induction N with
  | zero => intros; rfl
  | succ N ih =>
    intro v0 v2 v3 v4 D hv0
    unfold f_X9_uppermostOf_6 g_X9_uppermostOf_6
    refine z_if (fun _ => ?_) (fun _ => ?_)
    ·
      rfl
    ·
      refine z_if (fun _ => ?_) (fun _ => ?_)
      ·
        exact G_X9_uppermostOf_37 _ _ ih _ _ _ _ hv0
      ·
        refine z_ko (X9_o hv0) ?_
        refine z_rb (X9_r38 hv0) ?_
        refine z_ka (X9_a38 hv0) (fun _ => ?_)
        refine z_ka (X9_a38 hv0) (fun _ => ?_)
        refine z_cP (G_X9_isAbove _ _ _) (fun r1 he2 => ?_)
        refine z_if (fun _ => ?_) (fun _ => ?_)
        ·
          exact G_X9_uppermostOf_43 _ _ ih _ _ _ _ _ hv0
        ·
          exact G_X9_uppermostOf_37 _ _ ih _ _ _ _ hv0
set_option maxRecDepth 100000 in
def g_X9_uppermostOf (v0 : Nat) (v1 : Int32) (v2 : Int32) (D : DD) : Option Int32 :=
  g_X9_uppermostOf_6 1000 v0 v2 (-9 : Int32) v1 D
set_option maxRecDepth 100000 in
set_option maxHeartbeats 4000000 in
theorem G_X9_uppermostOf {n : Nat} {K : Nat → Nat × Nat} {R : Nat → Nat → Option Nat} (v0 : Nat) (v1 : Int32) (v2 : Int32) (D : DD) (hv0 : isX9 n K R v0) : f_X9_uppermostOf v0 v1 v2 ((n, K, R, D) : Mm) = (g_X9_uppermostOf v0 v1 v2 D).map (lP n K R D) := by
  unfold f_X9_uppermostOf g_X9_uppermostOf
  exact G_X9_uppermostOf_6 1000 _ _ _ _ _ hv0
set_option maxRecDepth 100000 in
def g_X9_hanging (v0 : Nat) (v1 : Int32) (D : DD) : Option Int32 :=
  if v1 < 0 then (zck (inb ((-1000 : Int32) - v1) 103) (some (D (v0 + 32) (ix ((-1000 : Int32) - v1))))) else (zck (inb v1 102) (some (D (v0 + 36) (ix v1))))
set_option maxRecDepth 100000 in
set_option maxHeartbeats 4000000 in
theorem G_X9_hanging {n : Nat} {K : Nat → Nat × Nat} {R : Nat → Nat → Option Nat} (v0 : Nat) (v1 : Int32) (D : DD) (hv0 : isX9 n K R v0) : f_X9_hanging v0 v1 ((n, K, R, D) : Mm) = (g_X9_hanging v0 v1 D).map (lP n K R D) := by
  unfold f_X9_hanging g_X9_hanging
  refine z_if (fun _ => ?_) (fun _ => ?_)
  ·
    refine z_ko (X9_o hv0) ?_
    refine z_rb (X9_r40 hv0) ?_
    refine z_ka (X9_a40 hv0) (fun _ => ?_)
    rfl
  ·
    refine z_ko (X9_o hv0) ?_
    refine z_rb (X9_r45 hv0) ?_
    refine z_ka (X9_a45 hv0) (fun _ => ?_)
    rfl
set_option maxRecDepth 100000 in
def g_X9_rowDigest_191 (k_21 : Nat → Int32 → DD → Option (Int32 × DD)) (v0 : Nat) (v1 : Int32) (D : DD) : Option (Int32 × DD) :=
  k_21 v0 v1 D
set_option maxRecDepth 100000 in
set_option maxHeartbeats 4000000 in
theorem G_X9_rowDigest_191 {n : Nat} {K : Nat → Nat × Nat} {R : Nat → Nat → Option Nat} (k_21 : Nat → Int32 → DD → Option (Int32 × DD)) (f_21 : Nat → Int32 → Mm → Option (Int32 × Mm)) (hk_21 : ∀ (v0 : Nat) (v1 : Int32) (D : DD) (hv0 : isX9 n K R v0), f_21 v0 v1 ((n, K, R, D) : Mm) = (k_21 v0 v1 D).map (lS n K R)) (v0 : Nat) (v1 : Int32) (D : DD) (hv0 : isX9 n K R v0) : f_X9_rowDigest_191 f_21 v0 v1 ((n, K, R, D) : Mm) = (g_X9_rowDigest_191 k_21 v0 v1 D).map (lS n K R) := by
  unfold f_X9_rowDigest_191 g_X9_rowDigest_191
  exact hk_21 _ _ _ hv0
set_option maxRecDepth 100000 in
def g_X9_rowDigest_169 (k_21 : Nat → Int32 → DD → Option (Int32 × DD)) (v0 : Nat) (v1 : Int32) (v4 : Int32) (v5 : Int32) (v7 : Int32) (D : DD) : Option (Int32 × DD) :=
  if v4 = (-9 : Int32) then (g_X9_rowDigest_191 k_21 v0 v1 D) else (if v5 = (1 : Int32) then (zck (inb v4 102) (dlt (u2 D (v0 + 35) (ix v4) v7) (fun D1 => g_X9_rowDigest_191 k_21 v0 v1 D1))) else (g_X9_rowDigest_191 k_21 v0 v1 D))
set_option maxRecDepth 100000 in
set_option maxHeartbeats 4000000 in
theorem G_X9_rowDigest_169 {n : Nat} {K : Nat → Nat × Nat} {R : Nat → Nat → Option Nat} (k_21 : Nat → Int32 → DD → Option (Int32 × DD)) (f_21 : Nat → Int32 → Mm → Option (Int32 × Mm)) (hk_21 : ∀ (v0 : Nat) (v1 : Int32) (D : DD) (hv0 : isX9 n K R v0), f_21 v0 v1 ((n, K, R, D) : Mm) = (k_21 v0 v1 D).map (lS n K R)) (v0 : Nat) (v1 : Int32) (v4 : Int32) (v5 : Int32) (v7 : Int32) (D : DD) (hv0 : isX9 n K R v0) : f_X9_rowDigest_169 f_21 v0 v1 v4 v5 v7 ((n, K, R, D) : Mm) = (g_X9_rowDigest_169 k_21 v0 v1 v4 v5 v7 D).map (lS n K R) := by
  unfold f_X9_rowDigest_169 g_X9_rowDigest_169
  refine z_if (fun _ => ?_) (fun _ => ?_)
  ·
    exact G_X9_rowDigest_191 _ _ hk_21 _ _ _ hv0
  ·
    refine z_if (fun _ => ?_) (fun _ => ?_)
    ·
      refine z_ko (X9_o hv0) ?_
      refine z_rb (X9_r44 hv0) ?_
      refine z_ka (X9_a44 hv0) (fun _ => ?_)
      refine z_lt rfl (fun D1 => ?_)
      exact G_X9_rowDigest_191 _ _ hk_21 _ _ _ hv0
    ·
      exact G_X9_rowDigest_191 _ _ hk_21 _ _ _ hv0
set_option maxRecDepth 100000 in
def g_X9_rowDigest_146 (k_21 : Nat → Int32 → DD → Option (Int32 × DD)) (v0 : Nat) (v1 : Int32) (v4 : Int32) (v5 : Int32) (w0 : Int32) (D : DD) : Option (Int32 × DD) :=
  if v4 = (-9 : Int32) then (g_X9_rowDigest_169 k_21 v0 v1 v4 v5 w0 D) else (if v5 = 0 then (zck (inb v4 102) (dlt (u2 D (v0 + 34) (ix v4) w0) (fun D2 => g_X9_rowDigest_169 k_21 v0 v1 v4 v5 w0 D2))) else (g_X9_rowDigest_169 k_21 v0 v1 v4 v5 w0 D))
set_option maxRecDepth 100000 in
set_option maxHeartbeats 4000000 in
theorem G_X9_rowDigest_146 {n : Nat} {K : Nat → Nat × Nat} {R : Nat → Nat → Option Nat} (k_21 : Nat → Int32 → DD → Option (Int32 × DD)) (f_21 : Nat → Int32 → Mm → Option (Int32 × Mm)) (hk_21 : ∀ (v0 : Nat) (v1 : Int32) (D : DD) (hv0 : isX9 n K R v0), f_21 v0 v1 ((n, K, R, D) : Mm) = (k_21 v0 v1 D).map (lS n K R)) (v0 : Nat) (v1 : Int32) (v4 : Int32) (v5 : Int32) (w0 : Int32) (D : DD) (hv0 : isX9 n K R v0) : f_X9_rowDigest_146 f_21 v0 v1 v4 v5 w0 ((n, K, R, D) : Mm) = (g_X9_rowDigest_146 k_21 v0 v1 v4 v5 w0 D).map (lS n K R) := by
  unfold f_X9_rowDigest_146 g_X9_rowDigest_146
  refine z_if (fun _ => ?_) (fun _ => ?_)
  ·
    exact G_X9_rowDigest_169 _ _ hk_21 _ _ _ _ _ _ hv0
  ·
    refine z_if (fun _ => ?_) (fun _ => ?_)
    ·
      refine z_ko (X9_o hv0) ?_
      refine z_rb (X9_r43 hv0) ?_
      refine z_ka (X9_a43 hv0) (fun _ => ?_)
      refine z_lt rfl (fun D2 => ?_)
      exact G_X9_rowDigest_169 _ _ hk_21 _ _ _ _ _ _ hv0
    ·
      exact G_X9_rowDigest_169 _ _ hk_21 _ _ _ _ _ _ hv0
set_option maxRecDepth 100000 in
def g_X9_rowDigest_128 (k_21 : Nat → Int32 → DD → Option (Int32 × DD)) (v0 : Nat) (v1 : Int32) (v2 : Int32) (v4 : Int32) (v5 : Int32) (v6 : Int32) (D : DD) : Option (Int32 × DD) :=
  if v6 = (-9 : Int32) then (g_X9_rowDigest_146 k_21 v0 v1 v4 v5 ((-1000 : Int32) - v2) D) else (g_X9_rowDigest_146 k_21 v0 v1 v4 v5 (v1 - (1 : Int32)) D)
set_option maxRecDepth 100000 in
set_option maxHeartbeats 4000000 in
theorem G_X9_rowDigest_128 {n : Nat} {K : Nat → Nat × Nat} {R : Nat → Nat → Option Nat} (k_21 : Nat → Int32 → DD → Option (Int32 × DD)) (f_21 : Nat → Int32 → Mm → Option (Int32 × Mm)) (hk_21 : ∀ (v0 : Nat) (v1 : Int32) (D : DD) (hv0 : isX9 n K R v0), f_21 v0 v1 ((n, K, R, D) : Mm) = (k_21 v0 v1 D).map (lS n K R)) (v0 : Nat) (v1 : Int32) (v2 : Int32) (v4 : Int32) (v5 : Int32) (v6 : Int32) (D : DD) (hv0 : isX9 n K R v0) : f_X9_rowDigest_128 f_21 v0 v1 v2 v4 v5 v6 ((n, K, R, D) : Mm) = (g_X9_rowDigest_128 k_21 v0 v1 v2 v4 v5 v6 D).map (lS n K R) := by
  unfold f_X9_rowDigest_128 g_X9_rowDigest_128
  refine z_if (fun _ => ?_) (fun _ => ?_)
  ·
    exact G_X9_rowDigest_146 _ _ hk_21 _ _ _ _ _ _ hv0
  ·
    exact G_X9_rowDigest_146 _ _ hk_21 _ _ _ _ _ _ hv0
set_option maxRecDepth 100000 in
def g_X9_rowDigest_198 : Nat → Nat → Int32 → Int32 → DD → Option (Int32 × DD)
  | 0, _, _, _, _ => none
  | n + 1, v0, v1, v2, D =>
    if v2 < 0 then (if v1 = 0 then (zck (inb (0 : Int32) 103) (some ((D (v0 + 32) (ix (0 : Int32))), D))) else (zck (inb (0 : Int32) 102) (some ((D (v0 + 36) (ix (0 : Int32))), D)))) else (zck (inb v2 102) (zck (inb (D (v0 + 33) (ix v2)) 102) (zck (inb v2 102) (zck (inb (D (v0 + 33) (ix v2)) 102) (zck (inb v2 102) (pcb (g_X9_hanging v0 (D (v0 + 34) (ix v2)) D) (fun r3 => zck (inb v2 102) (pcb (g_X9_hanging v0 (D (v0 + 35) (ix v2)) D) (fun r5 => pcb (g_X9_digestOf (D (v0 + 30) (ix (D (v0 + 33) (ix v2)))) (D (v0 + 31) (ix (D (v0 + 33) (ix v2)))) r3 r5) (fun r7 => zck (inb v2 102) (dlt (u2 D (v0 + 36) (ix v2) r7) (fun D9 => g_X9_rowDigest_198 n v0 v1 (v2 + (-1 : Int32)) D9))))))))))))
set_option maxRecDepth 100000 in
set_option maxHeartbeats 4000000 in
theorem G_X9_rowDigest_198 {n : Nat} {K : Nat → Nat × Nat} {R : Nat → Nat → Option Nat} : ∀ (N : Nat) (v0 : Nat) (v1 : Int32) (v2 : Int32) (D : DD) (hv0 : isX9 n K R v0), f_X9_rowDigest_198 N v0 v1 v2 ((n, K, R, D) : Mm) = (g_X9_rowDigest_198 N v0 v1 v2 D).map (lS n K R) := by
  intro N
  induction N with
  | zero => intros; rfl
  | succ N ih =>
    intro v0 v1 v2 D hv0
    unfold f_X9_rowDigest_198 g_X9_rowDigest_198
    refine z_if (fun _ => ?_) (fun _ => ?_)
    ·
      refine z_if (fun _ => ?_) (fun _ => ?_)
      ·
        refine z_ko (X9_o hv0) ?_
        refine z_rb (X9_r40 hv0) ?_
        refine z_ka (X9_a40 hv0) (fun _ => ?_)
        rfl
      ·
        refine z_ko (X9_o hv0) ?_
        refine z_rb (X9_r45 hv0) ?_
        refine z_ka (X9_a45 hv0) (fun _ => ?_)
        rfl
    ·
      refine z_ko (X9_o hv0) ?_
      refine z_rb (X9_r45 hv0) ?_
      refine z_rb (X9_r38 hv0) ?_
      refine z_rb (X9_r42 hv0) ?_
      refine z_ka (X9_a42 hv0) (fun _ => ?_)
      refine z_ka (X9_a38 hv0) (fun _ => ?_)
      refine z_rb (X9_r39 hv0) ?_
      refine z_ka (X9_a42 hv0) (fun _ => ?_)
      refine z_ka (X9_a39 hv0) (fun _ => ?_)
      refine z_rb (X9_r43 hv0) ?_
      refine z_ka (X9_a43 hv0) (fun _ => ?_)
      refine z_cP (G_X9_hanging _ _ _ hv0) (fun r3 he4 => ?_)
      refine z_ko (X9_o hv0) ?_
      refine z_rb (X9_r44 hv0) ?_
      refine z_ka (X9_a44 hv0) (fun _ => ?_)
      refine z_cP (G_X9_hanging _ _ _ hv0) (fun r5 he6 => ?_)
      refine z_cP (G_X9_digestOf _ _ _ _ _) (fun r7 he8 => ?_)
      refine z_ka (X9_a45 hv0) (fun _ => ?_)
      refine z_lt rfl (fun D9 => ?_)
      exact ih _ _ _ _ hv0
set_option maxRecDepth 100000 in
def g_X9_rowDigest_21 : Nat → Nat → Int32 → DD → Option (Int32 × DD)
  | 0, _, _, _ => none
  | n + 1, v0, v1, D =>
    if (D v0 21) ≤ 0 then (g_X9_rowDigest_198 1000 v0 v1 (v1 - (1 : Int32)) D) else (dlt (u2 D v0 21 ((D v0 21) - (1 : Int32))) (fun D10 => zck (inb (D10 v0 21) 110) (zck (inb (D10 v0 21) 110) (zck (inb (D10 v0 21) 110) (zck (inb (D10 v0 21) 110) (pcb (g_X9_uppermostOf v0 (D10 (v0 + 16) (ix (D10 v0 21))) (D10 (v0 + 17) (ix (D10 v0 21))) D10) (fun r11 => if r11 = (-9 : Int32) then (g_X9_rowDigest_128 (g_X9_rowDigest_21 n) v0 v1 (D10 (v0 + 16) (ix (D10 v0 21))) (D10 (v0 + 18) (ix (D10 v0 21))) (D10 (v0 + 19) (ix (D10 v0 21))) r11 D10) else (zck (inb v1 102) (dlt (u2 D10 (v0 + 33) (ix v1) r11) (fun D13 => vcb (g_X9_want v0 (r11 + (1 : Int32)) (D10 (v0 + 17) (ix (D10 v0 21))) v1 (1 : Int32) D13) (fun D15 => vcb (g_X9_want v0 (D10 (v0 + 16) (ix (D10 v0 21))) (r11 - (1 : Int32)) v1 (0 : Int32) D15) (fun D17 => g_X9_rowDigest_128 (g_X9_rowDigest_21 n) v0 (v1 + (1 : Int32)) (D10 (v0 + 16) (ix (D10 v0 21))) (D10 (v0 + 18) (ix (D10 v0 21))) (D10 (v0 + 19) (ix (D10 v0 21))) r11 D17))))))))))))
set_option maxRecDepth 100000 in
set_option maxHeartbeats 4000000 in
theorem G_X9_rowDigest_21 {n : Nat} {K : Nat → Nat × Nat} {R : Nat → Nat → Option Nat} : ∀ (N : Nat) (v0 : Nat) (v1 : Int32) (D : DD) (hv0 : isX9 n K R v0), f_X9_rowDigest_21 N v0 v1 ((n, K, R, D) : Mm) = (g_X9_rowDigest_21 N v0 v1 D).map (lS n K R) := by
  intro N
  induction N with
  | zero => intros; rfl
  | succ N ih =>
    intro v0 v1 D hv0
    unfold f_X9_rowDigest_21 g_X9_rowDigest_21
    refine z_ko (X9_o hv0) ?_
    refine z_if (fun _ => ?_) (fun _ => ?_)
    ·
      exact G_X9_rowDigest_198 1000 _ _ _ _ hv0
    ·
      refine z_lt rfl (fun D10 => ?_)
      refine z_rb (X9_r17 hv0) ?_
      refine z_ka (X9_a17 hv0) (fun _ => ?_)
      refine z_rb (X9_r18 hv0) ?_
      refine z_ka (X9_a18 hv0) (fun _ => ?_)
      refine z_rb (X9_r19 hv0) ?_
      refine z_ka (X9_a19 hv0) (fun _ => ?_)
      refine z_rb (X9_r20 hv0) ?_
      refine z_ka (X9_a20 hv0) (fun _ => ?_)
      refine z_cP (G_X9_uppermostOf _ _ _ _ hv0) (fun r11 he12 => ?_)
      refine z_if (fun _ => ?_) (fun _ => ?_)
      ·
        exact G_X9_rowDigest_128 _ _ ih _ _ _ _ _ _ _ hv0
      ·
        refine z_ko (X9_o hv0) ?_
        refine z_rb (X9_r42 hv0) ?_
        refine z_ka (X9_a42 hv0) (fun _ => ?_)
        refine z_lt rfl (fun D13 => ?_)
        refine z_cV (G_X9_want _ _ _ _ _ _ hv0) (fun _ D15 => ?_)
        refine z_ko (X9_o hv0) ?_
        refine z_cV (G_X9_want _ _ _ _ _ _ hv0) (fun _ D17 => ?_)
        exact G_X9_rowDigest_128 _ _ ih _ _ _ _ _ _ _ hv0
set_option maxRecDepth 100000 in
def g_X9_rowDigest (v0 : Nat) (D : DD) : Option (Int32 × DD) :=
  dlt (u2 D v0 21 (0 : Int32)) (fun D18 => vcb (g_X9_want v0 (0 : Int32) ((D18 v0 41) - (1 : Int32)) (-9 : Int32) (0 : Int32) D18) (fun D20 => g_X9_rowDigest_21 1000 v0 (0 : Int32) D20))
set_option maxRecDepth 100000 in
set_option maxHeartbeats 4000000 in
theorem G_X9_rowDigest {n : Nat} {K : Nat → Nat × Nat} {R : Nat → Nat → Option Nat} (v0 : Nat) (D : DD) (hv0 : isX9 n K R v0) : f_X9_rowDigest v0 ((n, K, R, D) : Mm) = (g_X9_rowDigest v0 D).map (lS n K R) := by
  unfold f_X9_rowDigest g_X9_rowDigest
  refine z_ko (X9_o hv0) ?_
  refine z_lt rfl (fun D18 => ?_)
  refine z_cV (G_X9_want _ _ _ _ _ _ hv0) (fun _ D20 => ?_)
  exact G_X9_rowDigest_21 1000 _ _ _ hv0
set_option maxRecDepth 100000 in
def g_X9_followed_118 (v0 : Nat) (D : DD) : Option (Int32 × DD) :=
  dcb (g_X9_rowDigest v0 D) (fun r1 D2 => some (r1, D2))
set_option maxRecDepth 100000 in
set_option maxHeartbeats 4000000 in
theorem G_X9_followed_118 {n : Nat} {K : Nat → Nat × Nat} {R : Nat → Nat → Option Nat} (v0 : Nat) (D : DD) (hv0 : isX9 n K R v0) : f_X9_followed_118 v0 ((n, K, R, D) : Mm) = (g_X9_followed_118 v0 D).map (lS n K R) := by
  unfold f_X9_followed_118 g_X9_followed_118
  refine z_ko (X9_o hv0) ?_
  refine z_cS (G_X9_rowDigest _ _ hv0) (fun r1 D2 => ?_)
  rfl
set_option maxRecDepth 100000 in
def g_X9_followed_82 (v0 : Nat) (v1 : Int32) (v2 : Int32) (v3 : Int32) (D : DD) : Option (Int32 × DD) :=
  if v2 = (-9 : Int32) then (vcb (g_X9_takeOut v0 v3 D) (fun D4 => g_X9_followed_118 v0 D4)) else (if v3 = (-9 : Int32) then (vcb (g_X9_putIn v0 v1 v2 D) (fun D6 => g_X9_followed_118 v0 D6)) else (zck (inb v3 102) (dlt (u2 D (v0 + 31) (ix v3) v2) (fun D7 => g_X9_followed_118 v0 D7))))
set_option maxRecDepth 100000 in
set_option maxHeartbeats 4000000 in
theorem G_X9_followed_82 {n : Nat} {K : Nat → Nat × Nat} {R : Nat → Nat → Option Nat} (v0 : Nat) (v1 : Int32) (v2 : Int32) (v3 : Int32) (D : DD) (hv0 : isX9 n K R v0) : f_X9_followed_82 v0 v1 v2 v3 ((n, K, R, D) : Mm) = (g_X9_followed_82 v0 v1 v2 v3 D).map (lS n K R) := by
  unfold f_X9_followed_82 g_X9_followed_82
  refine z_if (fun _ => ?_) (fun _ => ?_)
  ·
    refine z_ko (X9_o hv0) ?_
    refine z_cV (G_X9_takeOut _ _ _ hv0) (fun _ D4 => ?_)
    exact G_X9_followed_118 _ _ hv0
  ·
    refine z_if (fun _ => ?_) (fun _ => ?_)
    ·
      refine z_ko (X9_o hv0) ?_
      refine z_cV (G_X9_putIn _ _ _ _ hv0) (fun _ D6 => ?_)
      exact G_X9_followed_118 _ _ hv0
    ·
      refine z_ko (X9_o hv0) ?_
      refine z_rb (X9_r39 hv0) ?_
      refine z_ka (X9_a39 hv0) (fun _ => ?_)
      refine z_lt rfl (fun D7 => ?_)
      exact G_X9_followed_118 _ _ hv0
set_option maxRecDepth 100000 in
def g_X9_followed_49 (v0 : Nat) (v1 : Int32) (v2 : Int32) (w0 : Nat) (w1 : Int32) (w2 : Int32) (D : DD) : Option (Int32 × DD) :=
  dcb (g_X9_reasonOf w0 w1 w2 D) (fun r8 D9 => if r8 = 0 then (vcb (g_X9_layRow v0 D9) (fun D11 => pcb (g_X9_placeOf v0 v1 D11) (fun r12 => if r12 = (-9 : Int32) then (if v2 = (-9 : Int32) then (some ((-1 : Int32), D11)) else (g_X9_followed_82 v0 v1 v2 r12 D11)) else (g_X9_followed_82 v0 v1 v2 r12 D11)))) else (some ((-3 : Int32), D9)))
set_option maxRecDepth 100000 in
set_option maxHeartbeats 4000000 in
theorem G_X9_followed_49 {n : Nat} {K : Nat → Nat × Nat} {R : Nat → Nat → Option Nat} (v0 : Nat) (v1 : Int32) (v2 : Int32) (w0 : Nat) (w1 : Int32) (w2 : Int32) (D : DD) (hv0 : isX9 n K R v0) (hw0 : isX9 n K R w0) : f_X9_followed_49 v0 v1 v2 w0 w1 w2 ((n, K, R, D) : Mm) = (g_X9_followed_49 v0 v1 v2 w0 w1 w2 D).map (lS n K R) := by
  unfold f_X9_followed_49 g_X9_followed_49
  refine z_ko (X9_o hw0) ?_
  refine z_cS (G_X9_reasonOf _ _ _ _ hw0) (fun r8 D9 => ?_)
  refine z_if (fun _ => ?_) (fun _ => ?_)
  ·
    refine z_ko (X9_o hv0) ?_
    refine z_cV (G_X9_layRow _ _ hv0) (fun _ D11 => ?_)
    refine z_ko (X9_o hv0) ?_
    refine z_cP (G_X9_placeOf _ _ _ hv0) (fun r12 he13 => ?_)
    refine z_if (fun _ => ?_) (fun _ => ?_)
    ·
      refine z_if (fun _ => ?_) (fun _ => ?_)
      ·
        rfl
      ·
        exact G_X9_followed_82 _ _ _ _ _ hv0
    ·
      exact G_X9_followed_82 _ _ _ _ _ hv0
  ·
    rfl
set_option maxRecDepth 100000 in
def g_X9_followed_35 (v0 : Nat) (v1 : Int32) (v2 : Int32) (w0 : Nat) (w1 : Int32) (D : DD) : Option (Int32 × DD) :=
  if (99 : Int32) ≤ v1 then (g_X9_followed_49 v0 v1 v2 w0 w1 (99 : Int32) D) else (g_X9_followed_49 v0 v1 v2 w0 w1 (v1 + (1 : Int32)) D)
set_option maxRecDepth 100000 in
set_option maxHeartbeats 4000000 in
theorem G_X9_followed_35 {n : Nat} {K : Nat → Nat × Nat} {R : Nat → Nat → Option Nat} (v0 : Nat) (v1 : Int32) (v2 : Int32) (w0 : Nat) (w1 : Int32) (D : DD) (hv0 : isX9 n K R v0) (hw0 : isX9 n K R w0) : f_X9_followed_35 v0 v1 v2 w0 w1 ((n, K, R, D) : Mm) = (g_X9_followed_35 v0 v1 v2 w0 w1 D).map (lS n K R) := by
  unfold f_X9_followed_35 g_X9_followed_35
  refine z_if (fun _ => ?_) (fun _ => ?_)
  ·
    exact G_X9_followed_49 _ _ _ _ _ _ _ hv0 hw0
  ·
    exact G_X9_followed_49 _ _ _ _ _ _ _ hv0 hw0
set_option maxRecDepth 100000 in
def g_X9_followed_23 (v0 : Nat) (v1 : Int32) (v2 : Int32) (D : DD) : Option (Int32 × DD) :=
  if v1 ≤ 0 then (g_X9_followed_35 v0 v1 v2 v0 (0 : Int32) D) else (g_X9_followed_35 v0 v1 v2 v0 (v1 - (1 : Int32)) D)
set_option maxRecDepth 100000 in
set_option maxHeartbeats 4000000 in
theorem G_X9_followed_23 {n : Nat} {K : Nat → Nat × Nat} {R : Nat → Nat → Option Nat} (v0 : Nat) (v1 : Int32) (v2 : Int32) (D : DD) (hv0 : isX9 n K R v0) : f_X9_followed_23 v0 v1 v2 ((n, K, R, D) : Mm) = (g_X9_followed_23 v0 v1 v2 D).map (lS n K R) := by
  unfold f_X9_followed_23 g_X9_followed_23
  refine z_if (fun _ => ?_) (fun _ => ?_)
  ·
    exact G_X9_followed_35 _ _ _ _ _ _ hv0 hv0
  ·
    exact G_X9_followed_35 _ _ _ _ _ _ hv0 hv0
set_option maxRecDepth 100000 in
def g_X9_followed (v0 : Nat) (v1 : Int32) (v2 : Int32) (D : DD) : Option (Int32 × DD) :=
  pcb (g_X9_isNumber v1) (fun r14 => if r14 = 0 then (some ((-2 : Int32), D)) else (if v2 = (-9 : Int32) then (g_X9_followed_23 v0 v1 v2 D) else (pcb (g_X9_isNumber v2) (fun r16 => if r16 = 0 then (some ((-2 : Int32), D)) else (g_X9_followed_23 v0 v1 v2 D)))))
set_option maxRecDepth 100000 in
set_option maxHeartbeats 4000000 in
theorem G_X9_followed {n : Nat} {K : Nat → Nat × Nat} {R : Nat → Nat → Option Nat} (v0 : Nat) (v1 : Int32) (v2 : Int32) (D : DD) (hv0 : isX9 n K R v0) : f_X9_followed v0 v1 v2 ((n, K, R, D) : Mm) = (g_X9_followed v0 v1 v2 D).map (lS n K R) := by
  unfold f_X9_followed g_X9_followed
  refine z_cP (G_X9_isNumber _ _) (fun r14 he15 => ?_)
  refine z_if (fun _ => ?_) (fun _ => ?_)
  ·
    rfl
  ·
    refine z_if (fun _ => ?_) (fun _ => ?_)
    ·
      exact G_X9_followed_23 _ _ _ _ hv0
    ·
      refine z_cP (G_X9_isNumber _ _) (fun r16 he17 => ?_)
      refine z_if (fun _ => ?_) (fun _ => ?_)
      ·
        rfl
      ·
        exact G_X9_followed_23 _ _ _ _ hv0
set_option maxRecDepth 100000 in
def g_X9_step (v0 : Nat) (v1 : Int32) (v2 : Int32) (D : DD) : Option (Int32 × DD) :=
  dcb (g_X9_followed v0 v1 v2 D) (fun r1 D2 => some (r1, D2))
set_option maxRecDepth 100000 in
set_option maxHeartbeats 4000000 in
theorem G_X9_step {n : Nat} {K : Nat → Nat × Nat} {R : Nat → Nat → Option Nat} (v0 : Nat) (v1 : Int32) (v2 : Int32) (D : DD) (hv0 : isX9 n K R v0) : f_X9_step v0 v1 v2 ((n, K, R, D) : Mm) = (g_X9_step v0 v1 v2 D).map (lS n K R) := by
  unfold f_X9_step g_X9_step
  refine z_ko (X9_o hv0) ?_
  refine z_cS (G_X9_followed _ _ _ _ hv0) (fun r1 D2 => ?_)
  rfl
set_option maxRecDepth 100000 in
def g_X9_follow (v0 : Nat) (v1 : Int32) (v2 : Int32) (D : DD) : Option (Int32 × DD) :=
  dcb (g_X9_followed v0 v1 v2 D) (fun r1 D2 => if 0 ≤ r1 then (dcb (g_X9_takeTrust v0 r1 D2) (fun r3 D4 => some (r3, D4))) else (some (r1, D2)))
set_option maxRecDepth 100000 in
set_option maxHeartbeats 4000000 in
theorem G_X9_follow {n : Nat} {K : Nat → Nat × Nat} {R : Nat → Nat → Option Nat} (v0 : Nat) (v1 : Int32) (v2 : Int32) (D : DD) (hv0 : isX9 n K R v0) : f_X9_follow v0 v1 v2 ((n, K, R, D) : Mm) = (g_X9_follow v0 v1 v2 D).map (lS n K R) := by
  unfold f_X9_follow g_X9_follow
  refine z_ko (X9_o hv0) ?_
  refine z_cS (G_X9_followed _ _ _ _ hv0) (fun r1 D2 => ?_)
  refine z_if (fun _ => ?_) (fun _ => ?_)
  ·
    refine z_ko (X9_o hv0) ?_
    refine z_cS (G_X9_takeTrust _ _ _ hv0) (fun r3 D4 => ?_)
    rfl
  ·
    rfl
set_option maxRecDepth 100000 in
def g_X9_judged (v0 : Nat) (v1 : Int32) (v2 : Int32) (v3 : Int32) (D : DD) : Option (Int32 × DD) :=
  if v1 = (1 : Int32) then (pcb (g_X9_mayPut (v0 + 2) v2 D) (fun r1 => if r1 = 0 then (some ((0 : Int32), D)) else (zck (inb v2 100) (dlt (u2 D (v0 + 2) (ix v2) v3) (fun D3 => some ((1 : Int32), D3)))))) else (if v1 = (2 : Int32) then (zck (inb v2 100) (if (D (v0 + 2) (ix v2)) = (-9 : Int32) then (some ((0 : Int32), D)) else (if v3 = 0 then (zck (inb v2 100) (dlt (u2 D (v0 + 2) (ix v2) (-9 : Int32)) (fun D4 => some ((1 : Int32), D4)))) else (some ((0 : Int32), D))))) else (if v1 = (3 : Int32) then (zck (inb v2 100) (if (D (v0 + 2) (ix v2)) = v3 then (some ((1 : Int32), D)) else (some ((0 : Int32), D)))) else (if v1 = (4 : Int32) then (vcb (g_X9_make v0 (v0 + 2) (0 : Int32) D) (fun D6 => zck (inb v2 100) (if (D6 (v0 + 2) (ix v2)) = (-9 : Int32) then (some ((0 : Int32), D6)) else (zck (inb v2 200) (if (D6 (v0 + 9) (ix v2)) = v3 then (some ((1 : Int32), D6)) else (some ((0 : Int32), D6))))))) else (if v1 = (5 : Int32) then (vcb (g_X9_prove v0 (v0 + 2) v2 v2 D) (fun D8 => if (D8 v0 23) = v3 then (some ((1 : Int32), D8)) else (some ((0 : Int32), D8)))) else (some ((0 : Int32), D))))))
set_option maxRecDepth 100000 in
set_option maxHeartbeats 4000000 in
theorem G_X9_judged {n : Nat} {K : Nat → Nat × Nat} {R : Nat → Nat → Option Nat} (v0 : Nat) (v1 : Int32) (v2 : Int32) (v3 : Int32) (D : DD) (hv0 : isX9 n K R v0) : f_X9_judged v0 v1 v2 v3 ((n, K, R, D) : Mm) = (g_X9_judged v0 v1 v2 v3 D).map (lS n K R) := by
  unfold f_X9_judged g_X9_judged
  refine z_if (fun _ => ?_) (fun _ => ?_)
  ·
    refine z_ko (X9_o hv0) ?_
    refine z_rb (X9_r1 hv0) ?_
    refine z_cP (G_X9_mayPut _ _ _ (X9_a1 hv0)) (fun r1 he2 => ?_)
    refine z_if (fun _ => ?_) (fun _ => ?_)
    ·
      rfl
    ·
      refine z_ko (X9_o hv0) ?_
      refine z_rb (X9_r1 hv0) ?_
      refine z_ka (X9_a1 hv0) (fun _ => ?_)
      refine z_lt rfl (fun D3 => ?_)
      rfl
  refine z_if (fun _ => ?_) (fun _ => ?_)
  ·
    refine z_ko (X9_o hv0) ?_
    refine z_rb (X9_r1 hv0) ?_
    refine z_ka (X9_a1 hv0) (fun _ => ?_)
    refine z_if (fun _ => ?_) (fun _ => ?_)
    ·
      rfl
    ·
      refine z_if (fun _ => ?_) (fun _ => ?_)
      ·
        refine z_ka (X9_a1 hv0) (fun _ => ?_)
        refine z_lt rfl (fun D4 => ?_)
        rfl
      ·
        rfl
  refine z_if (fun _ => ?_) (fun _ => ?_)
  ·
    refine z_ko (X9_o hv0) ?_
    refine z_rb (X9_r1 hv0) ?_
    refine z_ka (X9_a1 hv0) (fun _ => ?_)
    refine z_if (fun _ => ?_) (fun _ => ?_)
    ·
      rfl
    ·
      rfl
  refine z_if (fun _ => ?_) (fun _ => ?_)
  ·
    refine z_ko (X9_o hv0) ?_
    refine z_rb (X9_r1 hv0) ?_
    refine z_cV (G_X9_make _ _ _ _ hv0 (X9_a1 hv0)) (fun _ D6 => ?_)
    refine z_ko (X9_o hv0) ?_
    refine z_rb (X9_r1 hv0) ?_
    refine z_ka (X9_a1 hv0) (fun _ => ?_)
    refine z_if (fun _ => ?_) (fun _ => ?_)
    ·
      rfl
    ·
      refine z_rb (X9_r10 hv0) ?_
      refine z_ka (X9_a10 hv0) (fun _ => ?_)
      refine z_if (fun _ => ?_) (fun _ => ?_)
      ·
        rfl
      ·
        rfl
  refine z_if (fun _ => ?_) (fun _ => ?_)
  ·
    refine z_ko (X9_o hv0) ?_
    refine z_rb (X9_r1 hv0) ?_
    refine z_cV (G_X9_prove _ _ _ _ _ hv0 (X9_a1 hv0)) (fun _ D8 => ?_)
    refine z_ko (X9_o hv0) ?_
    refine z_if (fun _ => ?_) (fun _ => ?_)
    ·
      rfl
    ·
      rfl
  rfl
set_option maxRecDepth 100000 in
def g_X9_hundredThousands_4 : Nat → Int32 → Int64 → Int32 → Option Int64
  | 0, _, _, _ => none
  | n + 1, v0, v1, v3 =>
    if v0 ≤ v3 then (some v1) else (g_X9_hundredThousands_4 n v0 (v1 * (100000 : Int64)) (v3 + (1 : Int32)))
set_option maxRecDepth 100000 in
set_option maxHeartbeats 4000000 in
theorem G_X9_hundredThousands_4 {n : Nat} {K : Nat → Nat × Nat} {R : Nat → Nat → Option Nat} : ∀ (N : Nat) (v0 : Int32) (v1 : Int64) (v3 : Int32) (D : DD), f_X9_hundredThousands_4 N v0 v1 v3 ((n, K, R, D) : Mm) = (g_X9_hundredThousands_4 N v0 v1 v3).map (lP n K R D) := by
  intro N
  induction N with
  | zero => intros; rfl
  | succ N ih =>
    intro v0 v1 v3 D
    unfold f_X9_hundredThousands_4 g_X9_hundredThousands_4
    refine z_if (fun _ => ?_) (fun _ => ?_)
    ·
      rfl
    ·
      exact ih _ _ _ _
set_option maxRecDepth 100000 in
def g_X9_hundredThousands (v0 : Int32) : Option Int64 :=
  g_X9_hundredThousands_4 1000 v0 (1 : Int64) (0 : Int32)
set_option maxRecDepth 100000 in
set_option maxHeartbeats 4000000 in
theorem G_X9_hundredThousands {n : Nat} {K : Nat → Nat × Nat} {R : Nat → Nat → Option Nat} (v0 : Int32) (D : DD) : f_X9_hundredThousands v0 ((n, K, R, D) : Mm) = (g_X9_hundredThousands v0).map (lP n K R D) := by
  unfold f_X9_hundredThousands g_X9_hundredThousands
  exact G_X9_hundredThousands_4 1000 _ _ _ _
set_option maxRecDepth 100000 in
def g_X9_judge_62 : Nat → Nat → Int32 → Int64 → Int32 → DD → Option (Int32 × DD)
  | 0, _, _, _, _, _ => none
  | n + 1, v0, v1, v2, v4, D =>
    if v1 ≤ v4 then (some ((-9 : Int32), D)) else (pcb (g_X9_hundredThousands ((v1 - (1 : Int32)) - v4)) (fun r1 => zck (decide (¬ r1 = 0)) (dcb (g_X9_judged v0 (((((v2 / r1) - (v2 / r1) / (100000 : Int64) * (100000 : Int64))).toInt32) / (10000 : Int32)) ((((((v2 / r1) - (v2 / r1) / (100000 : Int64) * (100000 : Int64))).toInt32) / (100 : Int32)) - (((((v2 / r1) - (v2 / r1) / (100000 : Int64) * (100000 : Int64))).toInt32) / (100 : Int32)) / (100 : Int32) * (100 : Int32)) (((((v2 / r1) - (v2 / r1) / (100000 : Int64) * (100000 : Int64))).toInt32) - ((((v2 / r1) - (v2 / r1) / (100000 : Int64) * (100000 : Int64))).toInt32) / (100 : Int32) * (100 : Int32)) D) (fun r3 D4 => if r3 = 0 then (some (v4, D4)) else (g_X9_judge_62 n v0 v1 v2 (v4 + (1 : Int32)) D4)))))
set_option maxRecDepth 100000 in
set_option maxHeartbeats 4000000 in
theorem G_X9_judge_62 {n : Nat} {K : Nat → Nat × Nat} {R : Nat → Nat → Option Nat} : ∀ (N : Nat) (v0 : Nat) (v1 : Int32) (v2 : Int64) (v4 : Int32) (D : DD) (hv0 : isX9 n K R v0), f_X9_judge_62 N v0 v1 v2 v4 ((n, K, R, D) : Mm) = (g_X9_judge_62 N v0 v1 v2 v4 D).map (lS n K R) := by
  intro N
  induction N with
  | zero => intros; rfl
  | succ N ih =>
    intro v0 v1 v2 v4 D hv0
    unfold f_X9_judge_62 g_X9_judge_62
    refine z_if (fun _ => ?_) (fun _ => ?_)
    ·
      rfl
    ·
      refine z_cP (G_X9_hundredThousands _ _) (fun r1 he2 => ?_)
      refine z_ck (fun _ => ?_)
      refine z_ko (X9_o hv0) ?_
      refine z_cS (G_X9_judged _ _ _ _ _ hv0) (fun r3 D4 => ?_)
      refine z_if (fun _ => ?_) (fun _ => ?_)
      ·
        rfl
      ·
        exact ih _ _ _ _ _ hv0
set_option maxRecDepth 100000 in
def g_X9_judge_32 : Nat → Nat → Int32 → Int64 → Int32 → DD → Option (Int32 × DD)
  | 0, _, _, _, _, _ => none
  | n + 1, v0, v1, v2, v4, D =>
    if (100 : Int32) ≤ v4 then (g_X9_judge_62 1000 v0 v1 v2 (0 : Int32) D) else (zck (inb v4 100) (zck (inb v4 100) (dlt (u2 D (v0 + 2) (ix v4) (D (v0 + 1) (ix v4))) (fun D5 => g_X9_judge_32 n v0 v1 v2 (v4 + (1 : Int32)) D5))))
set_option maxRecDepth 100000 in
set_option maxHeartbeats 4000000 in
theorem G_X9_judge_32 {n : Nat} {K : Nat → Nat × Nat} {R : Nat → Nat → Option Nat} : ∀ (N : Nat) (v0 : Nat) (v1 : Int32) (v2 : Int64) (v4 : Int32) (D : DD) (hv0 : isX9 n K R v0), f_X9_judge_32 N v0 v1 v2 v4 ((n, K, R, D) : Mm) = (g_X9_judge_32 N v0 v1 v2 v4 D).map (lS n K R) := by
  intro N
  induction N with
  | zero => intros; rfl
  | succ N ih =>
    intro v0 v1 v2 v4 D hv0
    unfold f_X9_judge_32 g_X9_judge_32
    refine z_if (fun _ => ?_) (fun _ => ?_)
    ·
      exact G_X9_judge_62 1000 _ _ _ _ _ hv0
    ·
      refine z_ko (X9_o hv0) ?_
      refine z_rb (X9_r1 hv0) ?_
      refine z_rb (X9_r0 hv0) ?_
      refine z_ka (X9_a0 hv0) (fun _ => ?_)
      refine z_ka (X9_a1 hv0) (fun _ => ?_)
      refine z_lt rfl (fun D5 => ?_)
      exact ih _ _ _ _ _ hv0
set_option maxRecDepth 100000 in
def g_X9_judge (v0 : Nat) (v1 : Int32) (v2 : Int64) (D : DD) : Option (Int32 × DD) :=
  pcb (g_X9_in ((v1).toInt64) (1 : Int64) (3 : Int64)) (fun r6 => if r6 = 0 then (some ((-2 : Int32), D)) else (pcb (g_X9_hundredThousands v1) (fun r8 => pcb (g_X9_in v2 (0 : Int64) (r8 - (1 : Int64))) (fun r10 => if r10 = 0 then (some ((-2 : Int32), D)) else (g_X9_judge_32 1000 v0 v1 v2 (0 : Int32) D)))))
set_option maxRecDepth 100000 in
set_option maxHeartbeats 4000000 in
theorem G_X9_judge {n : Nat} {K : Nat → Nat × Nat} {R : Nat → Nat → Option Nat} (v0 : Nat) (v1 : Int32) (v2 : Int64) (D : DD) (hv0 : isX9 n K R v0) : f_X9_judge v0 v1 v2 ((n, K, R, D) : Mm) = (g_X9_judge v0 v1 v2 D).map (lS n K R) := by
  unfold f_X9_judge g_X9_judge
  refine z_cP (G_X9_in _ _ _ _) (fun r6 he7 => ?_)
  refine z_if (fun _ => ?_) (fun _ => ?_)
  ·
    rfl
  ·
    refine z_cP (G_X9_hundredThousands _ _) (fun r8 he9 => ?_)
    refine z_cP (G_X9_in _ _ _ _) (fun r10 he11 => ?_)
    refine z_if (fun _ => ?_) (fun _ => ?_)
    ·
      rfl
    ·
      exact G_X9_judge_32 1000 _ _ _ _ _ hv0
