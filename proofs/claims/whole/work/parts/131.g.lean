set_option maxRecDepth 100000 in
def g_J7_fill_53178_5 (len : Nat) : Nat → Nat → Int32 → Int32 → Int32 → DD → Option DD
  | 0, _, _, _, _, _ => none
  | n + 1, v0, v1, v2, v3, D =>
    if v3 ≤ v2 then (some D) else (zck (inb v2 len) (dlt (u2 D v0 (ix v2) v1) (fun D1 => g_J7_fill_53178_5 len n v0 v1 (v2 + (1 : Int32)) v3 D1)))
set_option maxRecDepth 100000 in
set_option maxHeartbeats 4000000 in
theorem G_J7_fill_53178_5 {len : Nat} {n : Nat} {K : Nat → Nat × Nat} {R : Nat → Nat → Option Nat} : ∀ (N : Nat) (v0 : Nat) (v1 : Int32) (v2 : Int32) (v3 : Int32) (D : DD) (hv0 : v0 < n ∧ K v0 = (1, len)), f_J7_fill_53178_5 N v0 v1 v2 v3 ((n, K, R, D) : Mm) = (g_J7_fill_53178_5 len N v0 v1 v2 v3 D).map (lV n K R) := by
  intro N
  induction N with
  | zero => intros; rfl
  | succ N ih =>
    intro v0 v1 v2 v3 D hv0
    unfold f_J7_fill_53178_5 g_J7_fill_53178_5
    refine z_if (fun _ => ?_) (fun _ => ?_)
    ·
      rfl
    ·
      refine z_ka hv0 (fun _ => ?_)
      refine z_lt rfl (fun D1 => ?_)
      exact ih _ _ _ _ _ hv0
set_option maxRecDepth 100000 in
def g_J7_fill_53178 (len : Nat) (v0 : Nat) (v1 : Int32) (D : DD) : Option DD :=
  g_J7_fill_53178_5 len 1000 v0 v1 (0 : Int32) (Int32.ofNat len) D
set_option maxRecDepth 100000 in
set_option maxHeartbeats 4000000 in
theorem G_J7_fill_53178 {len : Nat} {n : Nat} {K : Nat → Nat × Nat} {R : Nat → Nat → Option Nat} (v0 : Nat) (v1 : Int32) (D : DD) (hv0 : v0 < n ∧ K v0 = (1, len)) : f_J7_fill_53178 v0 v1 ((n, K, R, D) : Mm) = (g_J7_fill_53178 len v0 v1 D).map (lV n K R) := by
  unfold f_J7_fill_53178 g_J7_fill_53178
  refine z_kl hv0 ?_
  rw [show mK ((n, K, R, D) : Mm) v0 = (1, len) from hv0.2]
  exact G_J7_fill_53178_5 1000 _ _ _ _ _ hv0
set_option maxRecDepth 100000 in
def g_X0_count (v0 : Nat) (D : DD) : Option Int32 :=
  some (D v0 2)
set_option maxRecDepth 100000 in
set_option maxHeartbeats 4000000 in
theorem G_X0_count {n : Nat} {K : Nat → Nat × Nat} {R : Nat → Nat → Option Nat} (v0 : Nat) (D : DD) (hv0 : isX0 n K R v0) : f_X0_count v0 ((n, K, R, D) : Mm) = (g_X0_count v0 D).map (lP n K R D) := by
  unfold f_X0_count g_X0_count
  refine z_ko (X0_o hv0) ?_
  rfl
set_option maxRecDepth 100000 in
def g_J9_floorMod_7cf53 (v0 : Int32) (v1 : Int32) : Option Int32 :=
  zck (decide (¬ v1 = 0)) (if 0 ≤ (v0 ^^^ v1) then (some (v0 - v0 / v1 * v1)) else (if (v0 - v0 / v1 * v1) = 0 then (some (v0 - v0 / v1 * v1)) else (some ((v0 - v0 / v1 * v1) + v1))))
set_option maxRecDepth 100000 in
set_option maxHeartbeats 4000000 in
theorem G_J9_floorMod_7cf53 {n : Nat} {K : Nat → Nat × Nat} {R : Nat → Nat → Option Nat} (v0 : Int32) (v1 : Int32) (D : DD) : f_J9_floorMod_7cf53 v0 v1 ((n, K, R, D) : Mm) = (g_J9_floorMod_7cf53 v0 v1).map (lP n K R D) := by
  unfold f_J9_floorMod_7cf53 g_J9_floorMod_7cf53
  refine z_ck (fun _ => ?_)
  refine z_if (fun _ => ?_) (fun _ => ?_)
  ·
    rfl
  ·
    refine z_if (fun _ => ?_) (fun _ => ?_)
    ·
      rfl
    ·
      rfl
set_option maxRecDepth 100000 in
def g_X0_pairsAt (v0 : Nat) (v1 : Int32) (D : DD) : Option Nat :=
  pcb (g_J9_floorMod_7cf53 ((D v0 1) + v1) (14 : Int32)) (fun r1 => zck (inb r1 14) (some (v0 + 2 + 2 * ix r1)))
set_option maxRecDepth 100000 in
set_option maxHeartbeats 4000000 in
theorem G_X0_pairsAt {n : Nat} {K : Nat → Nat × Nat} {R : Nat → Nat → Option Nat} (v0 : Nat) (v1 : Int32) (D : DD) (hv0 : isX0 n K R v0) : f_X0_pairsAt v0 v1 ((n, K, R, D) : Mm) = (g_X0_pairsAt v0 v1 D).map (lP n K R D) := by
  unfold f_X0_pairsAt g_X0_pairsAt
  refine z_ko (X0_o hv0) ?_
  refine z_rb (X0_r0 hv0) ?_
  refine z_cP (G_J9_floorMod_7cf53 _ _ _) (fun r1 he2 => ?_)
  refine z_ka (X0_q hv0) (fun hi3 => ?_)
  refine z_rb (X0_e hv0 (inb_s hi3)) ?_
  rfl
theorem pairsAt_is {n : Nat} {K : Nat → Nat × Nat} {R : Nat → Nat → Option Nat} {a : Nat} {l : Int32} {D : DD} {r : Nat} (h : isX0 n K R a) (he : g_X0_pairsAt a l D = some r) : isX2 n K R r := by
  unfold g_X0_pairsAt at he
  generalize g_J9_floorMod_7cf53 _ _ = o at he
  cases o with
  | none => cases he
  | some q =>
    simp only [pcb] at he
    obtain ⟨hk, he⟩ := zc_s he
    cases he
    exact X0_es h (inb_s hk)

set_option maxRecDepth 100000 in
def g_X2_become (v0 : Nat) (v1 : Nat) (D : DD) : Option DD :=
  zck (inC (0 : Int32) (0 : Int32) (100 : Int32) 100 100) (dlt (uC D (v1 + 1) (v0 + 1) (0 : Int32) (0 : Int32) (100 : Int32)) (fun D1 => dlt (u2 D1 v0 1 (D1 v1 1)) (fun D2 => some D2)))
set_option maxRecDepth 100000 in
set_option maxHeartbeats 4000000 in
theorem G_X2_become {n : Nat} {K : Nat → Nat × Nat} {R : Nat → Nat → Option Nat} (v0 : Nat) (v1 : Nat) (D : DD) (hv0 : isX2 n K R v0) (hv1 : isX2 n K R v1) : f_X2_become v0 v1 ((n, K, R, D) : Mm) = (g_X2_become v0 v1 D).map (lV n K R) := by
  unfold f_X2_become g_X2_become
  refine z_ko (X2_o hv1) ?_
  refine z_rb (X2_r0 hv1) ?_
  refine z_ko (X2_o hv0) ?_
  refine z_rb (X2_r0 hv0) ?_
  refine z_kc (X2_a0 hv1) (X2_a0 hv0) (fun _ => ?_)
  refine z_lt rfl (fun D1 => ?_)
  refine z_lt rfl (fun D2 => ?_)
  rfl
set_option maxRecDepth 100000 in
def g_X0_note_32 (v0 : Nat) (v1 : Nat) (D : DD) : Option DD :=
  pcb (g_X0_pairsAt v0 (D v0 2) D) (fun r1 => vcb (g_X2_become r1 v1 D) (fun D4 => dlt (u2 D4 v0 2 ((D4 v0 2) + (1 : Int32))) (fun D5 => some D5)))
set_option maxRecDepth 100000 in
set_option maxHeartbeats 4000000 in
theorem G_X0_note_32 {n : Nat} {K : Nat → Nat × Nat} {R : Nat → Nat → Option Nat} (v0 : Nat) (v1 : Nat) (D : DD) (hv0 : isX0 n K R v0) (hv1 : isX2 n K R v1) : f_X0_note_32 v0 v1 ((n, K, R, D) : Mm) = (g_X0_note_32 v0 v1 D).map (lV n K R) := by
  unfold f_X0_note_32 g_X0_note_32
  refine z_ko (X0_o hv0) ?_
  refine z_cP (G_X0_pairsAt _ _ _ hv0) (fun r1 he2 => ?_)
  have hr1 := pairsAt_is hv0 he2
  refine z_ko (X2_o hr1) ?_
  refine z_cV (G_X2_become _ _ _ hr1 hv1) (fun _ D4 => ?_)
  refine z_ko (X0_o hv0) ?_
  refine z_lt rfl (fun D5 => ?_)
  rfl
set_option maxRecDepth 100000 in
def g_X0_note (v0 : Nat) (v1 : Nat) (D : DD) : Option DD :=
  if (D v0 2) = (14 : Int32) then (dlt (u2 D v0 1 (((D v0 1) + (1 : Int32)) - ((D v0 1) + (1 : Int32)) / (14 : Int32) * (14 : Int32))) (fun D6 => dlt (u2 D6 v0 2 ((D6 v0 2) - (1 : Int32))) (fun D7 => g_X0_note_32 v0 v1 D7))) else (g_X0_note_32 v0 v1 D)
set_option maxRecDepth 100000 in
set_option maxHeartbeats 4000000 in
theorem G_X0_note {n : Nat} {K : Nat → Nat × Nat} {R : Nat → Nat → Option Nat} (v0 : Nat) (v1 : Nat) (D : DD) (hv0 : isX0 n K R v0) (hv1 : isX2 n K R v1) : f_X0_note v0 v1 ((n, K, R, D) : Mm) = (g_X0_note v0 v1 D).map (lV n K R) := by
  unfold f_X0_note g_X0_note
  refine z_ko (X0_o hv0) ?_
  refine z_if (fun _ => ?_) (fun _ => ?_)
  ·
    refine z_lt rfl (fun D6 => ?_)
    refine z_lt rfl (fun D7 => ?_)
    exact G_X0_note_32 _ _ _ hv0 hv1
  ·
    exact G_X0_note_32 _ _ _ hv0 hv1
set_option maxRecDepth 100000 in
def g_X0_takeBack (v0 : Nat) (v1 : Nat) (D : DD) : Option DD :=
  if (D v0 2) ≤ 0 then (some D) else (dlt (u2 D v0 2 ((D v0 2) - (1 : Int32))) (fun D1 => pcb (g_X0_pairsAt v0 (D1 v0 2) D1) (fun r2 => vcb (g_X2_become v1 r2 D1) (fun D5 => some D5))))
set_option maxRecDepth 100000 in
set_option maxHeartbeats 4000000 in
theorem G_X0_takeBack {n : Nat} {K : Nat → Nat × Nat} {R : Nat → Nat → Option Nat} (v0 : Nat) (v1 : Nat) (D : DD) (hv0 : isX0 n K R v0) (hv1 : isX2 n K R v1) : f_X0_takeBack v0 v1 ((n, K, R, D) : Mm) = (g_X0_takeBack v0 v1 D).map (lV n K R) := by
  unfold f_X0_takeBack g_X0_takeBack
  refine z_ko (X0_o hv0) ?_
  refine z_if (fun _ => ?_) (fun _ => ?_)
  ·
    rfl
  ·
    refine z_lt rfl (fun D1 => ?_)
    refine z_cP (G_X0_pairsAt _ _ _ hv0) (fun r2 he3 => ?_)
    have hr2 := pairsAt_is hv0 he3
    refine z_ko (X2_o hv1) ?_
    refine z_cV (G_X2_become _ _ _ hv1 hr2) (fun _ D5 => ?_)
    rfl
set_option maxRecDepth 100000 in
def g_X0_forgetAll (v0 : Nat) (D : DD) : Option DD :=
  dlt (u2 D v0 2 (0 : Int32)) (fun D1 => some D1)
set_option maxRecDepth 100000 in
set_option maxHeartbeats 4000000 in
theorem G_X0_forgetAll {n : Nat} {K : Nat → Nat × Nat} {R : Nat → Nat → Option Nat} (v0 : Nat) (D : DD) (hv0 : isX0 n K R v0) : f_X0_forgetAll v0 ((n, K, R, D) : Mm) = (g_X0_forgetAll v0 D).map (lV n K R) := by
  unfold f_X0_forgetAll g_X0_forgetAll
  refine z_ko (X0_o hv0) ?_
  refine z_lt rfl (fun D1 => ?_)
  rfl
set_option maxRecDepth 100000 in
def g_X1_count (v0 : Nat) (D : DD) : Option Int32 :=
  some (D v0 1)
set_option maxRecDepth 100000 in
set_option maxHeartbeats 4000000 in
theorem G_X1_count {n : Nat} {K : Nat → Nat × Nat} {R : Nat → Nat → Option Nat} (v0 : Nat) (D : DD) (hv0 : isX1 n K R v0) : f_X1_count v0 ((n, K, R, D) : Mm) = (g_X1_count v0 D).map (lP n K R D) := by
  unfold f_X1_count g_X1_count
  refine z_ko (X1_o hv0) ?_
  rfl
set_option maxRecDepth 100000 in
def g_X1_isFull (v0 : Nat) (D : DD) : Option Int32 :=
  if (D v0 1) < (100 : Int32) then (some (0 : Int32)) else (some (1 : Int32))
set_option maxRecDepth 100000 in
set_option maxHeartbeats 4000000 in
theorem G_X1_isFull {n : Nat} {K : Nat → Nat × Nat} {R : Nat → Nat → Option Nat} (v0 : Nat) (D : DD) (hv0 : isX1 n K R v0) : f_X1_isFull v0 ((n, K, R, D) : Mm) = (g_X1_isFull v0 D).map (lP n K R D) := by
  unfold f_X1_isFull g_X1_isFull
  refine z_ko (X1_o hv0) ?_
  refine z_if (fun _ => ?_) (fun _ => ?_)
  ·
    rfl
  ·
    rfl
set_option maxRecDepth 100000 in
def g_X1_hasPlace (v0 : Nat) (v1 : Int32) (D : DD) : Option Int32 :=
  if v1 < 0 then (some (0 : Int32)) else (if (D v0 1) ≤ v1 then (some (0 : Int32)) else (some (1 : Int32)))
set_option maxRecDepth 100000 in
set_option maxHeartbeats 4000000 in
theorem G_X1_hasPlace {n : Nat} {K : Nat → Nat × Nat} {R : Nat → Nat → Option Nat} (v0 : Nat) (v1 : Int32) (D : DD) (hv0 : isX1 n K R v0) : f_X1_hasPlace v0 v1 ((n, K, R, D) : Mm) = (g_X1_hasPlace v0 v1 D).map (lP n K R D) := by
  unfold f_X1_hasPlace g_X1_hasPlace
  refine z_if (fun _ => ?_) (fun _ => ?_)
  ·
    rfl
  ·
    refine z_ko (X1_o hv0) ?_
    refine z_if (fun _ => ?_) (fun _ => ?_)
    ·
      rfl
    ·
      rfl
set_option maxRecDepth 100000 in
def g_X1_itemAt (v0 : Nat) (v1 : Int32) (D : DD) : Option Int32 :=
  pcb (g_X1_hasPlace v0 v1 D) (fun r1 => if r1 = 0 then (some (0 : Int32)) else (zck (inb v1 100) (some (D (v0 + 1) (ix v1)))))
set_option maxRecDepth 100000 in
set_option maxHeartbeats 4000000 in
theorem G_X1_itemAt {n : Nat} {K : Nat → Nat × Nat} {R : Nat → Nat → Option Nat} (v0 : Nat) (v1 : Int32) (D : DD) (hv0 : isX1 n K R v0) : f_X1_itemAt v0 v1 ((n, K, R, D) : Mm) = (g_X1_itemAt v0 v1 D).map (lP n K R D) := by
  unfold f_X1_itemAt g_X1_itemAt
  refine z_ko (X1_o hv0) ?_
  refine z_cP (G_X1_hasPlace _ _ _ hv0) (fun r1 he2 => ?_)
  refine z_if (fun _ => ?_) (fun _ => ?_)
  ·
    rfl
  ·
    refine z_ko (X1_o hv0) ?_
    refine z_rb (X1_r0 hv0) ?_
    refine z_ka (X1_a0 hv0) (fun _ => ?_)
    rfl
set_option maxRecDepth 100000 in
def g_X1_add (v0 : Nat) (v1 : Int32) (D : DD) : Option DD :=
  pcb (g_X1_isFull v0 D) (fun r1 => if r1 = 0 then (zck (inb (D v0 1) 100) (dlt (u2 D (v0 + 1) (ix (D v0 1)) v1) (fun D3 => dlt (u2 D3 v0 1 ((D3 v0 1) + (1 : Int32))) (fun D4 => some D4)))) else (some D))
set_option maxRecDepth 100000 in
set_option maxHeartbeats 4000000 in
theorem G_X1_add {n : Nat} {K : Nat → Nat × Nat} {R : Nat → Nat → Option Nat} (v0 : Nat) (v1 : Int32) (D : DD) (hv0 : isX1 n K R v0) : f_X1_add v0 v1 ((n, K, R, D) : Mm) = (g_X1_add v0 v1 D).map (lV n K R) := by
  unfold f_X1_add g_X1_add
  refine z_ko (X1_o hv0) ?_
  refine z_cP (G_X1_isFull _ _ hv0) (fun r1 he2 => ?_)
  refine z_if (fun _ => ?_) (fun _ => ?_)
  ·
    refine z_ko (X1_o hv0) ?_
    refine z_rb (X1_r0 hv0) ?_
    refine z_ka (X1_a0 hv0) (fun _ => ?_)
    refine z_lt rfl (fun D3 => ?_)
    refine z_lt rfl (fun D4 => ?_)
    rfl
  ·
    rfl
set_option maxRecDepth 100000 in
def g_X1_replace (v0 : Nat) (v1 : Int32) (v2 : Int32) (D : DD) : Option DD :=
  pcb (g_X1_hasPlace v0 v1 D) (fun r1 => if r1 = 0 then (some D) else (zck (inb v1 100) (dlt (u2 D (v0 + 1) (ix v1) v2) (fun D3 => some D3))))
set_option maxRecDepth 100000 in
set_option maxHeartbeats 4000000 in
theorem G_X1_replace {n : Nat} {K : Nat → Nat × Nat} {R : Nat → Nat → Option Nat} (v0 : Nat) (v1 : Int32) (v2 : Int32) (D : DD) (hv0 : isX1 n K R v0) : f_X1_replace v0 v1 v2 ((n, K, R, D) : Mm) = (g_X1_replace v0 v1 v2 D).map (lV n K R) := by
  unfold f_X1_replace g_X1_replace
  refine z_ko (X1_o hv0) ?_
  refine z_cP (G_X1_hasPlace _ _ _ hv0) (fun r1 he2 => ?_)
  refine z_if (fun _ => ?_) (fun _ => ?_)
  ·
    rfl
  ·
    refine z_ko (X1_o hv0) ?_
    refine z_rb (X1_r0 hv0) ?_
    refine z_ka (X1_a0 hv0) (fun _ => ?_)
    refine z_lt rfl (fun D3 => ?_)
    rfl
set_option maxRecDepth 100000 in
def g_X1_shorten (v0 : Nat) (v1 : Int32) (D : DD) : Option DD :=
  if v1 < 0 then (some D) else (if (D v0 1) ≤ v1 then (some D) else (dlt (u2 D v0 1 v1) (fun D1 => some D1)))
set_option maxRecDepth 100000 in
set_option maxHeartbeats 4000000 in
theorem G_X1_shorten {n : Nat} {K : Nat → Nat × Nat} {R : Nat → Nat → Option Nat} (v0 : Nat) (v1 : Int32) (D : DD) (hv0 : isX1 n K R v0) : f_X1_shorten v0 v1 ((n, K, R, D) : Mm) = (g_X1_shorten v0 v1 D).map (lV n K R) := by
  unfold f_X1_shorten g_X1_shorten
  refine z_if (fun _ => ?_) (fun _ => ?_)
  ·
    rfl
  ·
    refine z_ko (X1_o hv0) ?_
    refine z_if (fun _ => ?_) (fun _ => ?_)
    ·
      rfl
    ·
      refine z_lt rfl (fun D1 => ?_)
      rfl
set_option maxRecDepth 100000 in
def g_X1_countDigests_23 (k_4 : Nat → Int32 → Int32 → DD → Option Int32) (v0 : Nat) (v1 : Int32) (v2 : Int32) (D : DD) : Option Int32 :=
  k_4 v0 v1 (v2 + (1 : Int32)) D
set_option maxRecDepth 100000 in
set_option maxHeartbeats 4000000 in
theorem G_X1_countDigests_23 {n : Nat} {K : Nat → Nat × Nat} {R : Nat → Nat → Option Nat} (k_4 : Nat → Int32 → Int32 → DD → Option Int32) (f_4 : Nat → Int32 → Int32 → Mm → Option (Int32 × Mm)) (hk_4 : ∀ (v0 : Nat) (v1 : Int32) (v2 : Int32) (D : DD) (hv0 : isX1 n K R v0), f_4 v0 v1 v2 ((n, K, R, D) : Mm) = (k_4 v0 v1 v2 D).map (lP n K R D)) (v0 : Nat) (v1 : Int32) (v2 : Int32) (D : DD) (hv0 : isX1 n K R v0) : f_X1_countDigests_23 f_4 v0 v1 v2 ((n, K, R, D) : Mm) = (g_X1_countDigests_23 k_4 v0 v1 v2 D).map (lP n K R D) := by
  unfold f_X1_countDigests_23 g_X1_countDigests_23
  exact hk_4 _ _ _ _ hv0
set_option maxRecDepth 100000 in
def g_X1_countDigests_4 : Nat → Nat → Int32 → Int32 → DD → Option Int32
  | 0, _, _, _, _ => none
  | n + 1, v0, v1, v2, D =>
    if (D v0 1) ≤ v2 then (some v1) else (pcb (g_X1_itemAt v0 v2 D) (fun r1 => if r1 ≤ 0 then (g_X1_countDigests_23 (g_X1_countDigests_4 n) v0 v1 v2 D) else (g_X1_countDigests_23 (g_X1_countDigests_4 n) v0 (v1 + (1 : Int32)) v2 D)))
set_option maxRecDepth 100000 in
set_option maxHeartbeats 4000000 in
theorem G_X1_countDigests_4 {n : Nat} {K : Nat → Nat × Nat} {R : Nat → Nat → Option Nat} : ∀ (N : Nat) (v0 : Nat) (v1 : Int32) (v2 : Int32) (D : DD) (hv0 : isX1 n K R v0), f_X1_countDigests_4 N v0 v1 v2 ((n, K, R, D) : Mm) = (g_X1_countDigests_4 N v0 v1 v2 D).map (lP n K R D) := by
  intro N
  induction N with
  | zero => intros; rfl
  | succ N ih =>
    intro v0 v1 v2 D hv0
    unfold f_X1_countDigests_4 g_X1_countDigests_4
    refine z_ko (X1_o hv0) ?_
    refine z_if (fun _ => ?_) (fun _ => ?_)
    ·
      rfl
    ·
      refine z_cP (G_X1_itemAt _ _ _ hv0) (fun r1 he2 => ?_)
      refine z_if (fun _ => ?_) (fun _ => ?_)
      ·
        exact G_X1_countDigests_23 _ _ ih _ _ _ _ hv0
      ·
        exact G_X1_countDigests_23 _ _ ih _ _ _ _ hv0
set_option maxRecDepth 100000 in
def g_X1_countDigests (v0 : Nat) (D : DD) : Option Int32 :=
  g_X1_countDigests_4 1000 v0 (0 : Int32) (0 : Int32) D
set_option maxRecDepth 100000 in
set_option maxHeartbeats 4000000 in
theorem G_X1_countDigests {n : Nat} {K : Nat → Nat × Nat} {R : Nat → Nat → Option Nat} (v0 : Nat) (D : DD) (hv0 : isX1 n K R v0) : f_X1_countDigests v0 ((n, K, R, D) : Mm) = (g_X1_countDigests v0 D).map (lP n K R D) := by
  unfold f_X1_countDigests g_X1_countDigests
  exact G_X1_countDigests_4 1000 _ _ _ _ hv0
set_option maxRecDepth 100000 in
def g_X1_countNodes_23 (k_4 : Nat → Int32 → Int32 → DD → Option Int32) (v0 : Nat) (v1 : Int32) (v2 : Int32) (D : DD) : Option Int32 :=
  k_4 v0 v1 (v2 + (1 : Int32)) D
set_option maxRecDepth 100000 in
set_option maxHeartbeats 4000000 in
theorem G_X1_countNodes_23 {n : Nat} {K : Nat → Nat × Nat} {R : Nat → Nat → Option Nat} (k_4 : Nat → Int32 → Int32 → DD → Option Int32) (f_4 : Nat → Int32 → Int32 → Mm → Option (Int32 × Mm)) (hk_4 : ∀ (v0 : Nat) (v1 : Int32) (v2 : Int32) (D : DD) (hv0 : isX1 n K R v0), f_4 v0 v1 v2 ((n, K, R, D) : Mm) = (k_4 v0 v1 v2 D).map (lP n K R D)) (v0 : Nat) (v1 : Int32) (v2 : Int32) (D : DD) (hv0 : isX1 n K R v0) : f_X1_countNodes_23 f_4 v0 v1 v2 ((n, K, R, D) : Mm) = (g_X1_countNodes_23 k_4 v0 v1 v2 D).map (lP n K R D) := by
  unfold f_X1_countNodes_23 g_X1_countNodes_23
  exact hk_4 _ _ _ _ hv0
set_option maxRecDepth 100000 in
def g_X1_countNodes_4 : Nat → Nat → Int32 → Int32 → DD → Option Int32
  | 0, _, _, _, _ => none
  | n + 1, v0, v1, v2, D =>
    if (D v0 1) ≤ v2 then (some v1) else (pcb (g_X1_itemAt v0 v2 D) (fun r1 => if 0 ≤ r1 then (g_X1_countNodes_23 (g_X1_countNodes_4 n) v0 v1 v2 D) else (g_X1_countNodes_23 (g_X1_countNodes_4 n) v0 (v1 + (1 : Int32)) v2 D)))
set_option maxRecDepth 100000 in
set_option maxHeartbeats 4000000 in
theorem G_X1_countNodes_4 {n : Nat} {K : Nat → Nat × Nat} {R : Nat → Nat → Option Nat} : ∀ (N : Nat) (v0 : Nat) (v1 : Int32) (v2 : Int32) (D : DD) (hv0 : isX1 n K R v0), f_X1_countNodes_4 N v0 v1 v2 ((n, K, R, D) : Mm) = (g_X1_countNodes_4 N v0 v1 v2 D).map (lP n K R D) := by
  intro N
  induction N with
  | zero => intros; rfl
  | succ N ih =>
    intro v0 v1 v2 D hv0
    unfold f_X1_countNodes_4 g_X1_countNodes_4
    refine z_ko (X1_o hv0) ?_
    refine z_if (fun _ => ?_) (fun _ => ?_)
    ·
      rfl
    ·
      refine z_cP (G_X1_itemAt _ _ _ hv0) (fun r1 he2 => ?_)
      refine z_if (fun _ => ?_) (fun _ => ?_)
      ·
        exact G_X1_countNodes_23 _ _ ih _ _ _ _ hv0
      ·
        exact G_X1_countNodes_23 _ _ ih _ _ _ _ hv0
set_option maxRecDepth 100000 in
def g_X1_countNodes (v0 : Nat) (D : DD) : Option Int32 :=
  g_X1_countNodes_4 1000 v0 (0 : Int32) (0 : Int32) D
set_option maxRecDepth 100000 in
set_option maxHeartbeats 4000000 in
theorem G_X1_countNodes {n : Nat} {K : Nat → Nat × Nat} {R : Nat → Nat → Option Nat} (v0 : Nat) (D : DD) (hv0 : isX1 n K R v0) : f_X1_countNodes v0 ((n, K, R, D) : Mm) = (g_X1_countNodes v0 D).map (lP n K R D) := by
  unfold f_X1_countNodes g_X1_countNodes
  exact G_X1_countNodes_4 1000 _ _ _ _ hv0
set_option maxRecDepth 100000 in
def g_X2_count (v0 : Nat) (D : DD) : Option Int32 :=
  some (D v0 1)
set_option maxRecDepth 100000 in
set_option maxHeartbeats 4000000 in
theorem G_X2_count {n : Nat} {K : Nat → Nat × Nat} {R : Nat → Nat → Option Nat} (v0 : Nat) (D : DD) (hv0 : isX2 n K R v0) : f_X2_count v0 ((n, K, R, D) : Mm) = (g_X2_count v0 D).map (lP n K R D) := by
  unfold f_X2_count g_X2_count
  refine z_ko (X2_o hv0) ?_
  rfl
set_option maxRecDepth 100000 in
def g_X8_isNumber (v0 : Int32) : Option Int32 :=
  if v0 < 0 then (some (0 : Int32)) else (if (100 : Int32) ≤ v0 then (some (0 : Int32)) else (some (1 : Int32)))
set_option maxRecDepth 100000 in
set_option maxHeartbeats 4000000 in
theorem G_X8_isNumber {n : Nat} {K : Nat → Nat × Nat} {R : Nat → Nat → Option Nat} (v0 : Int32) (D : DD) : f_X8_isNumber v0 ((n, K, R, D) : Mm) = (g_X8_isNumber v0).map (lP n K R D) := by
  unfold f_X8_isNumber g_X8_isNumber
  refine z_if (fun _ => ?_) (fun _ => ?_)
  ·
    rfl
  ·
    refine z_if (fun _ => ?_) (fun _ => ?_)
    ·
      rfl
    ·
      rfl
set_option maxRecDepth 100000 in
def g_X2_valueOf (v0 : Nat) (v1 : Int32) (D : DD) : Option Int32 :=
  pcb (g_X8_isNumber v1) (fun r1 => if r1 = 0 then (some (-9 : Int32)) else (zck (inb v1 100) (some (D (v0 + 1) (ix v1)))))
set_option maxRecDepth 100000 in
set_option maxHeartbeats 4000000 in
theorem G_X2_valueOf {n : Nat} {K : Nat → Nat × Nat} {R : Nat → Nat → Option Nat} (v0 : Nat) (v1 : Int32) (D : DD) (hv0 : isX2 n K R v0) : f_X2_valueOf v0 v1 ((n, K, R, D) : Mm) = (g_X2_valueOf v0 v1 D).map (lP n K R D) := by
  unfold f_X2_valueOf g_X2_valueOf
  refine z_cP (G_X8_isNumber _ _) (fun r1 he2 => ?_)
  refine z_if (fun _ => ?_) (fun _ => ?_)
  ·
    rfl
  ·
    refine z_ko (X2_o hv0) ?_
    refine z_rb (X2_r0 hv0) ?_
    refine z_ka (X2_a0 hv0) (fun _ => ?_)
    rfl
set_option maxRecDepth 100000 in
def g_X2_has (v0 : Nat) (v1 : Int32) (D : DD) : Option Int32 :=
  pcb (g_X2_valueOf v0 v1 D) (fun r1 => if r1 = (-9 : Int32) then (some (0 : Int32)) else (some (1 : Int32)))
set_option maxRecDepth 100000 in
set_option maxHeartbeats 4000000 in
theorem G_X2_has {n : Nat} {K : Nat → Nat × Nat} {R : Nat → Nat → Option Nat} (v0 : Nat) (v1 : Int32) (D : DD) (hv0 : isX2 n K R v0) : f_X2_has v0 v1 ((n, K, R, D) : Mm) = (g_X2_has v0 v1 D).map (lP n K R D) := by
  unfold f_X2_has g_X2_has
  refine z_ko (X2_o hv0) ?_
  refine z_cP (G_X2_valueOf _ _ _ hv0) (fun r1 he2 => ?_)
  refine z_if (fun _ => ?_) (fun _ => ?_)
  ·
    rfl
  ·
    rfl
set_option maxRecDepth 100000 in
def g_X2_hasRoomFor (v0 : Nat) (v1 : Int32) (D : DD) : Option Int32 :=
  pcb (g_X2_has v0 v1 D) (fun r1 => if r1 = 0 then (if (40 : Int32) ≤ (D v0 1) then (some (0 : Int32)) else (some (1 : Int32))) else (some (1 : Int32)))
set_option maxRecDepth 100000 in
set_option maxHeartbeats 4000000 in
theorem G_X2_hasRoomFor {n : Nat} {K : Nat → Nat × Nat} {R : Nat → Nat → Option Nat} (v0 : Nat) (v1 : Int32) (D : DD) (hv0 : isX2 n K R v0) : f_X2_hasRoomFor v0 v1 ((n, K, R, D) : Mm) = (g_X2_hasRoomFor v0 v1 D).map (lP n K R D) := by
  unfold f_X2_hasRoomFor g_X2_hasRoomFor
  refine z_ko (X2_o hv0) ?_
  refine z_cP (G_X2_has _ _ _ hv0) (fun r1 he2 => ?_)
  refine z_if (fun _ => ?_) (fun _ => ?_)
  ·
    refine z_ko (X2_o hv0) ?_
    refine z_if (fun _ => ?_) (fun _ => ?_)
    ·
      rfl
    ·
      rfl
  ·
    rfl
set_option maxRecDepth 100000 in
def g_X2_give_28 (v0 : Nat) (v1 : Int32) (v2 : Int32) (D : DD) : Option DD :=
  zck (inb v1 100) (dlt (u2 D (v0 + 1) (ix v1) v2) (fun D1 => some D1))
set_option maxRecDepth 100000 in
set_option maxHeartbeats 4000000 in
theorem G_X2_give_28 {n : Nat} {K : Nat → Nat × Nat} {R : Nat → Nat → Option Nat} (v0 : Nat) (v1 : Int32) (v2 : Int32) (D : DD) (hv0 : isX2 n K R v0) : f_X2_give_28 v0 v1 v2 ((n, K, R, D) : Mm) = (g_X2_give_28 v0 v1 v2 D).map (lV n K R) := by
  unfold f_X2_give_28 g_X2_give_28
  refine z_ko (X2_o hv0) ?_
  refine z_rb (X2_r0 hv0) ?_
  refine z_ka (X2_a0 hv0) (fun _ => ?_)
  refine z_lt rfl (fun D1 => ?_)
  rfl
set_option maxRecDepth 100000 in
def g_X2_give (v0 : Nat) (v1 : Int32) (v2 : Int32) (D : DD) : Option DD :=
  pcb (g_X8_isNumber v1) (fun r2 => if r2 = 0 then (some D) else (zck (inb v1 100) (if (D (v0 + 1) (ix v1)) = (-9 : Int32) then (dlt (u2 D v0 1 ((D v0 1) + (1 : Int32))) (fun D4 => g_X2_give_28 v0 v1 v2 D4)) else (g_X2_give_28 v0 v1 v2 D))))
set_option maxRecDepth 100000 in
set_option maxHeartbeats 4000000 in
theorem G_X2_give {n : Nat} {K : Nat → Nat × Nat} {R : Nat → Nat → Option Nat} (v0 : Nat) (v1 : Int32) (v2 : Int32) (D : DD) (hv0 : isX2 n K R v0) : f_X2_give v0 v1 v2 ((n, K, R, D) : Mm) = (g_X2_give v0 v1 v2 D).map (lV n K R) := by
  unfold f_X2_give g_X2_give
  refine z_cP (G_X8_isNumber _ _) (fun r2 he3 => ?_)
  refine z_if (fun _ => ?_) (fun _ => ?_)
  ·
    rfl
  ·
    refine z_ko (X2_o hv0) ?_
    refine z_rb (X2_r0 hv0) ?_
    refine z_ka (X2_a0 hv0) (fun _ => ?_)
    refine z_if (fun _ => ?_) (fun _ => ?_)
    ·
      refine z_lt rfl (fun D4 => ?_)
      exact G_X2_give_28 _ _ _ _ hv0
    ·
      exact G_X2_give_28 _ _ _ _ hv0
set_option maxRecDepth 100000 in
def g_X2_drop (v0 : Nat) (v1 : Int32) (D : DD) : Option DD :=
  pcb (g_X2_has v0 v1 D) (fun r1 => if r1 = 0 then (some D) else (dlt (u2 D v0 1 ((D v0 1) - (1 : Int32))) (fun D3 => zck (inb v1 100) (dlt (u2 D3 (v0 + 1) (ix v1) (-9 : Int32)) (fun D4 => some D4)))))
set_option maxRecDepth 100000 in
set_option maxHeartbeats 4000000 in
theorem G_X2_drop {n : Nat} {K : Nat → Nat × Nat} {R : Nat → Nat → Option Nat} (v0 : Nat) (v1 : Int32) (D : DD) (hv0 : isX2 n K R v0) : f_X2_drop v0 v1 ((n, K, R, D) : Mm) = (g_X2_drop v0 v1 D).map (lV n K R) := by
  unfold f_X2_drop g_X2_drop
  refine z_ko (X2_o hv0) ?_
  refine z_cP (G_X2_has _ _ _ hv0) (fun r1 he2 => ?_)
  refine z_if (fun _ => ?_) (fun _ => ?_)
  ·
    rfl
  ·
    refine z_ko (X2_o hv0) ?_
    refine z_lt rfl (fun D3 => ?_)
    refine z_rb (X2_r0 hv0) ?_
    refine z_ka (X2_a0 hv0) (fun _ => ?_)
    refine z_lt rfl (fun D4 => ?_)
    rfl
set_option maxRecDepth 100000 in
def g_X2_clear (v0 : Nat) (D : DD) : Option DD :=
  vcb (g_J7_fill_53178 100 (v0 + 1) (-9 : Int32) D) (fun D2 => dlt (u2 D2 v0 1 (0 : Int32)) (fun D3 => some D3))
set_option maxRecDepth 100000 in
set_option maxHeartbeats 4000000 in
theorem G_X2_clear {n : Nat} {K : Nat → Nat × Nat} {R : Nat → Nat → Option Nat} (v0 : Nat) (D : DD) (hv0 : isX2 n K R v0) : f_X2_clear v0 ((n, K, R, D) : Mm) = (g_X2_clear v0 D).map (lV n K R) := by
  unfold f_X2_clear g_X2_clear
  refine z_ko (X2_o hv0) ?_
  refine z_rb (X2_r0 hv0) ?_
  refine z_cV (G_J7_fill_53178 _ _ _ (X2_a0 hv0)) (fun _ D2 => ?_)
  refine z_ko (X2_o hv0) ?_
  refine z_lt rfl (fun D3 => ?_)
  rfl
set_option maxRecDepth 100000 in
def g_X2_countWithin_36 (k_5 : Nat → Int32 → Int32 → Int32 → Int32 → DD → Option Int32) (v0 : Nat) (v1 : Int32) (v2 : Int32) (v3 : Int32) (v4 : Int32) (D : DD) : Option Int32 :=
  k_5 v0 v1 v2 v3 (v4 + (1 : Int32)) D
set_option maxRecDepth 100000 in
set_option maxHeartbeats 4000000 in
theorem G_X2_countWithin_36 {n : Nat} {K : Nat → Nat × Nat} {R : Nat → Nat → Option Nat} (k_5 : Nat → Int32 → Int32 → Int32 → Int32 → DD → Option Int32) (f_5 : Nat → Int32 → Int32 → Int32 → Int32 → Mm → Option (Int32 × Mm)) (hk_5 : ∀ (v0 : Nat) (v1 : Int32) (v2 : Int32) (v3 : Int32) (v4 : Int32) (D : DD) (hv0 : isX2 n K R v0), f_5 v0 v1 v2 v3 v4 ((n, K, R, D) : Mm) = (k_5 v0 v1 v2 v3 v4 D).map (lP n K R D)) (v0 : Nat) (v1 : Int32) (v2 : Int32) (v3 : Int32) (v4 : Int32) (D : DD) (hv0 : isX2 n K R v0) : f_X2_countWithin_36 f_5 v0 v1 v2 v3 v4 ((n, K, R, D) : Mm) = (g_X2_countWithin_36 k_5 v0 v1 v2 v3 v4 D).map (lP n K R D) := by
  unfold f_X2_countWithin_36 g_X2_countWithin_36
  exact hk_5 _ _ _ _ _ _ hv0
set_option maxRecDepth 100000 in
def g_X2_countWithin_5 : Nat → Nat → Int32 → Int32 → Int32 → Int32 → DD → Option Int32
  | 0, _, _, _, _, _, _ => none
  | n + 1, v0, v1, v2, v3, v4, D =>
    if (100 : Int32) ≤ v4 then (some v3) else (if v4 < v1 then (g_X2_countWithin_36 (g_X2_countWithin_5 n) v0 v1 v2 v3 v4 D) else (if v2 < v4 then (g_X2_countWithin_36 (g_X2_countWithin_5 n) v0 v1 v2 v3 v4 D) else (pcb (g_X2_has v0 v4 D) (fun r1 => if r1 = 0 then (g_X2_countWithin_36 (g_X2_countWithin_5 n) v0 v1 v2 v3 v4 D) else (g_X2_countWithin_36 (g_X2_countWithin_5 n) v0 v1 v2 (v3 + (1 : Int32)) v4 D)))))
set_option maxRecDepth 100000 in
set_option maxHeartbeats 4000000 in
theorem G_X2_countWithin_5 {n : Nat} {K : Nat → Nat × Nat} {R : Nat → Nat → Option Nat} : ∀ (N : Nat) (v0 : Nat) (v1 : Int32) (v2 : Int32) (v3 : Int32) (v4 : Int32) (D : DD) (hv0 : isX2 n K R v0), f_X2_countWithin_5 N v0 v1 v2 v3 v4 ((n, K, R, D) : Mm) = (g_X2_countWithin_5 N v0 v1 v2 v3 v4 D).map (lP n K R D) := by
  intro N
  induction N with
  | zero => intros; rfl
  | succ N ih =>
    intro v0 v1 v2 v3 v4 D hv0
    unfold f_X2_countWithin_5 g_X2_countWithin_5
    refine z_if (fun _ => ?_) (fun _ => ?_)
    ·
      rfl
    ·
      refine z_if (fun _ => ?_) (fun _ => ?_)
      ·
        exact G_X2_countWithin_36 _ _ ih _ _ _ _ _ _ hv0
      ·
        refine z_if (fun _ => ?_) (fun _ => ?_)
        ·
          exact G_X2_countWithin_36 _ _ ih _ _ _ _ _ _ hv0
        ·
          refine z_ko (X2_o hv0) ?_
          refine z_cP (G_X2_has _ _ _ hv0) (fun r1 he2 => ?_)
          refine z_if (fun _ => ?_) (fun _ => ?_)
          ·
            exact G_X2_countWithin_36 _ _ ih _ _ _ _ _ _ hv0
          ·
            exact G_X2_countWithin_36 _ _ ih _ _ _ _ _ _ hv0
set_option maxRecDepth 100000 in
def g_X2_countWithin (v0 : Nat) (v1 : Int32) (v2 : Int32) (D : DD) : Option Int32 :=
  g_X2_countWithin_5 1000 v0 v1 v2 (0 : Int32) (0 : Int32) D
set_option maxRecDepth 100000 in
set_option maxHeartbeats 4000000 in
theorem G_X2_countWithin {n : Nat} {K : Nat → Nat × Nat} {R : Nat → Nat → Option Nat} (v0 : Nat) (v1 : Int32) (v2 : Int32) (D : DD) (hv0 : isX2 n K R v0) : f_X2_countWithin v0 v1 v2 ((n, K, R, D) : Mm) = (g_X2_countWithin v0 v1 v2 D).map (lP n K R D) := by
  unfold f_X2_countWithin g_X2_countWithin
  exact G_X2_countWithin_5 1000 _ _ _ _ _ _ hv0
set_option maxRecDepth 100000 in
def g_X2_sumWithin_43 (k_5 : Nat → Int32 → Int32 → Int32 → Int32 → DD → Option Int32) (v0 : Nat) (v1 : Int32) (v2 : Int32) (v3 : Int32) (v4 : Int32) (D : DD) : Option Int32 :=
  k_5 v0 v1 v2 v3 (v4 + (1 : Int32)) D
set_option maxRecDepth 100000 in
set_option maxHeartbeats 4000000 in
theorem G_X2_sumWithin_43 {n : Nat} {K : Nat → Nat × Nat} {R : Nat → Nat → Option Nat} (k_5 : Nat → Int32 → Int32 → Int32 → Int32 → DD → Option Int32) (f_5 : Nat → Int32 → Int32 → Int32 → Int32 → Mm → Option (Int32 × Mm)) (hk_5 : ∀ (v0 : Nat) (v1 : Int32) (v2 : Int32) (v3 : Int32) (v4 : Int32) (D : DD) (hv0 : isX2 n K R v0), f_5 v0 v1 v2 v3 v4 ((n, K, R, D) : Mm) = (k_5 v0 v1 v2 v3 v4 D).map (lP n K R D)) (v0 : Nat) (v1 : Int32) (v2 : Int32) (v3 : Int32) (v4 : Int32) (D : DD) (hv0 : isX2 n K R v0) : f_X2_sumWithin_43 f_5 v0 v1 v2 v3 v4 ((n, K, R, D) : Mm) = (g_X2_sumWithin_43 k_5 v0 v1 v2 v3 v4 D).map (lP n K R D) := by
  unfold f_X2_sumWithin_43 g_X2_sumWithin_43
  exact hk_5 _ _ _ _ _ _ hv0
set_option maxRecDepth 100000 in
def g_X2_sumWithin_5 : Nat → Nat → Int32 → Int32 → Int32 → Int32 → DD → Option Int32
  | 0, _, _, _, _, _, _ => none
  | n + 1, v0, v1, v2, v3, v4, D =>
    if (100 : Int32) ≤ v4 then (some v3) else (if v4 < v1 then (g_X2_sumWithin_43 (g_X2_sumWithin_5 n) v0 v1 v2 v3 v4 D) else (if v2 < v4 then (g_X2_sumWithin_43 (g_X2_sumWithin_5 n) v0 v1 v2 v3 v4 D) else (pcb (g_X2_has v0 v4 D) (fun r1 => if r1 = 0 then (g_X2_sumWithin_43 (g_X2_sumWithin_5 n) v0 v1 v2 v3 v4 D) else (zck (inb v4 100) (g_X2_sumWithin_43 (g_X2_sumWithin_5 n) v0 v1 v2 (v3 + (D (v0 + 1) (ix v4))) v4 D))))))
set_option maxRecDepth 100000 in
set_option maxHeartbeats 4000000 in
theorem G_X2_sumWithin_5 {n : Nat} {K : Nat → Nat × Nat} {R : Nat → Nat → Option Nat} : ∀ (N : Nat) (v0 : Nat) (v1 : Int32) (v2 : Int32) (v3 : Int32) (v4 : Int32) (D : DD) (hv0 : isX2 n K R v0), f_X2_sumWithin_5 N v0 v1 v2 v3 v4 ((n, K, R, D) : Mm) = (g_X2_sumWithin_5 N v0 v1 v2 v3 v4 D).map (lP n K R D) := by
  intro N
  induction N with
  | zero => intros; rfl
  | succ N ih =>
    intro v0 v1 v2 v3 v4 D hv0
    unfold f_X2_sumWithin_5 g_X2_sumWithin_5
    refine z_if (fun _ => ?_) (fun _ => ?_)
    ·
      rfl
    ·
      refine z_if (fun _ => ?_) (fun _ => ?_)
      ·
        exact G_X2_sumWithin_43 _ _ ih _ _ _ _ _ _ hv0
      ·
        refine z_if (fun _ => ?_) (fun _ => ?_)
        ·
          exact G_X2_sumWithin_43 _ _ ih _ _ _ _ _ _ hv0
        ·
          refine z_ko (X2_o hv0) ?_
          refine z_cP (G_X2_has _ _ _ hv0) (fun r1 he2 => ?_)
          refine z_if (fun _ => ?_) (fun _ => ?_)
          ·
            exact G_X2_sumWithin_43 _ _ ih _ _ _ _ _ _ hv0
          ·
            refine z_ko (X2_o hv0) ?_
            refine z_rb (X2_r0 hv0) ?_
            refine z_ka (X2_a0 hv0) (fun _ => ?_)
            exact G_X2_sumWithin_43 _ _ ih _ _ _ _ _ _ hv0
set_option maxRecDepth 100000 in
def g_X2_sumWithin (v0 : Nat) (v1 : Int32) (v2 : Int32) (D : DD) : Option Int32 :=
  g_X2_sumWithin_5 1000 v0 v1 v2 (0 : Int32) (0 : Int32) D
set_option maxRecDepth 100000 in
set_option maxHeartbeats 4000000 in
theorem G_X2_sumWithin {n : Nat} {K : Nat → Nat × Nat} {R : Nat → Nat → Option Nat} (v0 : Nat) (v1 : Int32) (v2 : Int32) (D : DD) (hv0 : isX2 n K R v0) : f_X2_sumWithin v0 v1 v2 ((n, K, R, D) : Mm) = (g_X2_sumWithin v0 v1 v2 D).map (lP n K R D) := by
  unfold f_X2_sumWithin g_X2_sumWithin
  exact G_X2_sumWithin_5 1000 _ _ _ _ _ _ hv0
set_option maxRecDepth 100000 in
def g_X2_greatestBelow_26 (k_5 : Nat → Int32 → Int32 → Int32 → DD → Option Int32) (v0 : Nat) (v1 : Int32) (v2 : Int32) (v3 : Int32) (D : DD) : Option Int32 :=
  k_5 v0 v1 v2 (v3 + (1 : Int32)) D
set_option maxRecDepth 100000 in
set_option maxHeartbeats 4000000 in
theorem G_X2_greatestBelow_26 {n : Nat} {K : Nat → Nat × Nat} {R : Nat → Nat → Option Nat} (k_5 : Nat → Int32 → Int32 → Int32 → DD → Option Int32) (f_5 : Nat → Int32 → Int32 → Int32 → Mm → Option (Int32 × Mm)) (hk_5 : ∀ (v0 : Nat) (v1 : Int32) (v2 : Int32) (v3 : Int32) (D : DD) (hv0 : isX2 n K R v0), f_5 v0 v1 v2 v3 ((n, K, R, D) : Mm) = (k_5 v0 v1 v2 v3 D).map (lP n K R D)) (v0 : Nat) (v1 : Int32) (v2 : Int32) (v3 : Int32) (D : DD) (hv0 : isX2 n K R v0) : f_X2_greatestBelow_26 f_5 v0 v1 v2 v3 ((n, K, R, D) : Mm) = (g_X2_greatestBelow_26 k_5 v0 v1 v2 v3 D).map (lP n K R D) := by
  unfold f_X2_greatestBelow_26 g_X2_greatestBelow_26
  exact hk_5 _ _ _ _ _ hv0
set_option maxRecDepth 100000 in
def g_X2_greatestBelow_5 : Nat → Nat → Int32 → Int32 → Int32 → DD → Option Int32
  | 0, _, _, _, _, _ => none
  | n + 1, v0, v1, v2, v3, D =>
    if (100 : Int32) ≤ v3 then (some v2) else (if v1 ≤ v3 then (g_X2_greatestBelow_26 (g_X2_greatestBelow_5 n) v0 v1 v2 v3 D) else (pcb (g_X2_has v0 v3 D) (fun r1 => if r1 = 0 then (g_X2_greatestBelow_26 (g_X2_greatestBelow_5 n) v0 v1 v2 v3 D) else (g_X2_greatestBelow_26 (g_X2_greatestBelow_5 n) v0 v1 v3 v3 D))))
set_option maxRecDepth 100000 in
set_option maxHeartbeats 4000000 in
theorem G_X2_greatestBelow_5 {n : Nat} {K : Nat → Nat × Nat} {R : Nat → Nat → Option Nat} : ∀ (N : Nat) (v0 : Nat) (v1 : Int32) (v2 : Int32) (v3 : Int32) (D : DD) (hv0 : isX2 n K R v0), f_X2_greatestBelow_5 N v0 v1 v2 v3 ((n, K, R, D) : Mm) = (g_X2_greatestBelow_5 N v0 v1 v2 v3 D).map (lP n K R D) := by
  intro N
  induction N with
  | zero => intros; rfl
  | succ N ih =>
    intro v0 v1 v2 v3 D hv0
    unfold f_X2_greatestBelow_5 g_X2_greatestBelow_5
    refine z_if (fun _ => ?_) (fun _ => ?_)
    ·
      rfl
    ·
      refine z_if (fun _ => ?_) (fun _ => ?_)
      ·
        exact G_X2_greatestBelow_26 _ _ ih _ _ _ _ _ hv0
      ·
        refine z_ko (X2_o hv0) ?_
        refine z_cP (G_X2_has _ _ _ hv0) (fun r1 he2 => ?_)
        refine z_if (fun _ => ?_) (fun _ => ?_)
        ·
          exact G_X2_greatestBelow_26 _ _ ih _ _ _ _ _ hv0
        ·
          exact G_X2_greatestBelow_26 _ _ ih _ _ _ _ _ hv0
set_option maxRecDepth 100000 in
def g_X2_greatestBelow (v0 : Nat) (v1 : Int32) (D : DD) : Option Int32 :=
  g_X2_greatestBelow_5 1000 v0 v1 (-9 : Int32) (0 : Int32) D
set_option maxRecDepth 100000 in
set_option maxHeartbeats 4000000 in
theorem G_X2_greatestBelow {n : Nat} {K : Nat → Nat × Nat} {R : Nat → Nat → Option Nat} (v0 : Nat) (v1 : Int32) (D : DD) (hv0 : isX2 n K R v0) : f_X2_greatestBelow v0 v1 ((n, K, R, D) : Mm) = (g_X2_greatestBelow v0 v1 D).map (lP n K R D) := by
  unfold f_X2_greatestBelow g_X2_greatestBelow
  exact G_X2_greatestBelow_5 1000 _ _ _ _ _ hv0
set_option maxRecDepth 100000 in
def g_X2_leastAbove_23 (k_2 : Nat → Int32 → Int32 → DD → Option Int32) (v0 : Nat) (v1 : Int32) (v2 : Int32) (D : DD) : Option Int32 :=
  k_2 v0 v1 (v2 + (1 : Int32)) D
set_option maxRecDepth 100000 in
set_option maxHeartbeats 4000000 in
theorem G_X2_leastAbove_23 {n : Nat} {K : Nat → Nat × Nat} {R : Nat → Nat → Option Nat} (k_2 : Nat → Int32 → Int32 → DD → Option Int32) (f_2 : Nat → Int32 → Int32 → Mm → Option (Int32 × Mm)) (hk_2 : ∀ (v0 : Nat) (v1 : Int32) (v2 : Int32) (D : DD) (hv0 : isX2 n K R v0), f_2 v0 v1 v2 ((n, K, R, D) : Mm) = (k_2 v0 v1 v2 D).map (lP n K R D)) (v0 : Nat) (v1 : Int32) (v2 : Int32) (D : DD) (hv0 : isX2 n K R v0) : f_X2_leastAbove_23 f_2 v0 v1 v2 ((n, K, R, D) : Mm) = (g_X2_leastAbove_23 k_2 v0 v1 v2 D).map (lP n K R D) := by
  unfold f_X2_leastAbove_23 g_X2_leastAbove_23
  exact hk_2 _ _ _ _ hv0
set_option maxRecDepth 100000 in
def g_X2_leastAbove_2 : Nat → Nat → Int32 → Int32 → DD → Option Int32
  | 0, _, _, _, _ => none
  | n + 1, v0, v1, v2, D =>
    if (100 : Int32) ≤ v2 then (some (-9 : Int32)) else (if v2 ≤ v1 then (g_X2_leastAbove_23 (g_X2_leastAbove_2 n) v0 v1 v2 D) else (pcb (g_X2_has v0 v2 D) (fun r1 => if r1 = 0 then (g_X2_leastAbove_23 (g_X2_leastAbove_2 n) v0 v1 v2 D) else (some v2))))
set_option maxRecDepth 100000 in
set_option maxHeartbeats 4000000 in
theorem G_X2_leastAbove_2 {n : Nat} {K : Nat → Nat × Nat} {R : Nat → Nat → Option Nat} : ∀ (N : Nat) (v0 : Nat) (v1 : Int32) (v2 : Int32) (D : DD) (hv0 : isX2 n K R v0), f_X2_leastAbove_2 N v0 v1 v2 ((n, K, R, D) : Mm) = (g_X2_leastAbove_2 N v0 v1 v2 D).map (lP n K R D) := by
  intro N
  induction N with
  | zero => intros; rfl
  | succ N ih =>
    intro v0 v1 v2 D hv0
    unfold f_X2_leastAbove_2 g_X2_leastAbove_2
    refine z_if (fun _ => ?_) (fun _ => ?_)
    ·
      rfl
    ·
      refine z_if (fun _ => ?_) (fun _ => ?_)
      ·
        exact G_X2_leastAbove_23 _ _ ih _ _ _ _ hv0
      ·
        refine z_ko (X2_o hv0) ?_
        refine z_cP (G_X2_has _ _ _ hv0) (fun r1 he2 => ?_)
        refine z_if (fun _ => ?_) (fun _ => ?_)
        ·
          exact G_X2_leastAbove_23 _ _ ih _ _ _ _ hv0
        ·
          rfl
set_option maxRecDepth 100000 in
def g_X2_leastAbove (v0 : Nat) (v1 : Int32) (D : DD) : Option Int32 :=
  g_X2_leastAbove_2 1000 v0 v1 (0 : Int32) D
set_option maxRecDepth 100000 in
set_option maxHeartbeats 4000000 in
theorem G_X2_leastAbove {n : Nat} {K : Nat → Nat × Nat} {R : Nat → Nat → Option Nat} (v0 : Nat) (v1 : Int32) (D : DD) (hv0 : isX2 n K R v0) : f_X2_leastAbove v0 v1 ((n, K, R, D) : Mm) = (g_X2_leastAbove v0 v1 D).map (lP n K R D) := by
  unfold f_X2_leastAbove g_X2_leastAbove
  exact G_X2_leastAbove_2 1000 _ _ _ _ hv0
set_option maxRecDepth 100000 in
def g_X2_keyOfPlace_46 (k_6 : Nat → Int32 → Int32 → Int32 → Int32 → Int32 → DD → Option Int32) (v0 : Nat) (v1 : Int32) (v2 : Int32) (v3 : Int32) (v4 : Int32) (v5 : Int32) (D : DD) : Option Int32 :=
  k_6 v0 v1 v2 v3 v4 (v5 + (1 : Int32)) D
set_option maxRecDepth 100000 in
set_option maxHeartbeats 4000000 in
theorem G_X2_keyOfPlace_46 {n : Nat} {K : Nat → Nat × Nat} {R : Nat → Nat → Option Nat} (k_6 : Nat → Int32 → Int32 → Int32 → Int32 → Int32 → DD → Option Int32) (f_6 : Nat → Int32 → Int32 → Int32 → Int32 → Int32 → Mm → Option (Int32 × Mm)) (hk_6 : ∀ (v0 : Nat) (v1 : Int32) (v2 : Int32) (v3 : Int32) (v4 : Int32) (v5 : Int32) (D : DD) (hv0 : isX2 n K R v0), f_6 v0 v1 v2 v3 v4 v5 ((n, K, R, D) : Mm) = (k_6 v0 v1 v2 v3 v4 v5 D).map (lP n K R D)) (v0 : Nat) (v1 : Int32) (v2 : Int32) (v3 : Int32) (v4 : Int32) (v5 : Int32) (D : DD) (hv0 : isX2 n K R v0) : f_X2_keyOfPlace_46 f_6 v0 v1 v2 v3 v4 v5 ((n, K, R, D) : Mm) = (g_X2_keyOfPlace_46 k_6 v0 v1 v2 v3 v4 v5 D).map (lP n K R D) := by
  unfold f_X2_keyOfPlace_46 g_X2_keyOfPlace_46
  exact hk_6 _ _ _ _ _ _ _ hv0
set_option maxRecDepth 100000 in
def g_X2_keyOfPlace_6 : Nat → Nat → Int32 → Int32 → Int32 → Int32 → Int32 → DD → Option Int32
  | 0, _, _, _, _, _, _, _ => none
  | n + 1, v0, v1, v2, v3, v4, v5, D =>
    if (100 : Int32) ≤ v5 then (some (-9 : Int32)) else (if v5 < v1 then (g_X2_keyOfPlace_46 (g_X2_keyOfPlace_6 n) v0 v1 v2 v3 v4 v5 D) else (if v2 < v5 then (g_X2_keyOfPlace_46 (g_X2_keyOfPlace_6 n) v0 v1 v2 v3 v4 v5 D) else (pcb (g_X2_has v0 v5 D) (fun r1 => if r1 = 0 then (g_X2_keyOfPlace_46 (g_X2_keyOfPlace_6 n) v0 v1 v2 v3 v4 v5 D) else (if v4 = v3 then (some v5) else (g_X2_keyOfPlace_46 (g_X2_keyOfPlace_6 n) v0 v1 v2 v3 (v4 + (1 : Int32)) v5 D))))))
set_option maxRecDepth 100000 in
set_option maxHeartbeats 4000000 in
theorem G_X2_keyOfPlace_6 {n : Nat} {K : Nat → Nat × Nat} {R : Nat → Nat → Option Nat} : ∀ (N : Nat) (v0 : Nat) (v1 : Int32) (v2 : Int32) (v3 : Int32) (v4 : Int32) (v5 : Int32) (D : DD) (hv0 : isX2 n K R v0), f_X2_keyOfPlace_6 N v0 v1 v2 v3 v4 v5 ((n, K, R, D) : Mm) = (g_X2_keyOfPlace_6 N v0 v1 v2 v3 v4 v5 D).map (lP n K R D) := by
  intro N
  induction N with
  | zero => intros; rfl
  | succ N ih =>
    intro v0 v1 v2 v3 v4 v5 D hv0
    unfold f_X2_keyOfPlace_6 g_X2_keyOfPlace_6
    refine z_if (fun _ => ?_) (fun _ => ?_)
    ·
      rfl
    ·
      refine z_if (fun _ => ?_) (fun _ => ?_)
      ·
        exact G_X2_keyOfPlace_46 _ _ ih _ _ _ _ _ _ _ hv0
      ·
        refine z_if (fun _ => ?_) (fun _ => ?_)
        ·
          exact G_X2_keyOfPlace_46 _ _ ih _ _ _ _ _ _ _ hv0
        ·
          refine z_ko (X2_o hv0) ?_
          refine z_cP (G_X2_has _ _ _ hv0) (fun r1 he2 => ?_)
          refine z_if (fun _ => ?_) (fun _ => ?_)
          ·
            exact G_X2_keyOfPlace_46 _ _ ih _ _ _ _ _ _ _ hv0
          ·
            refine z_if (fun _ => ?_) (fun _ => ?_)
            ·
              rfl
            ·
              exact G_X2_keyOfPlace_46 _ _ ih _ _ _ _ _ _ _ hv0
set_option maxRecDepth 100000 in
def g_X2_keyOfPlace (v0 : Nat) (v1 : Int32) (v2 : Int32) (v3 : Int32) (D : DD) : Option Int32 :=
  g_X2_keyOfPlace_6 1000 v0 v1 v2 v3 (0 : Int32) (0 : Int32) D
set_option maxRecDepth 100000 in
set_option maxHeartbeats 4000000 in
theorem G_X2_keyOfPlace {n : Nat} {K : Nat → Nat × Nat} {R : Nat → Nat → Option Nat} (v0 : Nat) (v1 : Int32) (v2 : Int32) (v3 : Int32) (D : DD) (hv0 : isX2 n K R v0) : f_X2_keyOfPlace v0 v1 v2 v3 ((n, K, R, D) : Mm) = (g_X2_keyOfPlace v0 v1 v2 v3 D).map (lP n K R D) := by
  unfold f_X2_keyOfPlace g_X2_keyOfPlace
  exact G_X2_keyOfPlace_6 1000 _ _ _ _ _ _ _ hv0
set_option maxRecDepth 100000 in
def g_X3_clear (v0 : Nat) (D : DD) : Option DD :=
  dlt (u2 D v0 2 (0 : Int32)) (fun D1 => some D1)
set_option maxRecDepth 100000 in
set_option maxHeartbeats 4000000 in
theorem G_X3_clear {n : Nat} {K : Nat → Nat × Nat} {R : Nat → Nat → Option Nat} (v0 : Nat) (D : DD) (hv0 : isX3 n K R v0) : f_X3_clear v0 ((n, K, R, D) : Mm) = (g_X3_clear v0 D).map (lV n K R) := by
  unfold f_X3_clear g_X3_clear
  refine z_ko (X3_o hv0) ?_
  refine z_lt rfl (fun D1 => ?_)
  rfl
set_option maxRecDepth 100000 in
def g_X3_push (v0 : Nat) (v1 : Int32) (v2 : Int32) (D : DD) : Option DD :=
  if (100 : Int32) ≤ (D v0 2) then (some D) else (zck (inb (D v0 2) 100) (dlt (u2 D (v0 + 1) (ix (D v0 2)) v1) (fun D1 => zck (inb (D1 v0 2) 100) (dlt (u2 D1 (v0 + 2) (ix (D1 v0 2)) v2) (fun D2 => dlt (u2 D2 v0 2 ((D2 v0 2) + (1 : Int32))) (fun D3 => some D3))))))
set_option maxRecDepth 100000 in
set_option maxHeartbeats 4000000 in
theorem G_X3_push {n : Nat} {K : Nat → Nat × Nat} {R : Nat → Nat → Option Nat} (v0 : Nat) (v1 : Int32) (v2 : Int32) (D : DD) (hv0 : isX3 n K R v0) : f_X3_push v0 v1 v2 ((n, K, R, D) : Mm) = (g_X3_push v0 v1 v2 D).map (lV n K R) := by
  unfold f_X3_push g_X3_push
  refine z_ko (X3_o hv0) ?_
  refine z_if (fun _ => ?_) (fun _ => ?_)
  ·
    rfl
  ·
    refine z_rb (X3_r0 hv0) ?_
    refine z_ka (X3_a0 hv0) (fun _ => ?_)
    refine z_lt rfl (fun D1 => ?_)
    refine z_rb (X3_r1 hv0) ?_
    refine z_ka (X3_a1 hv0) (fun _ => ?_)
    refine z_lt rfl (fun D2 => ?_)
    refine z_lt rfl (fun D3 => ?_)
    rfl
set_option maxRecDepth 100000 in
def g_X3_pop (v0 : Nat) (D : DD) : Option (Int32 × DD) :=
  if 0 < (D v0 2) then (dlt (u2 D v0 2 ((D v0 2) - (1 : Int32))) (fun D1 => zck (inb (D1 v0 2) 100) (dlt (u2 D1 v0 3 (D1 (v0 + 1) (ix (D1 v0 2)))) (fun D2 => zck (inb (D2 v0 2) 100) (dlt (u2 D2 v0 4 (D2 (v0 + 2) (ix (D2 v0 2)))) (fun D3 => some ((1 : Int32), D3))))))) else (some ((0 : Int32), D))
set_option maxRecDepth 100000 in
set_option maxHeartbeats 4000000 in
theorem G_X3_pop {n : Nat} {K : Nat → Nat × Nat} {R : Nat → Nat → Option Nat} (v0 : Nat) (D : DD) (hv0 : isX3 n K R v0) : f_X3_pop v0 ((n, K, R, D) : Mm) = (g_X3_pop v0 D).map (lS n K R) := by
  unfold f_X3_pop g_X3_pop
  refine z_ko (X3_o hv0) ?_
  refine z_if (fun _ => ?_) (fun _ => ?_)
  ·
    refine z_lt rfl (fun D1 => ?_)
    refine z_rb (X3_r0 hv0) ?_
    refine z_ka (X3_a0 hv0) (fun _ => ?_)
    refine z_lt rfl (fun D2 => ?_)
    refine z_rb (X3_r1 hv0) ?_
    refine z_ka (X3_a1 hv0) (fun _ => ?_)
    refine z_lt rfl (fun D3 => ?_)
    rfl
  ·
    rfl
set_option maxRecDepth 100000 in
def g_X3_key (v0 : Nat) (D : DD) : Option Int32 :=
  some (D v0 3)
set_option maxRecDepth 100000 in
set_option maxHeartbeats 4000000 in
theorem G_X3_key {n : Nat} {K : Nat → Nat × Nat} {R : Nat → Nat → Option Nat} (v0 : Nat) (D : DD) (hv0 : isX3 n K R v0) : f_X3_key v0 ((n, K, R, D) : Mm) = (g_X3_key v0 D).map (lP n K R D) := by
  unfold f_X3_key g_X3_key
  refine z_ko (X3_o hv0) ?_
  rfl
set_option maxRecDepth 100000 in
def g_X3_hi (v0 : Nat) (D : DD) : Option Int32 :=
  some (D v0 4)
set_option maxRecDepth 100000 in
set_option maxHeartbeats 4000000 in
theorem G_X3_hi {n : Nat} {K : Nat → Nat × Nat} {R : Nat → Nat → Option Nat} (v0 : Nat) (D : DD) (hv0 : isX3 n K R v0) : f_X3_hi v0 ((n, K, R, D) : Mm) = (g_X3_hi v0 D).map (lP n K R D) := by
  unfold f_X3_hi g_X3_hi
  refine z_ko (X3_o hv0) ?_
  rfl
set_option maxRecDepth 100000 in
def g_X5_trusted (v0 : Nat) (D : DD) : Option Int32 :=
  some (D v0 1)
set_option maxRecDepth 100000 in
set_option maxHeartbeats 4000000 in
theorem G_X5_trusted {n : Nat} {K : Nat → Nat × Nat} {R : Nat → Nat → Option Nat} (v0 : Nat) (D : DD) (hv0 : isX5 n K R v0) : f_X5_trusted v0 ((n, K, R, D) : Mm) = (g_X5_trusted v0 D).map (lP n K R D) := by
  unfold f_X5_trusted g_X5_trusted
  refine z_ko (X5_o hv0) ?_
  rfl
set_option maxRecDepth 100000 in
def g_X5_formerCount (v0 : Nat) (D : DD) : Option Int32 :=
  some (D v0 3)
set_option maxRecDepth 100000 in
set_option maxHeartbeats 4000000 in
theorem G_X5_formerCount {n : Nat} {K : Nat → Nat × Nat} {R : Nat → Nat → Option Nat} (v0 : Nat) (D : DD) (hv0 : isX5 n K R v0) : f_X5_formerCount v0 ((n, K, R, D) : Mm) = (g_X5_formerCount v0 D).map (lP n K R D) := by
  unfold f_X5_formerCount g_X5_formerCount
  refine z_ko (X5_o hv0) ?_
  rfl
set_option maxRecDepth 100000 in
def g_X5_formerAt (v0 : Nat) (v1 : Int32) (D : DD) : Option Int32 :=
  if v1 < 0 then (some (0 : Int32)) else (if (D v0 3) ≤ v1 then (some (0 : Int32)) else (zck (inb v1 8) (some (D (v0 + 3) (ix v1)))))
set_option maxRecDepth 100000 in
set_option maxHeartbeats 4000000 in
theorem G_X5_formerAt {n : Nat} {K : Nat → Nat × Nat} {R : Nat → Nat → Option Nat} (v0 : Nat) (v1 : Int32) (D : DD) (hv0 : isX5 n K R v0) : f_X5_formerAt v0 v1 ((n, K, R, D) : Mm) = (g_X5_formerAt v0 v1 D).map (lP n K R D) := by
  unfold f_X5_formerAt g_X5_formerAt
  refine z_if (fun _ => ?_) (fun _ => ?_)
  ·
    rfl
  ·
    refine z_ko (X5_o hv0) ?_
    refine z_if (fun _ => ?_) (fun _ => ?_)
    ·
      rfl
    ·
      refine z_rb (X5_r2 hv0) ?_
      refine z_ka (X5_a2 hv0) (fun _ => ?_)
      rfl
set_option maxRecDepth 100000 in
def g_J9_min_7cf53 (v0 : Int32) (v1 : Int32) : Option Int32 :=
  if v1 < v0 then (some v1) else (some v0)
set_option maxRecDepth 100000 in
set_option maxHeartbeats 4000000 in
theorem G_J9_min_7cf53 {n : Nat} {K : Nat → Nat × Nat} {R : Nat → Nat → Option Nat} (v0 : Int32) (v1 : Int32) (D : DD) : f_J9_min_7cf53 v0 v1 ((n, K, R, D) : Mm) = (g_J9_min_7cf53 v0 v1).map (lP n K R D) := by
  unfold f_J9_min_7cf53 g_J9_min_7cf53
  refine z_if (fun _ => ?_) (fun _ => ?_)
  ·
    rfl
  ·
    rfl
set_option maxRecDepth 100000 in
def g_X5_nowTrust_3 : Nat → Nat → Int32 → Int32 → DD → Option (Int32 × DD)
  | 0, _, _, _, _ => none
  | n + 1, v0, v1, v2, D =>
    if v2 ≤ 0 then (zck (inb (0 : Int32) 8) (dlt (u2 D (v0 + 3) (ix (0 : Int32)) (D v0 1)) (fun D1 => pcb (g_J9_min_7cf53 ((D1 v0 3) + (1 : Int32)) (8 : Int32)) (fun r2 => dlt (u2 D1 v0 3 r2) (fun D4 => dlt (u2 D4 v0 1 v1) (fun D5 => some ((D5 v0 3), D5))))))) else (zck (inb (v2 - (1 : Int32)) 8) (zck (inb v2 8) (dlt (u2 D (v0 + 3) (ix v2) (D (v0 + 3) (ix (v2 - (1 : Int32))))) (fun D6 => g_X5_nowTrust_3 n v0 v1 (v2 + (-1 : Int32)) D6))))
set_option maxRecDepth 100000 in
set_option maxHeartbeats 4000000 in
theorem G_X5_nowTrust_3 {n : Nat} {K : Nat → Nat × Nat} {R : Nat → Nat → Option Nat} : ∀ (N : Nat) (v0 : Nat) (v1 : Int32) (v2 : Int32) (D : DD) (hv0 : isX5 n K R v0), f_X5_nowTrust_3 N v0 v1 v2 ((n, K, R, D) : Mm) = (g_X5_nowTrust_3 N v0 v1 v2 D).map (lS n K R) := by
  intro N
  induction N with
  | zero => intros; rfl
  | succ N ih =>
    intro v0 v1 v2 D hv0
    unfold f_X5_nowTrust_3 g_X5_nowTrust_3
    refine z_if (fun _ => ?_) (fun _ => ?_)
    ·
      refine z_ko (X5_o hv0) ?_
      refine z_rb (X5_r2 hv0) ?_
      refine z_ka (X5_a2 hv0) (fun _ => ?_)
      refine z_lt rfl (fun D1 => ?_)
      refine z_cP (G_J9_min_7cf53 _ _ _) (fun r2 he3 => ?_)
      refine z_ko (X5_o hv0) ?_
      refine z_lt rfl (fun D4 => ?_)
      refine z_lt rfl (fun D5 => ?_)
      rfl
    ·
      refine z_ko (X5_o hv0) ?_
      refine z_rb (X5_r2 hv0) ?_
      refine z_ka (X5_a2 hv0) (fun _ => ?_)
      refine z_ka (X5_a2 hv0) (fun _ => ?_)
      refine z_lt rfl (fun D6 => ?_)
      exact ih _ _ _ _ hv0
set_option maxRecDepth 100000 in
def g_X5_nowTrust (v0 : Nat) (v1 : Int32) (D : DD) : Option (Int32 × DD) :=
  g_X5_nowTrust_3 1000 v0 v1 (7 : Int32) D
set_option maxRecDepth 100000 in
set_option maxHeartbeats 4000000 in
theorem G_X5_nowTrust {n : Nat} {K : Nat → Nat × Nat} {R : Nat → Nat → Option Nat} (v0 : Nat) (v1 : Int32) (D : DD) (hv0 : isX5 n K R v0) : f_X5_nowTrust v0 v1 ((n, K, R, D) : Mm) = (g_X5_nowTrust v0 v1 D).map (lS n K R) := by
  unfold f_X5_nowTrust g_X5_nowTrust
  exact G_X5_nowTrust_3 1000 _ _ _ _ hv0
set_option maxRecDepth 100000 in
def g_X5_isFormer_2 : Nat → Nat → Int32 → Int32 → DD → Option Int32
  | 0, _, _, _, _ => none
  | n + 1, v0, v1, v2, D =>
    if (D v0 3) ≤ v2 then (some (0 : Int32)) else (pcb (g_X5_formerAt v0 v2 D) (fun r1 => if r1 = v1 then (some (1 : Int32)) else (g_X5_isFormer_2 n v0 v1 (v2 + (1 : Int32)) D)))
set_option maxRecDepth 100000 in
set_option maxHeartbeats 4000000 in
theorem G_X5_isFormer_2 {n : Nat} {K : Nat → Nat × Nat} {R : Nat → Nat → Option Nat} : ∀ (N : Nat) (v0 : Nat) (v1 : Int32) (v2 : Int32) (D : DD) (hv0 : isX5 n K R v0), f_X5_isFormer_2 N v0 v1 v2 ((n, K, R, D) : Mm) = (g_X5_isFormer_2 N v0 v1 v2 D).map (lP n K R D) := by
  intro N
  induction N with
  | zero => intros; rfl
  | succ N ih =>
    intro v0 v1 v2 D hv0
    unfold f_X5_isFormer_2 g_X5_isFormer_2
    refine z_ko (X5_o hv0) ?_
    refine z_if (fun _ => ?_) (fun _ => ?_)
    ·
      rfl
    ·
      refine z_cP (G_X5_formerAt _ _ _ hv0) (fun r1 he2 => ?_)
      refine z_if (fun _ => ?_) (fun _ => ?_)
      ·
        rfl
      ·
        exact ih _ _ _ _ hv0
set_option maxRecDepth 100000 in
def g_X5_isFormer (v0 : Nat) (v1 : Int32) (D : DD) : Option Int32 :=
  g_X5_isFormer_2 1000 v0 v1 (0 : Int32) D
set_option maxRecDepth 100000 in
set_option maxHeartbeats 4000000 in
theorem G_X5_isFormer {n : Nat} {K : Nat → Nat × Nat} {R : Nat → Nat → Option Nat} (v0 : Nat) (v1 : Int32) (D : DD) (hv0 : isX5 n K R v0) : f_X5_isFormer v0 v1 ((n, K, R, D) : Mm) = (g_X5_isFormer v0 v1 D).map (lP n K R D) := by
  unfold f_X5_isFormer g_X5_isFormer
  exact G_X5_isFormer_2 1000 _ _ _ _ hv0
set_option maxRecDepth 100000 in
def g_X7_hideNothing (v0 : Nat) (D : DD) : Option DD :=
  vcb (g_J7_fill_53178 101 (v0 + 4) (0 : Int32) D) (fun D2 => some D2)
set_option maxRecDepth 100000 in
set_option maxHeartbeats 4000000 in
theorem G_X7_hideNothing {n : Nat} {K : Nat → Nat × Nat} {R : Nat → Nat → Option Nat} (v0 : Nat) (D : DD) (hv0 : isX7 n K R v0) : f_X7_hideNothing v0 ((n, K, R, D) : Mm) = (g_X7_hideNothing v0 D).map (lV n K R) := by
  unfold f_X7_hideNothing g_X7_hideNothing
  refine z_ko (X7_o hv0) ?_
  refine z_rb (X7_r3 hv0) ?_
  refine z_cV (G_J7_fill_53178 _ _ _ (X7_a3 hv0)) (fun _ D2 => ?_)
  rfl
set_option maxRecDepth 100000 in
def g_X8_keyOfItem (v0 : Int32) : Option Int32 :=
  some (((-100 : Int32) - v0) / (100 : Int32))
set_option maxRecDepth 100000 in
set_option maxHeartbeats 4000000 in
theorem G_X8_keyOfItem {n : Nat} {K : Nat → Nat × Nat} {R : Nat → Nat → Option Nat} (v0 : Int32) (D : DD) : f_X8_keyOfItem v0 ((n, K, R, D) : Mm) = (g_X8_keyOfItem v0).map (lP n K R D) := by
  unfold f_X8_keyOfItem g_X8_keyOfItem
  rfl
set_option maxRecDepth 100000 in
def g_X8_rankOf (v0 : Int32) : Option Int32 :=
  some (((((((4721 : Int64) * (((v0).toInt64) + (3 : Int64))) * (((v0).toInt64) + (3 : Int64))) * (((v0).toInt64) + (3 : Int64))) - ((((4721 : Int64) * (((v0).toInt64) + (3 : Int64))) * (((v0).toInt64) + (3 : Int64))) * (((v0).toInt64) + (3 : Int64))) / (10007 : Int64) * (10007 : Int64))).toInt32)
set_option maxRecDepth 100000 in
set_option maxHeartbeats 4000000 in
theorem G_X8_rankOf {n : Nat} {K : Nat → Nat × Nat} {R : Nat → Nat → Option Nat} (v0 : Int32) (D : DD) : f_X8_rankOf v0 ((n, K, R, D) : Mm) = (g_X8_rankOf v0).map (lP n K R D) := by
  unfold f_X8_rankOf g_X8_rankOf
  rfl
set_option maxRecDepth 100000 in
def g_X8_isAbove (v0 : Int32) (v1 : Int32) : Option Int32 :=
  pcb (g_X8_rankOf v0) (fun r1 => pcb (g_X8_rankOf v1) (fun r3 => if r1 = r3 then (if v1 ≤ v0 then (some (0 : Int32)) else (some (1 : Int32))) else (if r1 ≤ r3 then (some (0 : Int32)) else (some (1 : Int32)))))
set_option maxRecDepth 100000 in
set_option maxHeartbeats 4000000 in
theorem G_X8_isAbove {n : Nat} {K : Nat → Nat × Nat} {R : Nat → Nat → Option Nat} (v0 : Int32) (v1 : Int32) (D : DD) : f_X8_isAbove v0 v1 ((n, K, R, D) : Mm) = (g_X8_isAbove v0 v1).map (lP n K R D) := by
  unfold f_X8_isAbove g_X8_isAbove
  refine z_cP (G_X8_rankOf _ _) (fun r1 he2 => ?_)
  refine z_cP (G_X8_rankOf _ _) (fun r3 he4 => ?_)
  refine z_if (fun _ => ?_) (fun _ => ?_)
  ·
    refine z_if (fun _ => ?_) (fun _ => ?_)
    ·
      rfl
    ·
      rfl
  ·
    refine z_if (fun _ => ?_) (fun _ => ?_)
    ·
      rfl
    ·
      rfl
set_option maxRecDepth 100000 in
def g_X5_reasonOfNode (v0 : Int32) (v1 : Int32) (v2 : Int32) (v3 : Int32) : Option Int32 :=
  if v0 < v2 then (some (3 : Int32)) else (if v0 ≤ v3 then (pcb (g_X8_isNumber v1) (fun r1 => if r1 = 0 then (some (0 : Int32)) else (pcb (g_X8_isAbove v1 v0) (fun r3 => if r3 = 0 then (some (4 : Int32)) else (some (0 : Int32)))))) else (some (3 : Int32)))
set_option maxRecDepth 100000 in
set_option maxHeartbeats 4000000 in
theorem G_X5_reasonOfNode {n : Nat} {K : Nat → Nat × Nat} {R : Nat → Nat → Option Nat} (v0 : Int32) (v1 : Int32) (v2 : Int32) (v3 : Int32) (D : DD) : f_X5_reasonOfNode v0 v1 v2 v3 ((n, K, R, D) : Mm) = (g_X5_reasonOfNode v0 v1 v2 v3).map (lP n K R D) := by
  unfold f_X5_reasonOfNode g_X5_reasonOfNode
  refine z_if (fun _ => ?_) (fun _ => ?_)
  ·
    rfl
  ·
    refine z_if (fun _ => ?_) (fun _ => ?_)
    ·
      refine z_cP (G_X8_isNumber _ _) (fun r1 he2 => ?_)
      refine z_if (fun _ => ?_) (fun _ => ?_)
      ·
        rfl
      ·
        refine z_cP (G_X8_isAbove _ _ _) (fun r3 he4 => ?_)
        refine z_if (fun _ => ?_) (fun _ => ?_)
        ·
          rfl
        ·
          rfl
    ·
      rfl
set_option maxRecDepth 100000 in
def g_X5_reasonOfLeaf (v0 : Int32) (v1 : Int32) (v2 : Int32) (v3 : Int32) : Option Int32 :=
  if v0 = 0 then (some (0 : Int32)) else (if v1 ≤ v2 then (if v3 = 0 then (some (0 : Int32)) else (some (5 : Int32))) else (some (3 : Int32)))
set_option maxRecDepth 100000 in
set_option maxHeartbeats 4000000 in
theorem G_X5_reasonOfLeaf {n : Nat} {K : Nat → Nat × Nat} {R : Nat → Nat → Option Nat} (v0 : Int32) (v1 : Int32) (v2 : Int32) (v3 : Int32) (D : DD) : f_X5_reasonOfLeaf v0 v1 v2 v3 ((n, K, R, D) : Mm) = (g_X5_reasonOfLeaf v0 v1 v2 v3).map (lP n K R D) := by
  unfold f_X5_reasonOfLeaf g_X5_reasonOfLeaf
  refine z_if (fun _ => ?_) (fun _ => ?_)
  ·
    rfl
  ·
    refine z_if (fun _ => ?_) (fun _ => ?_)
    ·
      refine z_if (fun _ => ?_) (fun _ => ?_)
      ·
        rfl
      ·
        rfl
    ·
      rfl
set_option maxRecDepth 100000 in
def g_X8_valueOfItem (v0 : Int32) : Option Int32 :=
  some (((-100 : Int32) - v0) - ((-100 : Int32) - v0) / (100 : Int32) * (100 : Int32))
set_option maxRecDepth 100000 in
set_option maxHeartbeats 4000000 in
theorem G_X8_valueOfItem {n : Nat} {K : Nat → Nat × Nat} {R : Nat → Nat → Option Nat} (v0 : Int32) (D : DD) : f_X8_valueOfItem v0 ((n, K, R, D) : Mm) = (g_X8_valueOfItem v0).map (lP n K R D) := by
  unfold f_X8_valueOfItem g_X8_valueOfItem
  rfl
set_option maxRecDepth 100000 in
def g_X7_hide (v0 : Nat) (v1 : Int32) (v2 : Int32) (D : DD) : Option DD :=
  if v1 < 0 then (some D) else (if (100 : Int32) < v1 then (some D) else (zck (inb v1 101) (dlt (u2 D (v0 + 4) (ix v1) v2) (fun D1 => some D1))))
set_option maxRecDepth 100000 in
set_option maxHeartbeats 4000000 in
theorem G_X7_hide {n : Nat} {K : Nat → Nat × Nat} {R : Nat → Nat → Option Nat} (v0 : Nat) (v1 : Int32) (v2 : Int32) (D : DD) (hv0 : isX7 n K R v0) : f_X7_hide v0 v1 v2 ((n, K, R, D) : Mm) = (g_X7_hide v0 v1 v2 D).map (lV n K R) := by
  unfold f_X7_hide g_X7_hide
  refine z_if (fun _ => ?_) (fun _ => ?_)
  ·
    rfl
  ·
    refine z_if (fun _ => ?_) (fun _ => ?_)
    ·
      rfl
    ·
      refine z_ko (X7_o hv0) ?_
      refine z_rb (X7_r3 hv0) ?_
      refine z_ka (X7_a3 hv0) (fun _ => ?_)
      refine z_lt rfl (fun D1 => ?_)
      rfl
set_option maxRecDepth 100000 in
def g_X5_takeIn_221 (k_34 : Nat → Int32 → Int32 → Int32 → Int32 → Int32 → Int32 → DD → Option (Int32 × DD)) (v0 : Nat) (v1 : Int32) (v2 : Int32) (v3 : Int32) (v4 : Int32) (v5 : Int32) (v6 : Int32) (D : DD) : Option (Int32 × DD) :=
  k_34 v0 v1 v2 v3 v4 v5 (v6 + (1 : Int32)) D
set_option maxRecDepth 100000 in
set_option maxHeartbeats 4000000 in
theorem G_X5_takeIn_221 {n : Nat} {K : Nat → Nat × Nat} {R : Nat → Nat → Option Nat} (k_34 : Nat → Int32 → Int32 → Int32 → Int32 → Int32 → Int32 → DD → Option (Int32 × DD)) (f_34 : Nat → Int32 → Int32 → Int32 → Int32 → Int32 → Int32 → Mm → Option (Int32 × Mm)) (hk_34 : ∀ (v0 : Nat) (v1 : Int32) (v2 : Int32) (v3 : Int32) (v4 : Int32) (v5 : Int32) (v6 : Int32) (D : DD) (hv0 : isX5 n K R v0), f_34 v0 v1 v2 v3 v4 v5 v6 ((n, K, R, D) : Mm) = (k_34 v0 v1 v2 v3 v4 v5 v6 D).map (lS n K R)) (v0 : Nat) (v1 : Int32) (v2 : Int32) (v3 : Int32) (v4 : Int32) (v5 : Int32) (v6 : Int32) (D : DD) (hv0 : isX5 n K R v0) : f_X5_takeIn_221 f_34 v0 v1 v2 v3 v4 v5 v6 ((n, K, R, D) : Mm) = (g_X5_takeIn_221 k_34 v0 v1 v2 v3 v4 v5 v6 D).map (lS n K R) := by
  unfold f_X5_takeIn_221 g_X5_takeIn_221
  exact hk_34 _ _ _ _ _ _ _ _ hv0
set_option maxRecDepth 100000 in
def g_X5_takeIn_104 (k_34 : Nat → Int32 → Int32 → Int32 → Int32 → Int32 → Int32 → DD → Option (Int32 × DD)) (v0 : Nat) (v1 : Int32) (v2 : Int32) (v4 : Int32) (v5 : Int32) (v6 : Int32) (v7 : Int32) (w0 : Int32) (D : DD) : Option (Int32 × DD) :=
  if w0 = 0 then (if 0 ≤ v7 then (vcb (g_X7_hide (v0 + 6) (v5 + (1 : Int32)) v7 D) (fun D2 => dcb (g_X3_pop (v0 + 15) D2) (fun r3 D4 => if r3 = 0 then (pcb (g_X1_count (v0 + 1) D4) (fun r5 => if r5 ≤ (v6 + (1 : Int32)) then (some ((0 : Int32), D4)) else (some ((2 : Int32), D4)))) else (pcb (g_X3_key (v0 + 15) D4) (fun r7 => pcb (g_X3_hi (v0 + 15) D4) (fun r9 => g_X5_takeIn_221 k_34 v0 v1 v2 r7 (r7 + (1 : Int32)) r9 v6 D4)))))) else (pcb (g_X8_keyOfItem v7) (fun r11 => pcb (g_X8_valueOfItem v7) (fun r13 => vcb (g_X2_give (v0 + 4) r11 r13 D) (fun D16 => vcb (g_X3_push (v0 + 15) r11 v5 D16) (fun D18 => g_X5_takeIn_221 k_34 v0 v1 v2 r11 v4 (r11 - (1 : Int32)) v6 D18)))))) else (some (w0, D))
set_option maxRecDepth 100000 in
set_option maxHeartbeats 4000000 in
theorem G_X5_takeIn_104 {n : Nat} {K : Nat → Nat × Nat} {R : Nat → Nat → Option Nat} (k_34 : Nat → Int32 → Int32 → Int32 → Int32 → Int32 → Int32 → DD → Option (Int32 × DD)) (f_34 : Nat → Int32 → Int32 → Int32 → Int32 → Int32 → Int32 → Mm → Option (Int32 × Mm)) (hk_34 : ∀ (v0 : Nat) (v1 : Int32) (v2 : Int32) (v3 : Int32) (v4 : Int32) (v5 : Int32) (v6 : Int32) (D : DD) (hv0 : isX5 n K R v0), f_34 v0 v1 v2 v3 v4 v5 v6 ((n, K, R, D) : Mm) = (k_34 v0 v1 v2 v3 v4 v5 v6 D).map (lS n K R)) (v0 : Nat) (v1 : Int32) (v2 : Int32) (v4 : Int32) (v5 : Int32) (v6 : Int32) (v7 : Int32) (w0 : Int32) (D : DD) (hv0 : isX5 n K R v0) : f_X5_takeIn_104 f_34 v0 v1 v2 v4 v5 v6 v7 w0 ((n, K, R, D) : Mm) = (g_X5_takeIn_104 k_34 v0 v1 v2 v4 v5 v6 v7 w0 D).map (lS n K R) := by
  unfold f_X5_takeIn_104 g_X5_takeIn_104
  refine z_if (fun _ => ?_) (fun _ => ?_)
  ·
    refine z_if (fun _ => ?_) (fun _ => ?_)
    ·
      refine z_ko (X5_o hv0) ?_
      refine z_rb (X5_r5 hv0) ?_
      refine z_ko (X7_o (X5_s5 hv0)) ?_
      refine z_cV (G_X7_hide _ _ _ _ (X5_s5 hv0)) (fun _ D2 => ?_)
      refine z_ko (X5_o hv0) ?_
      refine z_rb (X5_r6 hv0) ?_
      refine z_ko (X3_o (X5_s6 hv0)) ?_
      refine z_cS (G_X3_pop _ _ (X5_s6 hv0)) (fun r3 D4 => ?_)
      refine z_if (fun _ => ?_) (fun _ => ?_)
      ·
        refine z_ko (X5_o hv0) ?_
        refine z_rb (X5_r0 hv0) ?_
        refine z_ko (X1_o (X5_s0 hv0)) ?_
        refine z_cP (G_X1_count _ _ (X5_s0 hv0)) (fun r5 he6 => ?_)
        refine z_if (fun _ => ?_) (fun _ => ?_)
        ·
          rfl
        ·
          rfl
      ·
        refine z_ko (X5_o hv0) ?_
        refine z_rb (X5_r6 hv0) ?_
        refine z_ko (X3_o (X5_s6 hv0)) ?_
        refine z_cP (G_X3_key _ _ (X5_s6 hv0)) (fun r7 he8 => ?_)
        refine z_ko (X5_o hv0) ?_
        refine z_rb (X5_r6 hv0) ?_
        refine z_ko (X3_o (X5_s6 hv0)) ?_
        refine z_cP (G_X3_hi _ _ (X5_s6 hv0)) (fun r9 he10 => ?_)
        exact G_X5_takeIn_221 _ _ hk_34 _ _ _ _ _ _ _ _ hv0
    ·
      refine z_cP (G_X8_keyOfItem _ _) (fun r11 he12 => ?_)
      refine z_ko (X5_o hv0) ?_
      refine z_rb (X5_r4 hv0) ?_
      refine z_cP (G_X8_valueOfItem _ _) (fun r13 he14 => ?_)
      refine z_ko (X2_o (X5_s4 hv0)) ?_
      refine z_cV (G_X2_give _ _ _ _ (X5_s4 hv0)) (fun _ D16 => ?_)
      refine z_ko (X5_o hv0) ?_
      refine z_rb (X5_r6 hv0) ?_
      refine z_ko (X3_o (X5_s6 hv0)) ?_
      refine z_cV (G_X3_push _ _ _ _ (X5_s6 hv0)) (fun _ D18 => ?_)
      exact G_X5_takeIn_221 _ _ hk_34 _ _ _ _ _ _ _ _ hv0
  ·
    rfl
set_option maxRecDepth 100000 in
def g_X5_takeIn_101 (k_34 : Nat → Int32 → Int32 → Int32 → Int32 → Int32 → Int32 → DD → Option (Int32 × DD)) (v0 : Nat) (v1 : Int32) (v2 : Int32) (v4 : Int32) (v5 : Int32) (v6 : Int32) (v7 : Int32) (w0 : Int32) (w1 : Int32) (w2 : Int32) (w3 : Int32) (D : DD) : Option (Int32 × DD) :=
  pcb (g_X5_reasonOfLeaf w0 w1 w2 w3) (fun r19 => g_X5_takeIn_104 k_34 v0 v1 v2 v4 v5 v6 v7 r19 D)
set_option maxRecDepth 100000 in
set_option maxHeartbeats 4000000 in
theorem G_X5_takeIn_101 {n : Nat} {K : Nat → Nat × Nat} {R : Nat → Nat → Option Nat} (k_34 : Nat → Int32 → Int32 → Int32 → Int32 → Int32 → Int32 → DD → Option (Int32 × DD)) (f_34 : Nat → Int32 → Int32 → Int32 → Int32 → Int32 → Int32 → Mm → Option (Int32 × Mm)) (hk_34 : ∀ (v0 : Nat) (v1 : Int32) (v2 : Int32) (v3 : Int32) (v4 : Int32) (v5 : Int32) (v6 : Int32) (D : DD) (hv0 : isX5 n K R v0), f_34 v0 v1 v2 v3 v4 v5 v6 ((n, K, R, D) : Mm) = (k_34 v0 v1 v2 v3 v4 v5 v6 D).map (lS n K R)) (v0 : Nat) (v1 : Int32) (v2 : Int32) (v4 : Int32) (v5 : Int32) (v6 : Int32) (v7 : Int32) (w0 : Int32) (w1 : Int32) (w2 : Int32) (w3 : Int32) (D : DD) (hv0 : isX5 n K R v0) : f_X5_takeIn_101 f_34 v0 v1 v2 v4 v5 v6 v7 w0 w1 w2 w3 ((n, K, R, D) : Mm) = (g_X5_takeIn_101 k_34 v0 v1 v2 v4 v5 v6 v7 w0 w1 w2 w3 D).map (lS n K R) := by
  unfold f_X5_takeIn_101 g_X5_takeIn_101
  refine z_cP (G_X5_reasonOfLeaf _ _ _ _ _) (fun r19 he20 => ?_)
  exact G_X5_takeIn_104 _ _ hk_34 _ _ _ _ _ _ _ _ _ hv0
set_option maxRecDepth 100000 in
def g_X5_takeIn_100 (k_34 : Nat → Int32 → Int32 → Int32 → Int32 → Int32 → Int32 → DD → Option (Int32 × DD)) (v0 : Nat) (v1 : Int32) (v2 : Int32) (v4 : Int32) (v5 : Int32) (v6 : Int32) (v7 : Int32) (w0 : Int32) (w1 : Int32) (w2 : Int32) (D : DD) : Option (Int32 × DD) :=
  g_X5_takeIn_101 k_34 v0 v1 v2 v4 v5 v6 v7 w0 w1 w2 (0 : Int32) D
set_option maxRecDepth 100000 in
set_option maxHeartbeats 4000000 in
theorem G_X5_takeIn_100 {n : Nat} {K : Nat → Nat × Nat} {R : Nat → Nat → Option Nat} (k_34 : Nat → Int32 → Int32 → Int32 → Int32 → Int32 → Int32 → DD → Option (Int32 × DD)) (f_34 : Nat → Int32 → Int32 → Int32 → Int32 → Int32 → Int32 → Mm → Option (Int32 × Mm)) (hk_34 : ∀ (v0 : Nat) (v1 : Int32) (v2 : Int32) (v3 : Int32) (v4 : Int32) (v5 : Int32) (v6 : Int32) (D : DD) (hv0 : isX5 n K R v0), f_34 v0 v1 v2 v3 v4 v5 v6 ((n, K, R, D) : Mm) = (k_34 v0 v1 v2 v3 v4 v5 v6 D).map (lS n K R)) (v0 : Nat) (v1 : Int32) (v2 : Int32) (v4 : Int32) (v5 : Int32) (v6 : Int32) (v7 : Int32) (w0 : Int32) (w1 : Int32) (w2 : Int32) (D : DD) (hv0 : isX5 n K R v0) : f_X5_takeIn_100 f_34 v0 v1 v2 v4 v5 v6 v7 w0 w1 w2 ((n, K, R, D) : Mm) = (g_X5_takeIn_100 k_34 v0 v1 v2 v4 v5 v6 v7 w0 w1 w2 D).map (lS n K R) := by
  unfold f_X5_takeIn_100 g_X5_takeIn_100
  exact G_X5_takeIn_101 _ _ hk_34 _ _ _ _ _ _ _ _ _ _ _ _ hv0
set_option maxRecDepth 100000 in
def g_X5_takeIn_34 : Nat → Nat → Int32 → Int32 → Int32 → Int32 → Int32 → Int32 → DD → Option (Int32 × DD)
  | 0, _, _, _, _, _, _, _, _ => none
  | n + 1, v0, v1, v2, v3, v4, v5, v6, D =>
    pcb (g_X1_count (v0 + 1) D) (fun r21 => if r21 ≤ v6 then (some ((1 : Int32), D)) else (pcb (g_X1_itemAt (v0 + 1) v6 D) (fun r23 => if 0 ≤ r23 then (if v2 < v4 then (g_X5_takeIn_100 (g_X5_takeIn_34 n) v0 v1 v2 v4 v5 v6 r23 r23 v4 v5 D) else (if v5 < v1 then (g_X5_takeIn_100 (g_X5_takeIn_34 n) v0 v1 v2 v4 v5 v6 r23 r23 v4 v5 D) else (g_X5_takeIn_101 (g_X5_takeIn_34 n) v0 v1 v2 v4 v5 v6 r23 r23 v4 v5 (1 : Int32) D))) else (pcb (g_X8_keyOfItem r23) (fun r25 => pcb (g_X5_reasonOfNode r25 v3 v4 v5) (fun r27 => g_X5_takeIn_104 (g_X5_takeIn_34 n) v0 v1 v2 v4 v5 v6 r23 r27 D))))))
set_option maxRecDepth 100000 in
set_option maxHeartbeats 4000000 in
theorem G_X5_takeIn_34 {n : Nat} {K : Nat → Nat × Nat} {R : Nat → Nat → Option Nat} : ∀ (N : Nat) (v0 : Nat) (v1 : Int32) (v2 : Int32) (v3 : Int32) (v4 : Int32) (v5 : Int32) (v6 : Int32) (D : DD) (hv0 : isX5 n K R v0), f_X5_takeIn_34 N v0 v1 v2 v3 v4 v5 v6 ((n, K, R, D) : Mm) = (g_X5_takeIn_34 N v0 v1 v2 v3 v4 v5 v6 D).map (lS n K R) := by
  intro N
  induction N with
  | zero => intros; rfl
  | succ N ih =>
    intro v0 v1 v2 v3 v4 v5 v6 D hv0
    unfold f_X5_takeIn_34 g_X5_takeIn_34
    refine z_ko (X5_o hv0) ?_
    refine z_rb (X5_r0 hv0) ?_
    refine z_ko (X1_o (X5_s0 hv0)) ?_
    refine z_cP (G_X1_count _ _ (X5_s0 hv0)) (fun r21 he22 => ?_)
    refine z_if (fun _ => ?_) (fun _ => ?_)
    ·
      rfl
    ·
      refine z_ko (X5_o hv0) ?_
      refine z_rb (X5_r0 hv0) ?_
      refine z_ko (X1_o (X5_s0 hv0)) ?_
      refine z_cP (G_X1_itemAt _ _ _ (X5_s0 hv0)) (fun r23 he24 => ?_)
      refine z_if (fun _ => ?_) (fun _ => ?_)
      ·
        refine z_if (fun _ => ?_) (fun _ => ?_)
        ·
          exact G_X5_takeIn_100 _ _ ih _ _ _ _ _ _ _ _ _ _ _ hv0
        ·
          refine z_if (fun _ => ?_) (fun _ => ?_)
          ·
            exact G_X5_takeIn_100 _ _ ih _ _ _ _ _ _ _ _ _ _ _ hv0
          ·
            exact G_X5_takeIn_101 _ _ ih _ _ _ _ _ _ _ _ _ _ _ _ hv0
      ·
        refine z_cP (G_X8_keyOfItem _ _) (fun r25 he26 => ?_)
        refine z_cP (G_X5_reasonOfNode _ _ _ _ _) (fun r27 he28 => ?_)
        exact G_X5_takeIn_104 _ _ ih _ _ _ _ _ _ _ _ _ hv0
set_option maxRecDepth 100000 in
def g_X5_takeIn (v0 : Nat) (v1 : Int32) (v2 : Int32) (D : DD) : Option (Int32 × DD) :=
  vcb (g_X2_clear (v0 + 4) D) (fun D30 => vcb (g_X7_hideNothing (v0 + 6) D30) (fun D32 => vcb (g_X3_clear (v0 + 15) D32) (fun D34 => g_X5_takeIn_34 1000 v0 v1 v2 (-9 : Int32) (0 : Int32) (99 : Int32) (0 : Int32) D34)))
set_option maxRecDepth 100000 in
set_option maxHeartbeats 4000000 in
theorem G_X5_takeIn {n : Nat} {K : Nat → Nat × Nat} {R : Nat → Nat → Option Nat} (v0 : Nat) (v1 : Int32) (v2 : Int32) (D : DD) (hv0 : isX5 n K R v0) : f_X5_takeIn v0 v1 v2 ((n, K, R, D) : Mm) = (g_X5_takeIn v0 v1 v2 D).map (lS n K R) := by
  unfold f_X5_takeIn g_X5_takeIn
  refine z_ko (X5_o hv0) ?_
  refine z_rb (X5_r4 hv0) ?_
  refine z_ko (X2_o (X5_s4 hv0)) ?_
  refine z_cV (G_X2_clear _ _ (X5_s4 hv0)) (fun _ D30 => ?_)
  refine z_ko (X5_o hv0) ?_
  refine z_rb (X5_r5 hv0) ?_
  refine z_ko (X7_o (X5_s5 hv0)) ?_
  refine z_cV (G_X7_hideNothing _ _ (X5_s5 hv0)) (fun _ D32 => ?_)
  refine z_ko (X5_o hv0) ?_
  refine z_rb (X5_r6 hv0) ?_
  refine z_ko (X3_o (X5_s6 hv0)) ?_
  refine z_cV (G_X3_clear _ _ (X5_s6 hv0)) (fun _ D34 => ?_)
  exact G_X5_takeIn_34 1000 _ _ _ _ _ _ _ _ hv0
