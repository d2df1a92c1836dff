/-! ===== the runs over the ints alone ===== -/
abbrev DD : Type := Nat → Nat → Int32
def uA (D : DD) (a : Nat) (f : Nat → Int32) : DD := fun b => if b = a then f else D b
def u2 (D : DD) (a k : Nat) (v : Int32) : DD := uA D a (upd (D a) k v)
def inb (i : Int32) (len : Nat) : Bool := decide (¬ i < 0) && decide (ix i < len)
def dlt {β : Type} (x : DD) (f : DD → Option β) : Option β := f x
def dcb {α β : Type} (o : Option (α × DD)) (f : α → DD → Option β) : Option β := match o with
  | none => none
  | some q => f q.1 q.2
def vcb {β : Type} (o : Option DD) (f : DD → Option β) : Option β := match o with
  | none => none
  | some q => f q
def pcb {α β : Type} (o : Option α) (f : α → Option β) : Option β := match o with
  | none => none
  | some q => f q
abbrev lS {α : Type} (n : Nat) (K : Nat → Nat × Nat) (R : Nat → Nat → Option Nat) : α × DD → α × Mm := fun q => (q.1, (n, K, R, q.2))
abbrev lV (n : Nat) (K : Nat → Nat × Nat) (R : Nat → Nat → Option Nat) : DD → Unit × Mm := fun q => ((), (n, K, R, q))
abbrev lP {α : Type} (n : Nat) (K : Nat → Nat × Nat) (R : Nat → Nat → Option Nat) (D : DD) : α → α × Mm := fun q => (q, (n, K, R, D))
section Z2
variable {n : Nat} {K : Nat → Nat × Nat} {R : Nat → Nat → Option Nat} {D : DD} {α β γ δ : Type} {L : β → γ}
theorem z_ko {c : Bool} {x y : Option γ} (h : c = true) (h2 : x = y) : zck c x = y := by subst h; exact h2
theorem z_ka {t b len : Nat} {i : Int32} {X : Option γ} {Y : Option β} (hb : b < n ∧ K b = (t, len)) (h : inb i len = true → X = Y.map L) : zck (kA ((n, K, R, D) : Mm) t b i) X = (zck (inb i len) Y).map L := by
  have e : kA ((n, K, R, D) : Mm) t b i = inb i len := by
    simp [kA, inb, mN, mK, hb.1, hb.2]
  rw [e]
  unfold zck
  split
  · exact h (by assumption)
  · rfl
theorem z_ck {c : Bool} {X : Option γ} {Y : Option β} (h : c = true → X = Y.map L) : zck c X = (zck c Y).map L := by
  unfold zck
  split
  · exact h (by assumption)
  · rfl
theorem z_kl {b len : Nat} {X : Option γ} {y : Option γ} (hb : b < n ∧ K b = (1, len)) (h : X = y) : zck (kL ((n, K, R, D) : Mm) b) X = y := by
  have e : kL ((n, K, R, D) : Mm) b = true := by simp [kL, mN, mK, hb.1, hb.2]
  rw [e]; exact h
theorem z_rb {o : Option Nat} {b : Nat} {f : Nat → Option γ} {y : Option γ} (h : o = some b) (h2 : f b = y) : zrb o f = y := by subst h; exact h2
theorem z_lt {x : Mm} {x' : DD} {F : Mm → Option γ} {G : DD → Option β} (hx : x = (n, K, R, x')) (h : ∀ D1 : DD, F (n, K, R, D1) = (G D1).map L) : zlt x F = (dlt x' G).map L := by subst hx; exact h x'
theorem z_cS {o : Option (α × Mm)} {o' : Option (α × DD)} {F : α → Mm → Option γ} {G : α → DD → Option β} (h : o = o'.map (lS n K R)) (h2 : ∀ (r : α) (D1 : DD), F r (n, K, R, D1) = (G r D1).map L) : zcb o F = (dcb o' G).map L := by
  subst h
  cases o' with
  | none => rfl
  | some q => exact h2 q.1 q.2
theorem z_cV {o : Option (Unit × Mm)} {o' : Option DD} {F : Unit → Mm → Option γ} {G : DD → Option β} (h : o = o'.map (lV n K R)) (h2 : ∀ (r : Unit) (D1 : DD), F r (n, K, R, D1) = (G D1).map L) : zcb o F = (vcb o' G).map L := by
  subst h
  cases o' with
  | none => rfl
  | some q => exact h2 () q
theorem z_cP {o : Option (α × Mm)} {o' : Option α} {F : α → Mm → Option γ} {G : α → Option β} (h : o = o'.map (lP n K R D)) (h2 : ∀ (r : α), o' = some r → F r (n, K, R, D) = (G r).map L) : zcb o F = (pcb o' G).map L := by
  subst h
  cases o' with
  | none => rfl
  | some q => exact h2 q rfl
theorem z_cG {o : Option (Nat × Mm)} {b : Nat} {F : Nat → Mm → Option γ} {y : Option γ} (h : o = some (b, ((n, K, R, D) : Mm))) (h2 : F b (n, K, R, D) = y) : zcb o F = y := by subst h; exact h2
theorem z_if {c : Prop} {d : Decidable c} {A B : Option γ} {A' B' : Option β} (h1 : c → A = A'.map L) (h2 : ¬ c → B = B'.map L) : (@ite _ c d A B) = (@ite _ c d A' B').map L := by
  by_cases h : c
  · rw [if_pos h, if_pos h]; exact h1 h
  · rw [if_neg h, if_neg h]; exact h2 h
theorem inb_s {i : Int32} {len : Nat} (h : inb i len = true) : ix i < len := by
  simp only [inb, Bool.and_eq_true, decide_eq_true_eq] at h
  exact h.2
end Z2
def isX2 (n : Nat) (K : Nat → Nat × Nat) (R : Nat → Nat → Option Nat) (a : Nat) : Prop :=
  a < n ∧ K a = (0, 2) ∧ R a 0 = some (a + 1) ∧ a + 1 < n ∧ K (a + 1) = (1, 100)
theorem X2_o {n : Nat} {K : Nat → Nat × Nat} {R : Nat → Nat → Option Nat} {D : DD} {a : Nat} (h : isX2 n K R a) : kO ((n, K, R, D) : Mm) a 2 = true := by simp [kO, mN, mK, show a < n from h.1, show K a = _ from h.2.1]
theorem X2_r0 {n : Nat} {K : Nat → Nat × Nat} {R : Nat → Nat → Option Nat} {D : DD} {a : Nat} (h : isX2 n K R a) : mR ((n, K, R, D) : Mm) a 0 = some (a + 1) := h.2.2.1
theorem X2_a0 {n : Nat} {K : Nat → Nat × Nat} {R : Nat → Nat → Option Nat} {a : Nat} (h : isX2 n K R a) : a + 1 < n ∧ K (a + 1) = (1, 100) := ⟨h.2.2.2.1, h.2.2.2.2⟩
def isX1 (n : Nat) (K : Nat → Nat × Nat) (R : Nat → Nat → Option Nat) (a : Nat) : Prop :=
  a < n ∧ K a = (0, 1) ∧ R a 0 = some (a + 1) ∧ a + 1 < n ∧ K (a + 1) = (1, 100)
theorem X1_o {n : Nat} {K : Nat → Nat × Nat} {R : Nat → Nat → Option Nat} {D : DD} {a : Nat} (h : isX1 n K R a) : kO ((n, K, R, D) : Mm) a 1 = true := by simp [kO, mN, mK, show a < n from h.1, show K a = _ from h.2.1]
theorem X1_r0 {n : Nat} {K : Nat → Nat × Nat} {R : Nat → Nat → Option Nat} {D : DD} {a : Nat} (h : isX1 n K R a) : mR ((n, K, R, D) : Mm) a 0 = some (a + 1) := h.2.2.1
theorem X1_a0 {n : Nat} {K : Nat → Nat × Nat} {R : Nat → Nat → Option Nat} {a : Nat} (h : isX1 n K R a) : a + 1 < n ∧ K (a + 1) = (1, 100) := ⟨h.2.2.2.1, h.2.2.2.2⟩
def isX3 (n : Nat) (K : Nat → Nat × Nat) (R : Nat → Nat → Option Nat) (a : Nat) : Prop :=
  a < n ∧ K a = (0, 3) ∧ R a 0 = some (a + 1) ∧ R a 1 = some (a + 2) ∧ a + 1 < n ∧ K (a + 1) = (1, 100) ∧ a + 2 < n ∧ K (a + 2) = (1, 100)
theorem X3_o {n : Nat} {K : Nat → Nat × Nat} {R : Nat → Nat → Option Nat} {D : DD} {a : Nat} (h : isX3 n K R a) : kO ((n, K, R, D) : Mm) a 3 = true := by simp [kO, mN, mK, show a < n from h.1, show K a = _ from h.2.1]
theorem X3_r0 {n : Nat} {K : Nat → Nat × Nat} {R : Nat → Nat → Option Nat} {D : DD} {a : Nat} (h : isX3 n K R a) : mR ((n, K, R, D) : Mm) a 0 = some (a + 1) := h.2.2.1
theorem X3_r1 {n : Nat} {K : Nat → Nat × Nat} {R : Nat → Nat → Option Nat} {D : DD} {a : Nat} (h : isX3 n K R a) : mR ((n, K, R, D) : Mm) a 1 = some (a + 2) := h.2.2.2.1
theorem X3_a0 {n : Nat} {K : Nat → Nat × Nat} {R : Nat → Nat → Option Nat} {a : Nat} (h : isX3 n K R a) : a + 1 < n ∧ K (a + 1) = (1, 100) := ⟨h.2.2.2.2.1, h.2.2.2.2.2.1⟩
theorem X3_a1 {n : Nat} {K : Nat → Nat × Nat} {R : Nat → Nat → Option Nat} {a : Nat} (h : isX3 n K R a) : a + 2 < n ∧ K (a + 2) = (1, 100) := ⟨h.2.2.2.2.2.2.1, h.2.2.2.2.2.2.2⟩
def isX7 (n : Nat) (K : Nat → Nat × Nat) (R : Nat → Nat → Option Nat) (a : Nat) : Prop :=
  a < n ∧ K a = (0, 7) ∧ R a 0 = some (a + 1) ∧ R a 1 = some (a + 2) ∧ R a 2 = some (a + 3) ∧ R a 3 = some (a + 4) ∧ R a 4 = some (a + 5) ∧ R a 7 = some (a + 6) ∧ a + 1 < n ∧ K (a + 1) = (1, 100) ∧ a + 2 < n ∧ K (a + 2) = (1, 100) ∧ a + 3 < n ∧ K (a + 3) = (1, 100) ∧ a + 4 < n ∧ K (a + 4) = (1, 101) ∧ a + 5 < n ∧ K (a + 5) = (1, 100) ∧ isX3 n K R (a + 6)
theorem X7_o {n : Nat} {K : Nat → Nat × Nat} {R : Nat → Nat → Option Nat} {D : DD} {a : Nat} (h : isX7 n K R a) : kO ((n, K, R, D) : Mm) a 7 = true := by simp [kO, mN, mK, show a < n from h.1, show K a = _ from h.2.1]
theorem X7_r0 {n : Nat} {K : Nat → Nat × Nat} {R : Nat → Nat → Option Nat} {D : DD} {a : Nat} (h : isX7 n K R a) : mR ((n, K, R, D) : Mm) a 0 = some (a + 1) := h.2.2.1
theorem X7_r1 {n : Nat} {K : Nat → Nat × Nat} {R : Nat → Nat → Option Nat} {D : DD} {a : Nat} (h : isX7 n K R a) : mR ((n, K, R, D) : Mm) a 1 = some (a + 2) := h.2.2.2.1
theorem X7_r2 {n : Nat} {K : Nat → Nat × Nat} {R : Nat → Nat → Option Nat} {D : DD} {a : Nat} (h : isX7 n K R a) : mR ((n, K, R, D) : Mm) a 2 = some (a + 3) := h.2.2.2.2.1
theorem X7_r3 {n : Nat} {K : Nat → Nat × Nat} {R : Nat → Nat → Option Nat} {D : DD} {a : Nat} (h : isX7 n K R a) : mR ((n, K, R, D) : Mm) a 3 = some (a + 4) := h.2.2.2.2.2.1
theorem X7_r4 {n : Nat} {K : Nat → Nat × Nat} {R : Nat → Nat → Option Nat} {D : DD} {a : Nat} (h : isX7 n K R a) : mR ((n, K, R, D) : Mm) a 4 = some (a + 5) := h.2.2.2.2.2.2.1
theorem X7_r7 {n : Nat} {K : Nat → Nat × Nat} {R : Nat → Nat → Option Nat} {D : DD} {a : Nat} (h : isX7 n K R a) : mR ((n, K, R, D) : Mm) a 7 = some (a + 6) := h.2.2.2.2.2.2.2.1
theorem X7_a0 {n : Nat} {K : Nat → Nat × Nat} {R : Nat → Nat → Option Nat} {a : Nat} (h : isX7 n K R a) : a + 1 < n ∧ K (a + 1) = (1, 100) := ⟨h.2.2.2.2.2.2.2.2.1, h.2.2.2.2.2.2.2.2.2.1⟩
theorem X7_a1 {n : Nat} {K : Nat → Nat × Nat} {R : Nat → Nat → Option Nat} {a : Nat} (h : isX7 n K R a) : a + 2 < n ∧ K (a + 2) = (1, 100) := ⟨h.2.2.2.2.2.2.2.2.2.2.1, h.2.2.2.2.2.2.2.2.2.2.2.1⟩
theorem X7_a2 {n : Nat} {K : Nat → Nat × Nat} {R : Nat → Nat → Option Nat} {a : Nat} (h : isX7 n K R a) : a + 3 < n ∧ K (a + 3) = (1, 100) := ⟨h.2.2.2.2.2.2.2.2.2.2.2.2.1, h.2.2.2.2.2.2.2.2.2.2.2.2.2.1⟩
theorem X7_a3 {n : Nat} {K : Nat → Nat × Nat} {R : Nat → Nat → Option Nat} {a : Nat} (h : isX7 n K R a) : a + 4 < n ∧ K (a + 4) = (1, 101) := ⟨h.2.2.2.2.2.2.2.2.2.2.2.2.2.2.1, h.2.2.2.2.2.2.2.2.2.2.2.2.2.2.2.1⟩
theorem X7_a4 {n : Nat} {K : Nat → Nat × Nat} {R : Nat → Nat → Option Nat} {a : Nat} (h : isX7 n K R a) : a + 5 < n ∧ K (a + 5) = (1, 100) := ⟨h.2.2.2.2.2.2.2.2.2.2.2.2.2.2.2.2.1, h.2.2.2.2.2.2.2.2.2.2.2.2.2.2.2.2.2.1⟩
theorem X7_s7 {n : Nat} {K : Nat → Nat × Nat} {R : Nat → Nat → Option Nat} {a : Nat} (h : isX7 n K R a) : isX3 n K R (a + 6) := h.2.2.2.2.2.2.2.2.2.2.2.2.2.2.2.2.2.2
def isX6 (n : Nat) (K : Nat → Nat × Nat) (R : Nat → Nat → Option Nat) (a : Nat) : Prop :=
  a < n ∧ K a = (0, 6) ∧ R a 0 = some (a + 1) ∧ isX2 n K R (a + 1)
theorem X6_o {n : Nat} {K : Nat → Nat × Nat} {R : Nat → Nat → Option Nat} {D : DD} {a : Nat} (h : isX6 n K R a) : kO ((n, K, R, D) : Mm) a 6 = true := by simp [kO, mN, mK, show a < n from h.1, show K a = _ from h.2.1]
theorem X6_r0 {n : Nat} {K : Nat → Nat × Nat} {R : Nat → Nat → Option Nat} {D : DD} {a : Nat} (h : isX6 n K R a) : mR ((n, K, R, D) : Mm) a 0 = some (a + 1) := h.2.2.1
theorem X6_s0 {n : Nat} {K : Nat → Nat × Nat} {R : Nat → Nat → Option Nat} {a : Nat} (h : isX6 n K R a) : isX2 n K R (a + 1) := h.2.2.2
def isX0 (n : Nat) (K : Nat → Nat × Nat) (R : Nat → Nat → Option Nat) (a : Nat) : Prop :=
  a < n ∧ K a = (0, 0) ∧ R a 0 = some (a + 1) ∧ a + 1 < n ∧ K (a + 1) = (3, 14) ∧ ∀ j, j < 14 → R (a + 1) j = some (a + 2 + 2 * j) ∧ isX2 n K R (a + 2 + 2 * j)
theorem X0_o {n : Nat} {K : Nat → Nat × Nat} {R : Nat → Nat → Option Nat} {D : DD} {a : Nat} (h : isX0 n K R a) : kO ((n, K, R, D) : Mm) a 0 = true := by simp [kO, mN, mK, show a < n from h.1, show K a = _ from h.2.1]
theorem X0_r0 {n : Nat} {K : Nat → Nat × Nat} {R : Nat → Nat → Option Nat} {D : DD} {a : Nat} (h : isX0 n K R a) : mR ((n, K, R, D) : Mm) a 0 = some (a + 1) := h.2.2.1
theorem X0_q {n : Nat} {K : Nat → Nat × Nat} {R : Nat → Nat → Option Nat} {a : Nat} (h : isX0 n K R a) : a + 1 < n ∧ K (a + 1) = (3, 14) := ⟨h.2.2.2.1, h.2.2.2.2.1⟩
theorem X0_e {n : Nat} {K : Nat → Nat × Nat} {R : Nat → Nat → Option Nat} {D : DD} {a : Nat} (h : isX0 n K R a) {j : Nat} (hj : j < 14) : mR ((n, K, R, D) : Mm) (a + 1) j = some (a + 2 + 2 * j) := (h.2.2.2.2.2 j hj).1
theorem X0_es {n : Nat} {K : Nat → Nat × Nat} {R : Nat → Nat → Option Nat} {a : Nat} (h : isX0 n K R a) {j : Nat} (hj : j < 14) : isX2 n K R (a + 2 + 2 * j) := (h.2.2.2.2.2 j hj).2
def isX5 (n : Nat) (K : Nat → Nat × Nat) (R : Nat → Nat → Option Nat) (a : Nat) : Prop :=
  a < n ∧ K a = (0, 5) ∧ R a 0 = some (a + 1) ∧ R a 2 = some (a + 3) ∧ R a 4 = some (a + 4) ∧ R a 5 = some (a + 6) ∧ R a 6 = some (a + 15) ∧ a + 3 < n ∧ K (a + 3) = (1, 8) ∧ isX1 n K R (a + 1) ∧ isX2 n K R (a + 4) ∧ isX7 n K R (a + 6) ∧ isX3 n K R (a + 15)
theorem X5_o {n : Nat} {K : Nat → Nat × Nat} {R : Nat → Nat → Option Nat} {D : DD} {a : Nat} (h : isX5 n K R a) : kO ((n, K, R, D) : Mm) a 5 = true := by simp [kO, mN, mK, show a < n from h.1, show K a = _ from h.2.1]
theorem X5_r0 {n : Nat} {K : Nat → Nat × Nat} {R : Nat → Nat → Option Nat} {D : DD} {a : Nat} (h : isX5 n K R a) : mR ((n, K, R, D) : Mm) a 0 = some (a + 1) := h.2.2.1
theorem X5_r2 {n : Nat} {K : Nat → Nat × Nat} {R : Nat → Nat → Option Nat} {D : DD} {a : Nat} (h : isX5 n K R a) : mR ((n, K, R, D) : Mm) a 2 = some (a + 3) := h.2.2.2.1
theorem X5_r4 {n : Nat} {K : Nat → Nat × Nat} {R : Nat → Nat → Option Nat} {D : DD} {a : Nat} (h : isX5 n K R a) : mR ((n, K, R, D) : Mm) a 4 = some (a + 4) := h.2.2.2.2.1
theorem X5_r5 {n : Nat} {K : Nat → Nat × Nat} {R : Nat → Nat → Option Nat} {D : DD} {a : Nat} (h : isX5 n K R a) : mR ((n, K, R, D) : Mm) a 5 = some (a + 6) := h.2.2.2.2.2.1
theorem X5_r6 {n : Nat} {K : Nat → Nat × Nat} {R : Nat → Nat → Option Nat} {D : DD} {a : Nat} (h : isX5 n K R a) : mR ((n, K, R, D) : Mm) a 6 = some (a + 15) := h.2.2.2.2.2.2.1
theorem X5_a2 {n : Nat} {K : Nat → Nat × Nat} {R : Nat → Nat → Option Nat} {a : Nat} (h : isX5 n K R a) : a + 3 < n ∧ K (a + 3) = (1, 8) := ⟨h.2.2.2.2.2.2.2.1, h.2.2.2.2.2.2.2.2.1⟩
theorem X5_s0 {n : Nat} {K : Nat → Nat × Nat} {R : Nat → Nat → Option Nat} {a : Nat} (h : isX5 n K R a) : isX1 n K R (a + 1) := h.2.2.2.2.2.2.2.2.2.1
theorem X5_s4 {n : Nat} {K : Nat → Nat × Nat} {R : Nat → Nat → Option Nat} {a : Nat} (h : isX5 n K R a) : isX2 n K R (a + 4) := h.2.2.2.2.2.2.2.2.2.2.1
theorem X5_s5 {n : Nat} {K : Nat → Nat × Nat} {R : Nat → Nat → Option Nat} {a : Nat} (h : isX5 n K R a) : isX7 n K R (a + 6) := h.2.2.2.2.2.2.2.2.2.2.2.1
theorem X5_s6 {n : Nat} {K : Nat → Nat × Nat} {R : Nat → Nat → Option Nat} {a : Nat} (h : isX5 n K R a) : isX3 n K R (a + 15) := h.2.2.2.2.2.2.2.2.2.2.2.2
def isX8 (n : Nat) (K : Nat → Nat × Nat) (R : Nat → Nat → Option Nat) (a : Nat) : Prop :=
  a < n ∧ K a = (0, 8) ∧ R a 0 = some (a + 1) ∧ R a 1 = some (a + 3) ∧ R a 2 = some (a + 12) ∧ R a 3 = some (a + 42) ∧ R a 4 = some (a + 60) ∧ R a 5 = some (a + 61) ∧ R a 6 = some (a + 63) ∧ R a 7 = some (a + 72) ∧ isX2 n K R (a + 1) ∧ isX7 n K R (a + 3) ∧ isX0 n K R (a + 12) ∧ isX5 n K R (a + 42) ∧ isX2 n K R (a + 61) ∧ isX7 n K R (a + 63) ∧ isX1 n K R (a + 72) ∧ a + 60 < n ∧ K (a + 60) = (4, 2) ∧ ∀ j, j < 2 → R (a + 60) j = some (a + 74 + 3 * j) ∧ isX6 n K R (a + 74 + 3 * j)
theorem X8_o {n : Nat} {K : Nat → Nat × Nat} {R : Nat → Nat → Option Nat} {D : DD} {a : Nat} (h : isX8 n K R a) : kO ((n, K, R, D) : Mm) a 8 = true := by simp [kO, mN, mK, show a < n from h.1, show K a = _ from h.2.1]
theorem X8_r0 {n : Nat} {K : Nat → Nat × Nat} {R : Nat → Nat → Option Nat} {D : DD} {a : Nat} (h : isX8 n K R a) : mR ((n, K, R, D) : Mm) a 0 = some (a + 1) := h.2.2.1
theorem X8_r1 {n : Nat} {K : Nat → Nat × Nat} {R : Nat → Nat → Option Nat} {D : DD} {a : Nat} (h : isX8 n K R a) : mR ((n, K, R, D) : Mm) a 1 = some (a + 3) := h.2.2.2.1
theorem X8_r2 {n : Nat} {K : Nat → Nat × Nat} {R : Nat → Nat → Option Nat} {D : DD} {a : Nat} (h : isX8 n K R a) : mR ((n, K, R, D) : Mm) a 2 = some (a + 12) := h.2.2.2.2.1
theorem X8_r3 {n : Nat} {K : Nat → Nat × Nat} {R : Nat → Nat → Option Nat} {D : DD} {a : Nat} (h : isX8 n K R a) : mR ((n, K, R, D) : Mm) a 3 = some (a + 42) := h.2.2.2.2.2.1
theorem X8_r4 {n : Nat} {K : Nat → Nat × Nat} {R : Nat → Nat → Option Nat} {D : DD} {a : Nat} (h : isX8 n K R a) : mR ((n, K, R, D) : Mm) a 4 = some (a + 60) := h.2.2.2.2.2.2.1
theorem X8_r5 {n : Nat} {K : Nat → Nat × Nat} {R : Nat → Nat → Option Nat} {D : DD} {a : Nat} (h : isX8 n K R a) : mR ((n, K, R, D) : Mm) a 5 = some (a + 61) := h.2.2.2.2.2.2.2.1
theorem X8_r6 {n : Nat} {K : Nat → Nat × Nat} {R : Nat → Nat → Option Nat} {D : DD} {a : Nat} (h : isX8 n K R a) : mR ((n, K, R, D) : Mm) a 6 = some (a + 63) := h.2.2.2.2.2.2.2.2.1
theorem X8_r7 {n : Nat} {K : Nat → Nat × Nat} {R : Nat → Nat → Option Nat} {D : DD} {a : Nat} (h : isX8 n K R a) : mR ((n, K, R, D) : Mm) a 7 = some (a + 72) := h.2.2.2.2.2.2.2.2.2.1
theorem X8_s0 {n : Nat} {K : Nat → Nat × Nat} {R : Nat → Nat → Option Nat} {a : Nat} (h : isX8 n K R a) : isX2 n K R (a + 1) := h.2.2.2.2.2.2.2.2.2.2.1
theorem X8_s1 {n : Nat} {K : Nat → Nat × Nat} {R : Nat → Nat → Option Nat} {a : Nat} (h : isX8 n K R a) : isX7 n K R (a + 3) := h.2.2.2.2.2.2.2.2.2.2.2.1
theorem X8_s2 {n : Nat} {K : Nat → Nat × Nat} {R : Nat → Nat → Option Nat} {a : Nat} (h : isX8 n K R a) : isX0 n K R (a + 12) := h.2.2.2.2.2.2.2.2.2.2.2.2.1
theorem X8_s3 {n : Nat} {K : Nat → Nat × Nat} {R : Nat → Nat → Option Nat} {a : Nat} (h : isX8 n K R a) : isX5 n K R (a + 42) := h.2.2.2.2.2.2.2.2.2.2.2.2.2.1
theorem X8_s5 {n : Nat} {K : Nat → Nat × Nat} {R : Nat → Nat → Option Nat} {a : Nat} (h : isX8 n K R a) : isX2 n K R (a + 61) := h.2.2.2.2.2.2.2.2.2.2.2.2.2.2.1
theorem X8_s6 {n : Nat} {K : Nat → Nat × Nat} {R : Nat → Nat → Option Nat} {a : Nat} (h : isX8 n K R a) : isX7 n K R (a + 63) := h.2.2.2.2.2.2.2.2.2.2.2.2.2.2.2.1
theorem X8_s7 {n : Nat} {K : Nat → Nat × Nat} {R : Nat → Nat → Option Nat} {a : Nat} (h : isX8 n K R a) : isX1 n K R (a + 72) := h.2.2.2.2.2.2.2.2.2.2.2.2.2.2.2.2.1
theorem X8_q {n : Nat} {K : Nat → Nat × Nat} {R : Nat → Nat → Option Nat} {a : Nat} (h : isX8 n K R a) : a + 60 < n ∧ K (a + 60) = (4, 2) := ⟨h.2.2.2.2.2.2.2.2.2.2.2.2.2.2.2.2.2.1, h.2.2.2.2.2.2.2.2.2.2.2.2.2.2.2.2.2.2.1⟩
theorem X8_e {n : Nat} {K : Nat → Nat × Nat} {R : Nat → Nat → Option Nat} {D : DD} {a : Nat} (h : isX8 n K R a) {j : Nat} (hj : j < 2) : mR ((n, K, R, D) : Mm) (a + 60) j = some (a + 74 + 3 * j) := (h.2.2.2.2.2.2.2.2.2.2.2.2.2.2.2.2.2.2.2 j hj).1
theorem X8_es {n : Nat} {K : Nat → Nat × Nat} {R : Nat → Nat → Option Nat} {a : Nat} (h : isX8 n K R a) {j : Nat} (hj : j < 2) : isX6 n K R (a + 74 + 3 * j) := (h.2.2.2.2.2.2.2.2.2.2.2.2.2.2.2.2.2.2.2 j hj).2
def isX9 (n : Nat) (K : Nat → Nat × Nat) (R : Nat → Nat → Option Nat) (a : Nat) : Prop :=
  a < n ∧ K a = (0, 9) ∧ R a 0 = some (a + 1) ∧ R a 1 = some (a + 2) ∧ R a 2 = some (a + 3) ∧ R a 5 = some (a + 4) ∧ R a 6 = some (a + 5) ∧ R a 7 = some (a + 6) ∧ R a 8 = some (a + 7) ∧ R a 9 = some (a + 8) ∧ R a 10 = some (a + 9) ∧ R a 11 = some (a + 10) ∧ R a 12 = some (a + 11) ∧ R a 13 = some (a + 12) ∧ R a 14 = some (a + 13) ∧ R a 15 = some (a + 14) ∧ R a 16 = some (a + 15) ∧ R a 17 = some (a + 16) ∧ R a 18 = some (a + 17) ∧ R a 19 = some (a + 18) ∧ R a 20 = some (a + 19) ∧ R a 22 = some (a + 20) ∧ R a 24 = some (a + 21) ∧ R a 27 = some (a + 22) ∧ R a 29 = some (a + 23) ∧ R a 30 = some (a + 24) ∧ R a 31 = some (a + 25) ∧ R a 32 = some (a + 26) ∧ R a 33 = some (a + 27) ∧ R a 34 = some (a + 28) ∧ R a 35 = some (a + 29) ∧ R a 38 = some (a + 30) ∧ R a 39 = some (a + 31) ∧ R a 40 = some (a + 32) ∧ R a 42 = some (a + 33) ∧ R a 43 = some (a + 34) ∧ R a 44 = some (a + 35) ∧ R a 45 = some (a + 36) ∧ a + 1 < n ∧ K (a + 1) = (1, 100) ∧ a + 2 < n ∧ K (a + 2) = (1, 100) ∧ a + 3 < n ∧ K (a + 3) = (1, 1400) ∧ a + 4 < n ∧ K (a + 4) = (1, 200) ∧ a + 5 < n ∧ K (a + 5) = (2, 2) ∧ a + 6 < n ∧ K (a + 6) = (1, 200) ∧ a + 7 < n ∧ K (a + 7) = (1, 200) ∧ a + 8 < n ∧ K (a + 8) = (1, 200) ∧ a + 9 < n ∧ K (a + 9) = (1, 200) ∧ a + 10 < n ∧ K (a + 10) = (1, 200) ∧ a + 11 < n ∧ K (a + 11) = (1, 200) ∧ a + 12 < n ∧ K (a + 12) = (1, 200) ∧ a + 13 < n ∧ K (a + 13) = (1, 200) ∧ a + 14 < n ∧ K (a + 14) = (1, 2) ∧ a + 15 < n ∧ K (a + 15) = (1, 100) ∧ a + 16 < n ∧ K (a + 16) = (1, 110) ∧ a + 17 < n ∧ K (a + 17) = (1, 110) ∧ a + 18 < n ∧ K (a + 18) = (1, 110) ∧ a + 19 < n ∧ K (a + 19) = (1, 110) ∧ a + 20 < n ∧ K (a + 20) = (1, 100) ∧ a + 21 < n ∧ K (a + 21) = (1, 100) ∧ a + 22 < n ∧ K (a + 22) = (1, 8) ∧ a + 23 < n ∧ K (a + 23) = (1, 100) ∧ a + 24 < n ∧ K (a + 24) = (1, 100) ∧ a + 25 < n ∧ K (a + 25) = (1, 100) ∧ a + 26 < n ∧ K (a + 26) = (1, 100) ∧ a + 27 < n ∧ K (a + 27) = (1, 100) ∧ a + 28 < n ∧ K (a + 28) = (1, 100) ∧ a + 29 < n ∧ K (a + 29) = (1, 100) ∧ a + 30 < n ∧ K (a + 30) = (1, 102) ∧ a + 31 < n ∧ K (a + 31) = (1, 102) ∧ a + 32 < n ∧ K (a + 32) = (1, 103) ∧ a + 33 < n ∧ K (a + 33) = (1, 102) ∧ a + 34 < n ∧ K (a + 34) = (1, 102) ∧ a + 35 < n ∧ K (a + 35) = (1, 102) ∧ a + 36 < n ∧ K (a + 36) = (1, 102)
theorem X9_o {n : Nat} {K : Nat → Nat × Nat} {R : Nat → Nat → Option Nat} {D : DD} {a : Nat} (h : isX9 n K R a) : kO ((n, K, R, D) : Mm) a 9 = true := by simp [kO, mN, mK, show a < n from h.1, show K a = _ from h.2.1]
theorem X9_r0 {n : Nat} {K : Nat → Nat × Nat} {R : Nat → Nat → Option Nat} {D : DD} {a : Nat} (h : isX9 n K R a) : mR ((n, K, R, D) : Mm) a 0 = some (a + 1) := h.2.2.1
theorem X9_r1 {n : Nat} {K : Nat → Nat × Nat} {R : Nat → Nat → Option Nat} {D : DD} {a : Nat} (h : isX9 n K R a) : mR ((n, K, R, D) : Mm) a 1 = some (a + 2) := h.2.2.2.1
theorem X9_r2 {n : Nat} {K : Nat → Nat × Nat} {R : Nat → Nat → Option Nat} {D : DD} {a : Nat} (h : isX9 n K R a) : mR ((n, K, R, D) : Mm) a 2 = some (a + 3) := h.2.2.2.2.1
theorem X9_r5 {n : Nat} {K : Nat → Nat × Nat} {R : Nat → Nat → Option Nat} {D : DD} {a : Nat} (h : isX9 n K R a) : mR ((n, K, R, D) : Mm) a 5 = some (a + 4) := h.2.2.2.2.2.1
theorem X9_r6 {n : Nat} {K : Nat → Nat × Nat} {R : Nat → Nat → Option Nat} {D : DD} {a : Nat} (h : isX9 n K R a) : mR ((n, K, R, D) : Mm) a 6 = some (a + 5) := h.2.2.2.2.2.2.1
theorem X9_r7 {n : Nat} {K : Nat → Nat × Nat} {R : Nat → Nat → Option Nat} {D : DD} {a : Nat} (h : isX9 n K R a) : mR ((n, K, R, D) : Mm) a 7 = some (a + 6) := h.2.2.2.2.2.2.2.1
theorem X9_r8 {n : Nat} {K : Nat → Nat × Nat} {R : Nat → Nat → Option Nat} {D : DD} {a : Nat} (h : isX9 n K R a) : mR ((n, K, R, D) : Mm) a 8 = some (a + 7) := h.2.2.2.2.2.2.2.2.1
theorem X9_r9 {n : Nat} {K : Nat → Nat × Nat} {R : Nat → Nat → Option Nat} {D : DD} {a : Nat} (h : isX9 n K R a) : mR ((n, K, R, D) : Mm) a 9 = some (a + 8) := h.2.2.2.2.2.2.2.2.2.1
theorem X9_r10 {n : Nat} {K : Nat → Nat × Nat} {R : Nat → Nat → Option Nat} {D : DD} {a : Nat} (h : isX9 n K R a) : mR ((n, K, R, D) : Mm) a 10 = some (a + 9) := h.2.2.2.2.2.2.2.2.2.2.1
theorem X9_r11 {n : Nat} {K : Nat → Nat × Nat} {R : Nat → Nat → Option Nat} {D : DD} {a : Nat} (h : isX9 n K R a) : mR ((n, K, R, D) : Mm) a 11 = some (a + 10) := h.2.2.2.2.2.2.2.2.2.2.2.1
theorem X9_r12 {n : Nat} {K : Nat → Nat × Nat} {R : Nat → Nat → Option Nat} {D : DD} {a : Nat} (h : isX9 n K R a) : mR ((n, K, R, D) : Mm) a 12 = some (a + 11) := h.2.2.2.2.2.2.2.2.2.2.2.2.1
theorem X9_r13 {n : Nat} {K : Nat → Nat × Nat} {R : Nat → Nat → Option Nat} {D : DD} {a : Nat} (h : isX9 n K R a) : mR ((n, K, R, D) : Mm) a 13 = some (a + 12) := h.2.2.2.2.2.2.2.2.2.2.2.2.2.1
theorem X9_r14 {n : Nat} {K : Nat → Nat × Nat} {R : Nat → Nat → Option Nat} {D : DD} {a : Nat} (h : isX9 n K R a) : mR ((n, K, R, D) : Mm) a 14 = some (a + 13) := h.2.2.2.2.2.2.2.2.2.2.2.2.2.2.1
theorem X9_r15 {n : Nat} {K : Nat → Nat × Nat} {R : Nat → Nat → Option Nat} {D : DD} {a : Nat} (h : isX9 n K R a) : mR ((n, K, R, D) : Mm) a 15 = some (a + 14) := h.2.2.2.2.2.2.2.2.2.2.2.2.2.2.2.1
theorem X9_r16 {n : Nat} {K : Nat → Nat × Nat} {R : Nat → Nat → Option Nat} {D : DD} {a : Nat} (h : isX9 n K R a) : mR ((n, K, R, D) : Mm) a 16 = some (a + 15) := h.2.2.2.2.2.2.2.2.2.2.2.2.2.2.2.2.1
theorem X9_r17 {n : Nat} {K : Nat → Nat × Nat} {R : Nat → Nat → Option Nat} {D : DD} {a : Nat} (h : isX9 n K R a) : mR ((n, K, R, D) : Mm) a 17 = some (a + 16) := h.2.2.2.2.2.2.2.2.2.2.2.2.2.2.2.2.2.1
theorem X9_r18 {n : Nat} {K : Nat → Nat × Nat} {R : Nat → Nat → Option Nat} {D : DD} {a : Nat} (h : isX9 n K R a) : mR ((n, K, R, D) : Mm) a 18 = some (a + 17) := h.2.2.2.2.2.2.2.2.2.2.2.2.2.2.2.2.2.2.1
theorem X9_r19 {n : Nat} {K : Nat → Nat × Nat} {R : Nat → Nat → Option Nat} {D : DD} {a : Nat} (h : isX9 n K R a) : mR ((n, K, R, D) : Mm) a 19 = some (a + 18) := h.2.2.2.2.2.2.2.2.2.2.2.2.2.2.2.2.2.2.2.1
theorem X9_r20 {n : Nat} {K : Nat → Nat × Nat} {R : Nat → Nat → Option Nat} {D : DD} {a : Nat} (h : isX9 n K R a) : mR ((n, K, R, D) : Mm) a 20 = some (a + 19) := h.2.2.2.2.2.2.2.2.2.2.2.2.2.2.2.2.2.2.2.2.1
theorem X9_r22 {n : Nat} {K : Nat → Nat × Nat} {R : Nat → Nat → Option Nat} {D : DD} {a : Nat} (h : isX9 n K R a) : mR ((n, K, R, D) : Mm) a 22 = some (a + 20) := h.2.2.2.2.2.2.2.2.2.2.2.2.2.2.2.2.2.2.2.2.2.1
theorem X9_r24 {n : Nat} {K : Nat → Nat × Nat} {R : Nat → Nat → Option Nat} {D : DD} {a : Nat} (h : isX9 n K R a) : mR ((n, K, R, D) : Mm) a 24 = some (a + 21) := h.2.2.2.2.2.2.2.2.2.2.2.2.2.2.2.2.2.2.2.2.2.2.1
theorem X9_r27 {n : Nat} {K : Nat → Nat × Nat} {R : Nat → Nat → Option Nat} {D : DD} {a : Nat} (h : isX9 n K R a) : mR ((n, K, R, D) : Mm) a 27 = some (a + 22) := h.2.2.2.2.2.2.2.2.2.2.2.2.2.2.2.2.2.2.2.2.2.2.2.1
theorem X9_r29 {n : Nat} {K : Nat → Nat × Nat} {R : Nat → Nat → Option Nat} {D : DD} {a : Nat} (h : isX9 n K R a) : mR ((n, K, R, D) : Mm) a 29 = some (a + 23) := h.2.2.2.2.2.2.2.2.2.2.2.2.2.2.2.2.2.2.2.2.2.2.2.2.1
theorem X9_r30 {n : Nat} {K : Nat → Nat × Nat} {R : Nat → Nat → Option Nat} {D : DD} {a : Nat} (h : isX9 n K R a) : mR ((n, K, R, D) : Mm) a 30 = some (a + 24) := h.2.2.2.2.2.2.2.2.2.2.2.2.2.2.2.2.2.2.2.2.2.2.2.2.2.1
theorem X9_r31 {n : Nat} {K : Nat → Nat × Nat} {R : Nat → Nat → Option Nat} {D : DD} {a : Nat} (h : isX9 n K R a) : mR ((n, K, R, D) : Mm) a 31 = some (a + 25) := h.2.2.2.2.2.2.2.2.2.2.2.2.2.2.2.2.2.2.2.2.2.2.2.2.2.2.1
theorem X9_r32 {n : Nat} {K : Nat → Nat × Nat} {R : Nat → Nat → Option Nat} {D : DD} {a : Nat} (h : isX9 n K R a) : mR ((n, K, R, D) : Mm) a 32 = some (a + 26) := h.2.2.2.2.2.2.2.2.2.2.2.2.2.2.2.2.2.2.2.2.2.2.2.2.2.2.2.1
theorem X9_r33 {n : Nat} {K : Nat → Nat × Nat} {R : Nat → Nat → Option Nat} {D : DD} {a : Nat} (h : isX9 n K R a) : mR ((n, K, R, D) : Mm) a 33 = some (a + 27) := h.2.2.2.2.2.2.2.2.2.2.2.2.2.2.2.2.2.2.2.2.2.2.2.2.2.2.2.2.1
theorem X9_r34 {n : Nat} {K : Nat → Nat × Nat} {R : Nat → Nat → Option Nat} {D : DD} {a : Nat} (h : isX9 n K R a) : mR ((n, K, R, D) : Mm) a 34 = some (a + 28) := h.2.2.2.2.2.2.2.2.2.2.2.2.2.2.2.2.2.2.2.2.2.2.2.2.2.2.2.2.2.1
theorem X9_r35 {n : Nat} {K : Nat → Nat × Nat} {R : Nat → Nat → Option Nat} {D : DD} {a : Nat} (h : isX9 n K R a) : mR ((n, K, R, D) : Mm) a 35 = some (a + 29) := h.2.2.2.2.2.2.2.2.2.2.2.2.2.2.2.2.2.2.2.2.2.2.2.2.2.2.2.2.2.2.1
theorem X9_r38 {n : Nat} {K : Nat → Nat × Nat} {R : Nat → Nat → Option Nat} {D : DD} {a : Nat} (h : isX9 n K R a) : mR ((n, K, R, D) : Mm) a 38 = some (a + 30) := h.2.2.2.2.2.2.2.2.2.2.2.2.2.2.2.2.2.2.2.2.2.2.2.2.2.2.2.2.2.2.2.1
theorem X9_r39 {n : Nat} {K : Nat → Nat × Nat} {R : Nat → Nat → Option Nat} {D : DD} {a : Nat} (h : isX9 n K R a) : mR ((n, K, R, D) : Mm) a 39 = some (a + 31) := h.2.2.2.2.2.2.2.2.2.2.2.2.2.2.2.2.2.2.2.2.2.2.2.2.2.2.2.2.2.2.2.2.1
theorem X9_r40 {n : Nat} {K : Nat → Nat × Nat} {R : Nat → Nat → Option Nat} {D : DD} {a : Nat} (h : isX9 n K R a) : mR ((n, K, R, D) : Mm) a 40 = some (a + 32) := h.2.2.2.2.2.2.2.2.2.2.2.2.2.2.2.2.2.2.2.2.2.2.2.2.2.2.2.2.2.2.2.2.2.1
theorem X9_r42 {n : Nat} {K : Nat → Nat × Nat} {R : Nat → Nat → Option Nat} {D : DD} {a : Nat} (h : isX9 n K R a) : mR ((n, K, R, D) : Mm) a 42 = some (a + 33) := h.2.2.2.2.2.2.2.2.2.2.2.2.2.2.2.2.2.2.2.2.2.2.2.2.2.2.2.2.2.2.2.2.2.2.1
theorem X9_r43 {n : Nat} {K : Nat → Nat × Nat} {R : Nat → Nat → Option Nat} {D : DD} {a : Nat} (h : isX9 n K R a) : mR ((n, K, R, D) : Mm) a 43 = some (a + 34) := h.2.2.2.2.2.2.2.2.2.2.2.2.2.2.2.2.2.2.2.2.2.2.2.2.2.2.2.2.2.2.2.2.2.2.2.1
theorem X9_r44 {n : Nat} {K : Nat → Nat × Nat} {R : Nat → Nat → Option Nat} {D : DD} {a : Nat} (h : isX9 n K R a) : mR ((n, K, R, D) : Mm) a 44 = some (a + 35) := h.2.2.2.2.2.2.2.2.2.2.2.2.2.2.2.2.2.2.2.2.2.2.2.2.2.2.2.2.2.2.2.2.2.2.2.2.1
theorem X9_r45 {n : Nat} {K : Nat → Nat × Nat} {R : Nat → Nat → Option Nat} {D : DD} {a : Nat} (h : isX9 n K R a) : mR ((n, K, R, D) : Mm) a 45 = some (a + 36) := h.2.2.2.2.2.2.2.2.2.2.2.2.2.2.2.2.2.2.2.2.2.2.2.2.2.2.2.2.2.2.2.2.2.2.2.2.2.1
theorem X9_a0 {n : Nat} {K : Nat → Nat × Nat} {R : Nat → Nat → Option Nat} {a : Nat} (h : isX9 n K R a) : a + 1 < n ∧ K (a + 1) = (1, 100) := ⟨h.2.2.2.2.2.2.2.2.2.2.2.2.2.2.2.2.2.2.2.2.2.2.2.2.2.2.2.2.2.2.2.2.2.2.2.2.2.2.1, h.2.2.2.2.2.2.2.2.2.2.2.2.2.2.2.2.2.2.2.2.2.2.2.2.2.2.2.2.2.2.2.2.2.2.2.2.2.2.2.1⟩
theorem X9_a1 {n : Nat} {K : Nat → Nat × Nat} {R : Nat → Nat → Option Nat} {a : Nat} (h : isX9 n K R a) : a + 2 < n ∧ K (a + 2) = (1, 100) := ⟨h.2.2.2.2.2.2.2.2.2.2.2.2.2.2.2.2.2.2.2.2.2.2.2.2.2.2.2.2.2.2.2.2.2.2.2.2.2.2.2.2.1, h.2.2.2.2.2.2.2.2.2.2.2.2.2.2.2.2.2.2.2.2.2.2.2.2.2.2.2.2.2.2.2.2.2.2.2.2.2.2.2.2.2.1⟩
theorem X9_a2 {n : Nat} {K : Nat → Nat × Nat} {R : Nat → Nat → Option Nat} {a : Nat} (h : isX9 n K R a) : a + 3 < n ∧ K (a + 3) = (1, 1400) := ⟨h.2.2.2.2.2.2.2.2.2.2.2.2.2.2.2.2.2.2.2.2.2.2.2.2.2.2.2.2.2.2.2.2.2.2.2.2.2.2.2.2.2.2.1, h.2.2.2.2.2.2.2.2.2.2.2.2.2.2.2.2.2.2.2.2.2.2.2.2.2.2.2.2.2.2.2.2.2.2.2.2.2.2.2.2.2.2.2.1⟩
theorem X9_a5 {n : Nat} {K : Nat → Nat × Nat} {R : Nat → Nat → Option Nat} {a : Nat} (h : isX9 n K R a) : a + 4 < n ∧ K (a + 4) = (1, 200) := ⟨h.2.2.2.2.2.2.2.2.2.2.2.2.2.2.2.2.2.2.2.2.2.2.2.2.2.2.2.2.2.2.2.2.2.2.2.2.2.2.2.2.2.2.2.2.1, h.2.2.2.2.2.2.2.2.2.2.2.2.2.2.2.2.2.2.2.2.2.2.2.2.2.2.2.2.2.2.2.2.2.2.2.2.2.2.2.2.2.2.2.2.2.1⟩
theorem X9_a6 {n : Nat} {K : Nat → Nat × Nat} {R : Nat → Nat → Option Nat} {a : Nat} (h : isX9 n K R a) : a + 5 < n ∧ K (a + 5) = (2, 2) := ⟨h.2.2.2.2.2.2.2.2.2.2.2.2.2.2.2.2.2.2.2.2.2.2.2.2.2.2.2.2.2.2.2.2.2.2.2.2.2.2.2.2.2.2.2.2.2.2.1, h.2.2.2.2.2.2.2.2.2.2.2.2.2.2.2.2.2.2.2.2.2.2.2.2.2.2.2.2.2.2.2.2.2.2.2.2.2.2.2.2.2.2.2.2.2.2.2.1⟩
theorem X9_a7 {n : Nat} {K : Nat → Nat × Nat} {R : Nat → Nat → Option Nat} {a : Nat} (h : isX9 n K R a) : a + 6 < n ∧ K (a + 6) = (1, 200) := ⟨h.2.2.2.2.2.2.2.2.2.2.2.2.2.2.2.2.2.2.2.2.2.2.2.2.2.2.2.2.2.2.2.2.2.2.2.2.2.2.2.2.2.2.2.2.2.2.2.2.1, h.2.2.2.2.2.2.2.2.2.2.2.2.2.2.2.2.2.2.2.2.2.2.2.2.2.2.2.2.2.2.2.2.2.2.2.2.2.2.2.2.2.2.2.2.2.2.2.2.2.1⟩
theorem X9_a8 {n : Nat} {K : Nat → Nat × Nat} {R : Nat → Nat → Option Nat} {a : Nat} (h : isX9 n K R a) : a + 7 < n ∧ K (a + 7) = (1, 200) := ⟨h.2.2.2.2.2.2.2.2.2.2.2.2.2.2.2.2.2.2.2.2.2.2.2.2.2.2.2.2.2.2.2.2.2.2.2.2.2.2.2.2.2.2.2.2.2.2.2.2.2.2.1, h.2.2.2.2.2.2.2.2.2.2.2.2.2.2.2.2.2.2.2.2.2.2.2.2.2.2.2.2.2.2.2.2.2.2.2.2.2.2.2.2.2.2.2.2.2.2.2.2.2.2.2.1⟩
theorem X9_a9 {n : Nat} {K : Nat → Nat × Nat} {R : Nat → Nat → Option Nat} {a : Nat} (h : isX9 n K R a) : a + 8 < n ∧ K (a + 8) = (1, 200) := ⟨h.2.2.2.2.2.2.2.2.2.2.2.2.2.2.2.2.2.2.2.2.2.2.2.2.2.2.2.2.2.2.2.2.2.2.2.2.2.2.2.2.2.2.2.2.2.2.2.2.2.2.2.2.1, h.2.2.2.2.2.2.2.2.2.2.2.2.2.2.2.2.2.2.2.2.2.2.2.2.2.2.2.2.2.2.2.2.2.2.2.2.2.2.2.2.2.2.2.2.2.2.2.2.2.2.2.2.2.1⟩
theorem X9_a10 {n : Nat} {K : Nat → Nat × Nat} {R : Nat → Nat → Option Nat} {a : Nat} (h : isX9 n K R a) : a + 9 < n ∧ K (a + 9) = (1, 200) := ⟨h.2.2.2.2.2.2.2.2.2.2.2.2.2.2.2.2.2.2.2.2.2.2.2.2.2.2.2.2.2.2.2.2.2.2.2.2.2.2.2.2.2.2.2.2.2.2.2.2.2.2.2.2.2.2.1, h.2.2.2.2.2.2.2.2.2.2.2.2.2.2.2.2.2.2.2.2.2.2.2.2.2.2.2.2.2.2.2.2.2.2.2.2.2.2.2.2.2.2.2.2.2.2.2.2.2.2.2.2.2.2.2.1⟩
theorem X9_a11 {n : Nat} {K : Nat → Nat × Nat} {R : Nat → Nat → Option Nat} {a : Nat} (h : isX9 n K R a) : a + 10 < n ∧ K (a + 10) = (1, 200) := ⟨h.2.2.2.2.2.2.2.2.2.2.2.2.2.2.2.2.2.2.2.2.2.2.2.2.2.2.2.2.2.2.2.2.2.2.2.2.2.2.2.2.2.2.2.2.2.2.2.2.2.2.2.2.2.2.2.2.1, h.2.2.2.2.2.2.2.2.2.2.2.2.2.2.2.2.2.2.2.2.2.2.2.2.2.2.2.2.2.2.2.2.2.2.2.2.2.2.2.2.2.2.2.2.2.2.2.2.2.2.2.2.2.2.2.2.2.1⟩
theorem X9_a12 {n : Nat} {K : Nat → Nat × Nat} {R : Nat → Nat → Option Nat} {a : Nat} (h : isX9 n K R a) : a + 11 < n ∧ K (a + 11) = (1, 200) := ⟨h.2.2.2.2.2.2.2.2.2.2.2.2.2.2.2.2.2.2.2.2.2.2.2.2.2.2.2.2.2.2.2.2.2.2.2.2.2.2.2.2.2.2.2.2.2.2.2.2.2.2.2.2.2.2.2.2.2.2.1, h.2.2.2.2.2.2.2.2.2.2.2.2.2.2.2.2.2.2.2.2.2.2.2.2.2.2.2.2.2.2.2.2.2.2.2.2.2.2.2.2.2.2.2.2.2.2.2.2.2.2.2.2.2.2.2.2.2.2.2.1⟩
theorem X9_a13 {n : Nat} {K : Nat → Nat × Nat} {R : Nat → Nat → Option Nat} {a : Nat} (h : isX9 n K R a) : a + 12 < n ∧ K (a + 12) = (1, 200) := ⟨h.2.2.2.2.2.2.2.2.2.2.2.2.2.2.2.2.2.2.2.2.2.2.2.2.2.2.2.2.2.2.2.2.2.2.2.2.2.2.2.2.2.2.2.2.2.2.2.2.2.2.2.2.2.2.2.2.2.2.2.2.1, h.2.2.2.2.2.2.2.2.2.2.2.2.2.2.2.2.2.2.2.2.2.2.2.2.2.2.2.2.2.2.2.2.2.2.2.2.2.2.2.2.2.2.2.2.2.2.2.2.2.2.2.2.2.2.2.2.2.2.2.2.2.1⟩
theorem X9_a14 {n : Nat} {K : Nat → Nat × Nat} {R : Nat → Nat → Option Nat} {a : Nat} (h : isX9 n K R a) : a + 13 < n ∧ K (a + 13) = (1, 200) := ⟨h.2.2.2.2.2.2.2.2.2.2.2.2.2.2.2.2.2.2.2.2.2.2.2.2.2.2.2.2.2.2.2.2.2.2.2.2.2.2.2.2.2.2.2.2.2.2.2.2.2.2.2.2.2.2.2.2.2.2.2.2.2.2.1, h.2.2.2.2.2.2.2.2.2.2.2.2.2.2.2.2.2.2.2.2.2.2.2.2.2.2.2.2.2.2.2.2.2.2.2.2.2.2.2.2.2.2.2.2.2.2.2.2.2.2.2.2.2.2.2.2.2.2.2.2.2.2.2.1⟩
theorem X9_a15 {n : Nat} {K : Nat → Nat × Nat} {R : Nat → Nat → Option Nat} {a : Nat} (h : isX9 n K R a) : a + 14 < n ∧ K (a + 14) = (1, 2) := ⟨h.2.2.2.2.2.2.2.2.2.2.2.2.2.2.2.2.2.2.2.2.2.2.2.2.2.2.2.2.2.2.2.2.2.2.2.2.2.2.2.2.2.2.2.2.2.2.2.2.2.2.2.2.2.2.2.2.2.2.2.2.2.2.2.2.1, h.2.2.2.2.2.2.2.2.2.2.2.2.2.2.2.2.2.2.2.2.2.2.2.2.2.2.2.2.2.2.2.2.2.2.2.2.2.2.2.2.2.2.2.2.2.2.2.2.2.2.2.2.2.2.2.2.2.2.2.2.2.2.2.2.2.1⟩
theorem X9_a16 {n : Nat} {K : Nat → Nat × Nat} {R : Nat → Nat → Option Nat} {a : Nat} (h : isX9 n K R a) : a + 15 < n ∧ K (a + 15) = (1, 100) := ⟨h.2.2.2.2.2.2.2.2.2.2.2.2.2.2.2.2.2.2.2.2.2.2.2.2.2.2.2.2.2.2.2.2.2.2.2.2.2.2.2.2.2.2.2.2.2.2.2.2.2.2.2.2.2.2.2.2.2.2.2.2.2.2.2.2.2.2.1, h.2.2.2.2.2.2.2.2.2.2.2.2.2.2.2.2.2.2.2.2.2.2.2.2.2.2.2.2.2.2.2.2.2.2.2.2.2.2.2.2.2.2.2.2.2.2.2.2.2.2.2.2.2.2.2.2.2.2.2.2.2.2.2.2.2.2.2.1⟩
theorem X9_a17 {n : Nat} {K : Nat → Nat × Nat} {R : Nat → Nat → Option Nat} {a : Nat} (h : isX9 n K R a) : a + 16 < n ∧ K (a + 16) = (1, 110) := ⟨h.2.2.2.2.2.2.2.2.2.2.2.2.2.2.2.2.2.2.2.2.2.2.2.2.2.2.2.2.2.2.2.2.2.2.2.2.2.2.2.2.2.2.2.2.2.2.2.2.2.2.2.2.2.2.2.2.2.2.2.2.2.2.2.2.2.2.2.2.1, h.2.2.2.2.2.2.2.2.2.2.2.2.2.2.2.2.2.2.2.2.2.2.2.2.2.2.2.2.2.2.2.2.2.2.2.2.2.2.2.2.2.2.2.2.2.2.2.2.2.2.2.2.2.2.2.2.2.2.2.2.2.2.2.2.2.2.2.2.2.1⟩
theorem X9_a18 {n : Nat} {K : Nat → Nat × Nat} {R : Nat → Nat → Option Nat} {a : Nat} (h : isX9 n K R a) : a + 17 < n ∧ K (a + 17) = (1, 110) := ⟨h.2.2.2.2.2.2.2.2.2.2.2.2.2.2.2.2.2.2.2.2.2.2.2.2.2.2.2.2.2.2.2.2.2.2.2.2.2.2.2.2.2.2.2.2.2.2.2.2.2.2.2.2.2.2.2.2.2.2.2.2.2.2.2.2.2.2.2.2.2.2.1, h.2.2.2.2.2.2.2.2.2.2.2.2.2.2.2.2.2.2.2.2.2.2.2.2.2.2.2.2.2.2.2.2.2.2.2.2.2.2.2.2.2.2.2.2.2.2.2.2.2.2.2.2.2.2.2.2.2.2.2.2.2.2.2.2.2.2.2.2.2.2.2.1⟩
theorem X9_a19 {n : Nat} {K : Nat → Nat × Nat} {R : Nat → Nat → Option Nat} {a : Nat} (h : isX9 n K R a) : a + 18 < n ∧ K (a + 18) = (1, 110) := ⟨h.2.2.2.2.2.2.2.2.2.2.2.2.2.2.2.2.2.2.2.2.2.2.2.2.2.2.2.2.2.2.2.2.2.2.2.2.2.2.2.2.2.2.2.2.2.2.2.2.2.2.2.2.2.2.2.2.2.2.2.2.2.2.2.2.2.2.2.2.2.2.2.2.1, h.2.2.2.2.2.2.2.2.2.2.2.2.2.2.2.2.2.2.2.2.2.2.2.2.2.2.2.2.2.2.2.2.2.2.2.2.2.2.2.2.2.2.2.2.2.2.2.2.2.2.2.2.2.2.2.2.2.2.2.2.2.2.2.2.2.2.2.2.2.2.2.2.2.1⟩
theorem X9_a20 {n : Nat} {K : Nat → Nat × Nat} {R : Nat → Nat → Option Nat} {a : Nat} (h : isX9 n K R a) : a + 19 < n ∧ K (a + 19) = (1, 110) := ⟨h.2.2.2.2.2.2.2.2.2.2.2.2.2.2.2.2.2.2.2.2.2.2.2.2.2.2.2.2.2.2.2.2.2.2.2.2.2.2.2.2.2.2.2.2.2.2.2.2.2.2.2.2.2.2.2.2.2.2.2.2.2.2.2.2.2.2.2.2.2.2.2.2.2.2.1, h.2.2.2.2.2.2.2.2.2.2.2.2.2.2.2.2.2.2.2.2.2.2.2.2.2.2.2.2.2.2.2.2.2.2.2.2.2.2.2.2.2.2.2.2.2.2.2.2.2.2.2.2.2.2.2.2.2.2.2.2.2.2.2.2.2.2.2.2.2.2.2.2.2.2.2.1⟩
theorem X9_a22 {n : Nat} {K : Nat → Nat × Nat} {R : Nat → Nat → Option Nat} {a : Nat} (h : isX9 n K R a) : a + 20 < n ∧ K (a + 20) = (1, 100) := ⟨h.2.2.2.2.2.2.2.2.2.2.2.2.2.2.2.2.2.2.2.2.2.2.2.2.2.2.2.2.2.2.2.2.2.2.2.2.2.2.2.2.2.2.2.2.2.2.2.2.2.2.2.2.2.2.2.2.2.2.2.2.2.2.2.2.2.2.2.2.2.2.2.2.2.2.2.2.1, h.2.2.2.2.2.2.2.2.2.2.2.2.2.2.2.2.2.2.2.2.2.2.2.2.2.2.2.2.2.2.2.2.2.2.2.2.2.2.2.2.2.2.2.2.2.2.2.2.2.2.2.2.2.2.2.2.2.2.2.2.2.2.2.2.2.2.2.2.2.2.2.2.2.2.2.2.2.1⟩
theorem X9_a24 {n : Nat} {K : Nat → Nat × Nat} {R : Nat → Nat → Option Nat} {a : Nat} (h : isX9 n K R a) : a + 21 < n ∧ K (a + 21) = (1, 100) := ⟨h.2.2.2.2.2.2.2.2.2.2.2.2.2.2.2.2.2.2.2.2.2.2.2.2.2.2.2.2.2.2.2.2.2.2.2.2.2.2.2.2.2.2.2.2.2.2.2.2.2.2.2.2.2.2.2.2.2.2.2.2.2.2.2.2.2.2.2.2.2.2.2.2.2.2.2.2.2.2.1, h.2.2.2.2.2.2.2.2.2.2.2.2.2.2.2.2.2.2.2.2.2.2.2.2.2.2.2.2.2.2.2.2.2.2.2.2.2.2.2.2.2.2.2.2.2.2.2.2.2.2.2.2.2.2.2.2.2.2.2.2.2.2.2.2.2.2.2.2.2.2.2.2.2.2.2.2.2.2.2.1⟩
theorem X9_a27 {n : Nat} {K : Nat → Nat × Nat} {R : Nat → Nat → Option Nat} {a : Nat} (h : isX9 n K R a) : a + 22 < n ∧ K (a + 22) = (1, 8) := ⟨h.2.2.2.2.2.2.2.2.2.2.2.2.2.2.2.2.2.2.2.2.2.2.2.2.2.2.2.2.2.2.2.2.2.2.2.2.2.2.2.2.2.2.2.2.2.2.2.2.2.2.2.2.2.2.2.2.2.2.2.2.2.2.2.2.2.2.2.2.2.2.2.2.2.2.2.2.2.2.2.2.1, h.2.2.2.2.2.2.2.2.2.2.2.2.2.2.2.2.2.2.2.2.2.2.2.2.2.2.2.2.2.2.2.2.2.2.2.2.2.2.2.2.2.2.2.2.2.2.2.2.2.2.2.2.2.2.2.2.2.2.2.2.2.2.2.2.2.2.2.2.2.2.2.2.2.2.2.2.2.2.2.2.2.1⟩
theorem X9_a29 {n : Nat} {K : Nat → Nat × Nat} {R : Nat → Nat → Option Nat} {a : Nat} (h : isX9 n K R a) : a + 23 < n ∧ K (a + 23) = (1, 100) := ⟨h.2.2.2.2.2.2.2.2.2.2.2.2.2.2.2.2.2.2.2.2.2.2.2.2.2.2.2.2.2.2.2.2.2.2.2.2.2.2.2.2.2.2.2.2.2.2.2.2.2.2.2.2.2.2.2.2.2.2.2.2.2.2.2.2.2.2.2.2.2.2.2.2.2.2.2.2.2.2.2.2.2.2.1, h.2.2.2.2.2.2.2.2.2.2.2.2.2.2.2.2.2.2.2.2.2.2.2.2.2.2.2.2.2.2.2.2.2.2.2.2.2.2.2.2.2.2.2.2.2.2.2.2.2.2.2.2.2.2.2.2.2.2.2.2.2.2.2.2.2.2.2.2.2.2.2.2.2.2.2.2.2.2.2.2.2.2.2.1⟩
theorem X9_a30 {n : Nat} {K : Nat → Nat × Nat} {R : Nat → Nat → Option Nat} {a : Nat} (h : isX9 n K R a) : a + 24 < n ∧ K (a + 24) = (1, 100) := ⟨h.2.2.2.2.2.2.2.2.2.2.2.2.2.2.2.2.2.2.2.2.2.2.2.2.2.2.2.2.2.2.2.2.2.2.2.2.2.2.2.2.2.2.2.2.2.2.2.2.2.2.2.2.2.2.2.2.2.2.2.2.2.2.2.2.2.2.2.2.2.2.2.2.2.2.2.2.2.2.2.2.2.2.2.2.1, h.2.2.2.2.2.2.2.2.2.2.2.2.2.2.2.2.2.2.2.2.2.2.2.2.2.2.2.2.2.2.2.2.2.2.2.2.2.2.2.2.2.2.2.2.2.2.2.2.2.2.2.2.2.2.2.2.2.2.2.2.2.2.2.2.2.2.2.2.2.2.2.2.2.2.2.2.2.2.2.2.2.2.2.2.2.1⟩
theorem X9_a31 {n : Nat} {K : Nat → Nat × Nat} {R : Nat → Nat → Option Nat} {a : Nat} (h : isX9 n K R a) : a + 25 < n ∧ K (a + 25) = (1, 100) := ⟨h.2.2.2.2.2.2.2.2.2.2.2.2.2.2.2.2.2.2.2.2.2.2.2.2.2.2.2.2.2.2.2.2.2.2.2.2.2.2.2.2.2.2.2.2.2.2.2.2.2.2.2.2.2.2.2.2.2.2.2.2.2.2.2.2.2.2.2.2.2.2.2.2.2.2.2.2.2.2.2.2.2.2.2.2.2.2.1, h.2.2.2.2.2.2.2.2.2.2.2.2.2.2.2.2.2.2.2.2.2.2.2.2.2.2.2.2.2.2.2.2.2.2.2.2.2.2.2.2.2.2.2.2.2.2.2.2.2.2.2.2.2.2.2.2.2.2.2.2.2.2.2.2.2.2.2.2.2.2.2.2.2.2.2.2.2.2.2.2.2.2.2.2.2.2.2.1⟩
theorem X9_a32 {n : Nat} {K : Nat → Nat × Nat} {R : Nat → Nat → Option Nat} {a : Nat} (h : isX9 n K R a) : a + 26 < n ∧ K (a + 26) = (1, 100) := ⟨h.2.2.2.2.2.2.2.2.2.2.2.2.2.2.2.2.2.2.2.2.2.2.2.2.2.2.2.2.2.2.2.2.2.2.2.2.2.2.2.2.2.2.2.2.2.2.2.2.2.2.2.2.2.2.2.2.2.2.2.2.2.2.2.2.2.2.2.2.2.2.2.2.2.2.2.2.2.2.2.2.2.2.2.2.2.2.2.2.1, h.2.2.2.2.2.2.2.2.2.2.2.2.2.2.2.2.2.2.2.2.2.2.2.2.2.2.2.2.2.2.2.2.2.2.2.2.2.2.2.2.2.2.2.2.2.2.2.2.2.2.2.2.2.2.2.2.2.2.2.2.2.2.2.2.2.2.2.2.2.2.2.2.2.2.2.2.2.2.2.2.2.2.2.2.2.2.2.2.2.1⟩
theorem X9_a33 {n : Nat} {K : Nat → Nat × Nat} {R : Nat → Nat → Option Nat} {a : Nat} (h : isX9 n K R a) : a + 27 < n ∧ K (a + 27) = (1, 100) := ⟨h.2.2.2.2.2.2.2.2.2.2.2.2.2.2.2.2.2.2.2.2.2.2.2.2.2.2.2.2.2.2.2.2.2.2.2.2.2.2.2.2.2.2.2.2.2.2.2.2.2.2.2.2.2.2.2.2.2.2.2.2.2.2.2.2.2.2.2.2.2.2.2.2.2.2.2.2.2.2.2.2.2.2.2.2.2.2.2.2.2.2.1, h.2.2.2.2.2.2.2.2.2.2.2.2.2.2.2.2.2.2.2.2.2.2.2.2.2.2.2.2.2.2.2.2.2.2.2.2.2.2.2.2.2.2.2.2.2.2.2.2.2.2.2.2.2.2.2.2.2.2.2.2.2.2.2.2.2.2.2.2.2.2.2.2.2.2.2.2.2.2.2.2.2.2.2.2.2.2.2.2.2.2.2.1⟩
theorem X9_a34 {n : Nat} {K : Nat → Nat × Nat} {R : Nat → Nat → Option Nat} {a : Nat} (h : isX9 n K R a) : a + 28 < n ∧ K (a + 28) = (1, 100) := ⟨h.2.2.2.2.2.2.2.2.2.2.2.2.2.2.2.2.2.2.2.2.2.2.2.2.2.2.2.2.2.2.2.2.2.2.2.2.2.2.2.2.2.2.2.2.2.2.2.2.2.2.2.2.2.2.2.2.2.2.2.2.2.2.2.2.2.2.2.2.2.2.2.2.2.2.2.2.2.2.2.2.2.2.2.2.2.2.2.2.2.2.2.2.1, h.2.2.2.2.2.2.2.2.2.2.2.2.2.2.2.2.2.2.2.2.2.2.2.2.2.2.2.2.2.2.2.2.2.2.2.2.2.2.2.2.2.2.2.2.2.2.2.2.2.2.2.2.2.2.2.2.2.2.2.2.2.2.2.2.2.2.2.2.2.2.2.2.2.2.2.2.2.2.2.2.2.2.2.2.2.2.2.2.2.2.2.2.2.1⟩
theorem X9_a35 {n : Nat} {K : Nat → Nat × Nat} {R : Nat → Nat → Option Nat} {a : Nat} (h : isX9 n K R a) : a + 29 < n ∧ K (a + 29) = (1, 100) := ⟨h.2.2.2.2.2.2.2.2.2.2.2.2.2.2.2.2.2.2.2.2.2.2.2.2.2.2.2.2.2.2.2.2.2.2.2.2.2.2.2.2.2.2.2.2.2.2.2.2.2.2.2.2.2.2.2.2.2.2.2.2.2.2.2.2.2.2.2.2.2.2.2.2.2.2.2.2.2.2.2.2.2.2.2.2.2.2.2.2.2.2.2.2.2.2.1, h.2.2.2.2.2.2.2.2.2.2.2.2.2.2.2.2.2.2.2.2.2.2.2.2.2.2.2.2.2.2.2.2.2.2.2.2.2.2.2.2.2.2.2.2.2.2.2.2.2.2.2.2.2.2.2.2.2.2.2.2.2.2.2.2.2.2.2.2.2.2.2.2.2.2.2.2.2.2.2.2.2.2.2.2.2.2.2.2.2.2.2.2.2.2.2.1⟩
theorem X9_a38 {n : Nat} {K : Nat → Nat × Nat} {R : Nat → Nat → Option Nat} {a : Nat} (h : isX9 n K R a) : a + 30 < n ∧ K (a + 30) = (1, 102) := ⟨h.2.2.2.2.2.2.2.2.2.2.2.2.2.2.2.2.2.2.2.2.2.2.2.2.2.2.2.2.2.2.2.2.2.2.2.2.2.2.2.2.2.2.2.2.2.2.2.2.2.2.2.2.2.2.2.2.2.2.2.2.2.2.2.2.2.2.2.2.2.2.2.2.2.2.2.2.2.2.2.2.2.2.2.2.2.2.2.2.2.2.2.2.2.2.2.2.1, h.2.2.2.2.2.2.2.2.2.2.2.2.2.2.2.2.2.2.2.2.2.2.2.2.2.2.2.2.2.2.2.2.2.2.2.2.2.2.2.2.2.2.2.2.2.2.2.2.2.2.2.2.2.2.2.2.2.2.2.2.2.2.2.2.2.2.2.2.2.2.2.2.2.2.2.2.2.2.2.2.2.2.2.2.2.2.2.2.2.2.2.2.2.2.2.2.2.1⟩
theorem X9_a39 {n : Nat} {K : Nat → Nat × Nat} {R : Nat → Nat → Option Nat} {a : Nat} (h : isX9 n K R a) : a + 31 < n ∧ K (a + 31) = (1, 102) := ⟨h.2.2.2.2.2.2.2.2.2.2.2.2.2.2.2.2.2.2.2.2.2.2.2.2.2.2.2.2.2.2.2.2.2.2.2.2.2.2.2.2.2.2.2.2.2.2.2.2.2.2.2.2.2.2.2.2.2.2.2.2.2.2.2.2.2.2.2.2.2.2.2.2.2.2.2.2.2.2.2.2.2.2.2.2.2.2.2.2.2.2.2.2.2.2.2.2.2.2.1, h.2.2.2.2.2.2.2.2.2.2.2.2.2.2.2.2.2.2.2.2.2.2.2.2.2.2.2.2.2.2.2.2.2.2.2.2.2.2.2.2.2.2.2.2.2.2.2.2.2.2.2.2.2.2.2.2.2.2.2.2.2.2.2.2.2.2.2.2.2.2.2.2.2.2.2.2.2.2.2.2.2.2.2.2.2.2.2.2.2.2.2.2.2.2.2.2.2.2.2.1⟩
theorem X9_a40 {n : Nat} {K : Nat → Nat × Nat} {R : Nat → Nat → Option Nat} {a : Nat} (h : isX9 n K R a) : a + 32 < n ∧ K (a + 32) = (1, 103) := ⟨h.2.2.2.2.2.2.2.2.2.2.2.2.2.2.2.2.2.2.2.2.2.2.2.2.2.2.2.2.2.2.2.2.2.2.2.2.2.2.2.2.2.2.2.2.2.2.2.2.2.2.2.2.2.2.2.2.2.2.2.2.2.2.2.2.2.2.2.2.2.2.2.2.2.2.2.2.2.2.2.2.2.2.2.2.2.2.2.2.2.2.2.2.2.2.2.2.2.2.2.2.1, h.2.2.2.2.2.2.2.2.2.2.2.2.2.2.2.2.2.2.2.2.2.2.2.2.2.2.2.2.2.2.2.2.2.2.2.2.2.2.2.2.2.2.2.2.2.2.2.2.2.2.2.2.2.2.2.2.2.2.2.2.2.2.2.2.2.2.2.2.2.2.2.2.2.2.2.2.2.2.2.2.2.2.2.2.2.2.2.2.2.2.2.2.2.2.2.2.2.2.2.2.2.1⟩
theorem X9_a42 {n : Nat} {K : Nat → Nat × Nat} {R : Nat → Nat → Option Nat} {a : Nat} (h : isX9 n K R a) : a + 33 < n ∧ K (a + 33) = (1, 102) := ⟨h.2.2.2.2.2.2.2.2.2.2.2.2.2.2.2.2.2.2.2.2.2.2.2.2.2.2.2.2.2.2.2.2.2.2.2.2.2.2.2.2.2.2.2.2.2.2.2.2.2.2.2.2.2.2.2.2.2.2.2.2.2.2.2.2.2.2.2.2.2.2.2.2.2.2.2.2.2.2.2.2.2.2.2.2.2.2.2.2.2.2.2.2.2.2.2.2.2.2.2.2.2.2.1, h.2.2.2.2.2.2.2.2.2.2.2.2.2.2.2.2.2.2.2.2.2.2.2.2.2.2.2.2.2.2.2.2.2.2.2.2.2.2.2.2.2.2.2.2.2.2.2.2.2.2.2.2.2.2.2.2.2.2.2.2.2.2.2.2.2.2.2.2.2.2.2.2.2.2.2.2.2.2.2.2.2.2.2.2.2.2.2.2.2.2.2.2.2.2.2.2.2.2.2.2.2.2.2.1⟩
theorem X9_a43 {n : Nat} {K : Nat → Nat × Nat} {R : Nat → Nat → Option Nat} {a : Nat} (h : isX9 n K R a) : a + 34 < n ∧ K (a + 34) = (1, 102) := ⟨h.2.2.2.2.2.2.2.2.2.2.2.2.2.2.2.2.2.2.2.2.2.2.2.2.2.2.2.2.2.2.2.2.2.2.2.2.2.2.2.2.2.2.2.2.2.2.2.2.2.2.2.2.2.2.2.2.2.2.2.2.2.2.2.2.2.2.2.2.2.2.2.2.2.2.2.2.2.2.2.2.2.2.2.2.2.2.2.2.2.2.2.2.2.2.2.2.2.2.2.2.2.2.2.2.1, h.2.2.2.2.2.2.2.2.2.2.2.2.2.2.2.2.2.2.2.2.2.2.2.2.2.2.2.2.2.2.2.2.2.2.2.2.2.2.2.2.2.2.2.2.2.2.2.2.2.2.2.2.2.2.2.2.2.2.2.2.2.2.2.2.2.2.2.2.2.2.2.2.2.2.2.2.2.2.2.2.2.2.2.2.2.2.2.2.2.2.2.2.2.2.2.2.2.2.2.2.2.2.2.2.2.1⟩
theorem X9_a44 {n : Nat} {K : Nat → Nat × Nat} {R : Nat → Nat → Option Nat} {a : Nat} (h : isX9 n K R a) : a + 35 < n ∧ K (a + 35) = (1, 102) := ⟨h.2.2.2.2.2.2.2.2.2.2.2.2.2.2.2.2.2.2.2.2.2.2.2.2.2.2.2.2.2.2.2.2.2.2.2.2.2.2.2.2.2.2.2.2.2.2.2.2.2.2.2.2.2.2.2.2.2.2.2.2.2.2.2.2.2.2.2.2.2.2.2.2.2.2.2.2.2.2.2.2.2.2.2.2.2.2.2.2.2.2.2.2.2.2.2.2.2.2.2.2.2.2.2.2.2.2.1, h.2.2.2.2.2.2.2.2.2.2.2.2.2.2.2.2.2.2.2.2.2.2.2.2.2.2.2.2.2.2.2.2.2.2.2.2.2.2.2.2.2.2.2.2.2.2.2.2.2.2.2.2.2.2.2.2.2.2.2.2.2.2.2.2.2.2.2.2.2.2.2.2.2.2.2.2.2.2.2.2.2.2.2.2.2.2.2.2.2.2.2.2.2.2.2.2.2.2.2.2.2.2.2.2.2.2.2.1⟩
theorem X9_a45 {n : Nat} {K : Nat → Nat × Nat} {R : Nat → Nat → Option Nat} {a : Nat} (h : isX9 n K R a) : a + 36 < n ∧ K (a + 36) = (1, 102) := ⟨h.2.2.2.2.2.2.2.2.2.2.2.2.2.2.2.2.2.2.2.2.2.2.2.2.2.2.2.2.2.2.2.2.2.2.2.2.2.2.2.2.2.2.2.2.2.2.2.2.2.2.2.2.2.2.2.2.2.2.2.2.2.2.2.2.2.2.2.2.2.2.2.2.2.2.2.2.2.2.2.2.2.2.2.2.2.2.2.2.2.2.2.2.2.2.2.2.2.2.2.2.2.2.2.2.2.2.2.2.1, h.2.2.2.2.2.2.2.2.2.2.2.2.2.2.2.2.2.2.2.2.2.2.2.2.2.2.2.2.2.2.2.2.2.2.2.2.2.2.2.2.2.2.2.2.2.2.2.2.2.2.2.2.2.2.2.2.2.2.2.2.2.2.2.2.2.2.2.2.2.2.2.2.2.2.2.2.2.2.2.2.2.2.2.2.2.2.2.2.2.2.2.2.2.2.2.2.2.2.2.2.2.2.2.2.2.2.2.2.2⟩
def inC (sp dp n : Int32) (l0 l1 : Nat) : Bool := decide (¬ sp < 0) && decide (¬ dp < 0) && decide (¬ n < 0) && decide (ix sp + ix n ≤ l0) && decide (ix dp + ix n ≤ l1)
def uC (D : DD) (a0 a : Nat) (sp dp n : Int32) : DD := uA D a (va_cpy (D a0) (D a) (ix sp) (ix dp) (ix n))
theorem z_kc {n : Nat} {K : Nat → Nat × Nat} {R : Nat → Nat → Option Nat} {D : DD} {β γ : Type} {L : β → γ} {a0 a l0 l1 : Nat} {sp dp m : Int32} {X : Option γ} {Y : Option β} (h0 : a0 < n ∧ K a0 = (1, l0)) (h1 : a < n ∧ K a = (1, l1)) (h : inC sp dp m l0 l1 = true → X = Y.map L) : zck (kC ((n, K, R, D) : Mm) a0 a sp dp m) X = (zck (inC sp dp m l0 l1) Y).map L := by
  have e : kC ((n, K, R, D) : Mm) a0 a sp dp m = inC sp dp m l0 l1 := by
    simp [kC, inC, mN, mK, h0.1, h0.2, h1.1, h1.2]
  rw [e]
  exact z_ck h
theorem q_X5_row {n : Nat} {K : Nat → Nat × Nat} {R : Nat → Nat → Option Nat} {D : DD} {a : Nat} (h : isX5 n K R a) : f_X5_row a ((n, K, R, D) : Mm) = some (a + 1, ((n, K, R, D) : Mm)) := by
  unfold f_X5_row
  exact z_ko (X5_o h) (z_rb (X5_r0 h) rfl)
theorem q_X5_shown {n : Nat} {K : Nat → Nat × Nat} {R : Nat → Nat → Option Nat} {D : DD} {a : Nat} (h : isX5 n K R a) : f_X5_shown a ((n, K, R, D) : Mm) = some (a + 4, ((n, K, R, D) : Mm)) := by
  unfold f_X5_shown
  exact z_ko (X5_o h) (z_rb (X5_r4 h) rfl)
theorem q_X6_pairs {n : Nat} {K : Nat → Nat × Nat} {R : Nat → Nat → Option Nat} {D : DD} {a : Nat} (h : isX6 n K R a) : f_X6_pairs a ((n, K, R, D) : Mm) = some (a + 1, ((n, K, R, D) : Mm)) := by
  unfold f_X6_pairs
  exact z_ko (X6_o h) (z_rb (X6_r0 h) rfl)
