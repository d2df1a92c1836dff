/-! ===== make, first loop: all nodes are noted ===== -/
def sumc (f : Nat → Int32) : List WW → Nat
  | [] => 0
  | w :: r => cn f w.1 w.2.1 + sumc f r
def wL (f : Nat → Int32) (k : Nat) : WW := ((pl f k).1, k, some k, 0)
def wR (f : Nat → Int32) (k : Nat) : WW := (k + 1, (pl f k).2.1, some k, 1)
def w0 : WW := (0, 100, none, 0)
def Rec (f : Nat → Int32) (m b : Nat) (D : DD) (k : Nat) : Prop := D (m + 10) (b + k) = nI (pl f k).1 ∧ D (m + 11) (b + k) = nI (pl f k).2.1 - 1 ∧ D (m + 9) (b + k) = nI (pl f k).2.2.1 ∧ D (m + 6) (b + k) = oI (pl f k).2.2.2
def Lft (f : Nat → Int32) (m b : Nat) (D : DD) (k : Nat) : Prop := D (m + 7) (b + k) = oI (bs f (pl f k).1 k)
def Rgt (f : Nat → Int32) (m b : Nat) (D : DD) (k : Nat) : Prop := D (m + 8) (b + k) = oI (bs f (k + 1) (pl f k).2.1)
def MkI (f : Nat → Int32) (m b lev : Nat) (D : DD) (ws : List WW) (os : List Nat) : Prop :=
  ws.length ≤ os.length + 1 ∧ os.length + sumc f ws = cn f 0 100 ∧ (∀ w ∈ ws, w = w0 ∨ ∃ k ∈ os, w = wL f k ∨ w = wR f k) ∧ (∀ k ∈ os, k < 100 ∧ f k ≠ -9 ∧ Rec f m b D k) ∧ (w0 ∈ ws ∨ D (m + 14) lev = oI (bs f 0 100)) ∧
  (∀ pre k post, os = pre ++ k :: post → (wL f k ∈ ws ∨ (Lft f m b D k ∧ ∀ c, bs f (pl f k).1 k = some c → c ∈ pre)) ∧ (wR f k ∈ ws ∨ (Rgt f m b D k ∧ ∀ c, bs f (k + 1) (pl f k).2.1 = some c → c ∈ pre))) ∧
  (∀ x, x < 100 → f x ≠ -9 → x ∈ os ∨ ∃ w ∈ ws, w.1 ≤ x ∧ x < w.2.1) ∧ Opn (D (m + 15)) os ∧ Wn m D ws ∧ D m 21 = nI ws.length
/-- what the making leaves alone -/
def FrM (m : Nat) (D D' : DD) : Prop := (∀ c, c ≠ m → (c < m + 6 ∨ m + 19 < c) → D' c = D c) ∧ ∀ j, j ≠ 21 → D' m j = D m j
def FrB (m b : Nat) (D D' : DD) : Prop := ∀ c, m + 6 ≤ c → c ≤ m + 13 → ∀ j, j < b → D' c j = D c j
theorem FrB.rf {m b : Nat} {D : DD} : FrB m b D D := fun _ _ _ _ _ => rfl
theorem FrB.tr {m b : Nat} {D D' D'' : DD} (h1 : FrB m b D D') (h2 : FrB m b D' D'') : FrB m b D D'' := fun c a b j hj => (h2 c a b j hj).trans (h1 c a b j hj)
theorem FrM.rf {m : Nat} {D : DD} : FrM m D D := ⟨fun _ _ _ => rfl, fun _ _ => rfl⟩
theorem FrM.tr {m : Nat} {D D' D'' : DD} (h1 : FrM m D D') (h2 : FrM m D' D'') : FrM m D D'' := ⟨fun c a b => (h2.1 c a b).trans (h1.1 c a b), fun j a => (h2.2 j a).trans (h1.2 j a)⟩
/-- a want: its borders, and the place of what is found there -/
theorem w_ok {f : Nat → Int32} {os : List Nat} {w : WW} (ho : ∀ k ∈ os, k < 100 ∧ f k ≠ -9) (h : w = w0 ∨ ∃ k ∈ os, w = wL f k ∨ w = wR f k) : Bd f w.1 w.2.1 ∧ w.2.2.2 < 2 ∧ (∀ o, w.2.2.1 = some o → o ∈ os ∧ o < 100) ∧ ∀ c, bs f w.1 w.2.1 = some c → pl f c = (w.1, w.2.1, (match w.2.2.1 with | none => 0 | some o => (pl f o).2.2.1 + 1), w.2.2.1) := by
  rcases h with rfl | ⟨k, hk, rfl | rfl⟩
  · exact ⟨Bd_top f, by decide, fun o h => (by cases h), fun c hc => pl_top hc⟩
  · obtain ⟨h1, h2⟩ := ho k hk
    obtain ⟨p1, p2, -, -, -⟩ := pl_spec h2 h1
    exact ⟨Bd_left p1 p2, by show 0 < 2; decide, fun o h => (by cases h; exact ⟨hk, h1⟩), fun c hc => pl_left h2 h1 hc⟩
  · obtain ⟨h1, h2⟩ := ho k hk
    obtain ⟨p1, p2, -, -, -⟩ := pl_spec h2 h1
    exact ⟨Bd_right p1 p2, by show 1 < 2; decide, fun o h => (by cases h; exact ⟨hk, h1⟩), fun c hc => pl_right h2 h1 hc⟩
theorem lk_L {m lev b : Nat} {D : DD} {on : Option Nat} {sd : Nat} {v : Int32} {j : Nat} : lk m lev b D on sd v (m + 7) j = if on = some (j - b) ∧ sd = 0 ∧ b ≤ j then v else D (m + 7) j := by
  cases on with
  | none =>
    show u2 D (m + 14) lev v (m + 7) j = _
    rw [u2_ne _ _ (by omega), if_neg (fun h => by cases h.1)]
  | some o =>
    show (if sd = 0 then _ else _ : DD) (m + 7) j = _
    by_cases hs : sd = 0
    · rw [if_pos hs, u2_same]
      by_cases hj : j = b + o
      · subst hj
        rw [upd_same, if_pos ⟨by congr 1; omega, hs, by omega⟩]
      · rw [upd_ne _ _ hj, if_neg (fun h => hj (by have := h.1; cases this; omega))]
    · rw [if_neg hs, u2_ne _ _ (by omega), if_neg (fun h => hs h.2.1)]
theorem lk_R {m lev b : Nat} {D : DD} {on : Option Nat} {sd : Nat} {v : Int32} {j : Nat} : lk m lev b D on sd v (m + 8) j = if on = some (j - b) ∧ sd ≠ 0 ∧ b ≤ j then v else D (m + 8) j := by
  cases on with
  | none =>
    show u2 D (m + 14) lev v (m + 8) j = _
    rw [u2_ne _ _ (by omega), if_neg (fun h => by cases h.1)]
  | some o =>
    show (if sd = 0 then _ else _ : DD) (m + 8) j = _
    by_cases hs : sd = 0
    · rw [if_pos hs, u2_ne _ _ (by omega), if_neg (fun h => h.2.1 hs)]
    · rw [if_neg hs, u2_same]
      by_cases hj : j = b + o
      · subst hj
        rw [upd_same, if_pos ⟨by congr 1; omega, hs, by omega⟩]
      · rw [upd_ne _ _ hj, if_neg (fun h => hj (by have := h.1; cases this; omega))]
theorem lk_T {m lev b : Nat} {D : DD} {on : Option Nat} {sd : Nat} {v : Int32} : lk m lev b D on sd v (m + 14) = if on = none then upd (D (m + 14)) lev v else D (m + 14) := by
  cases on with
  | none => show u2 D (m + 14) lev v (m + 14) = _; rw [u2_same, if_pos rfl]
  | some o =>
    rw [if_neg (show ¬ (some o = none) from fun h => by cases h)]
    show (if sd = 0 then _ else _ : DD) (m + 14) = _
    by_cases hs : sd = 0
    · rw [if_pos hs, u2_ne _ _ (by omega)]
    · rw [if_neg hs, u2_ne _ _ (by omega)]
/-- the links after a turn: D1's rows are D's but for the one that is told; what was told stays -/
theorem MkI_links {f : Nat → Int32} {m b : Nat} {D D1 : DD} {w : WW} {r ws' : List WW} {os os' : List Nat} (ho : ∀ k ∈ os, k < 100 ∧ f k ≠ -9) (hw : w = w0 ∨ ∃ k ∈ os, w = wL f k ∨ w = wR f k)
    (h1 : ∀ j, D1 (m + 7) j = if w.2.2.1 = some (j - b) ∧ w.2.2.2 = 0 ∧ b ≤ j then oI (bs f w.1 w.2.1) else D (m + 7) j) (h2 : ∀ j, D1 (m + 8) j = if w.2.2.1 = some (j - b) ∧ w.2.2.2 ≠ 0 ∧ b ≤ j then oI (bs f w.1 w.2.1) else D (m + 8) j)
    (hsub : ∀ x ∈ r, x ∈ ws') (hos : (bs f w.1 w.2.1 = none ∧ os' = os) ∨ ∃ c, bs f w.1 w.2.1 = some c ∧ os' = c :: os)
    (hL : ∀ pre k post, os = pre ++ k :: post → (wL f k ∈ w :: r ∨ (Lft f m b D k ∧ ∀ c, bs f (pl f k).1 k = some c → c ∈ pre)) ∧ (wR f k ∈ w :: r ∨ (Rgt f m b D k ∧ ∀ c, bs f (k + 1) (pl f k).2.1 = some c → c ∈ pre))) :
    ∀ pre k post, os = pre ++ k :: post → ∀ pre', os' = pre' ++ k :: post → (wL f k ∈ ws' ∨ (Lft f m b D1 k ∧ ∀ c, bs f (pl f k).1 k = some c → c ∈ pre')) ∧ (wR f k ∈ ws' ∨ (Rgt f m b D1 k ∧ ∀ c, bs f (k + 1) (pl f k).2.1 = some c → c ∈ pre')) := by
  intro pre k post e pre' e'
  have hkos : k ∈ os := by rw [e]; simp
  have hpre : ∀ x, x ∈ pre → x ∈ pre' := by
    intro x hx
    rcases hos with ⟨-, q⟩ | ⟨c, -, q⟩
    · rw [q, e] at e'
      rw [← List.append_cancel_right e']; exact hx
    · rw [q, e, ← List.cons_append] at e'
      rw [← List.append_cancel_right e']; exact List.mem_cons_of_mem _ hx
  have hnew : ∀ c, bs f w.1 w.2.1 = some c → c ∈ pre' := by
    intro c hc
    rcases hos with ⟨q, -⟩ | ⟨c2, q2, q⟩
    · rw [q] at hc; cases hc
    · rw [q2] at hc; cases hc
      rw [q, e, ← List.cons_append] at e'
      rw [← List.append_cancel_right e']; exact List.mem_cons_self
  obtain ⟨a1, a2⟩ := hL pre k post e
  refine ⟨?_, ?_⟩
  · by_cases hwk : w = wL f k
    · subst hwk
      refine Or.inr ⟨?_, fun c hc => hnew c hc⟩
      show D1 (m + 7) (b + k) = _
      rw [h1, if_pos ⟨by show some k = _; congr 1; omega, rfl, by omega⟩]
      rfl
    · rcases a1 with q | ⟨q1, q2⟩
      · rcases List.mem_cons.mp q with q | q
        · exact absurd q.symm hwk
        · exact Or.inl (hsub _ q)
      · refine Or.inr ⟨?_, fun c hc => hpre c (q2 c hc)⟩
        show D1 (m + 7) (b + k) = _
        rw [h1, if_neg]
        · exact q1
        · rintro ⟨g1, g2, g3⟩
          rcases hw with rfl | ⟨k2, hk2, rfl | rfl⟩
          · cases g1
          · have : k2 = k := by have := g1; simp only [wL, Option.some.injEq] at this; omega
            subst this
            exact hwk rfl
          · cases g2
  · by_cases hwk : w = wR f k
    · subst hwk
      refine Or.inr ⟨?_, fun c hc => hnew c hc⟩
      show D1 (m + 8) (b + k) = _
      rw [h2, if_pos ⟨by show some k = _; congr 1; omega, by show ¬ (1 = 0); decide, by omega⟩]
      rfl
    · rcases a2 with q | ⟨q1, q2⟩
      · rcases List.mem_cons.mp q with q | q
        · exact absurd q.symm hwk
        · exact Or.inl (hsub _ q)
      · refine Or.inr ⟨?_, fun c hc => hpre c (q2 c hc)⟩
        show D1 (m + 8) (b + k) = _
        rw [h2, if_neg]
        · exact q1
        · rintro ⟨g1, g2, g3⟩
          rcases hw with rfl | ⟨k2, hk2, rfl | rfl⟩
          · cases g1
          · exact g2 rfl
          · have : k2 = k := by have := g1; simp only [wR, Option.some.injEq] at this; omega
            subst this
            exact hwk rfl
