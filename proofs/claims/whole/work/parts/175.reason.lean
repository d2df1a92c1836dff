/-! ===== the reference reads a row ===== -/
def Row (D : DD) (m : Nat) (xs : List Int32) : Prop := D m 25 = nI xs.length ∧ ∀ (j : Nat) (x : Int32), xs[j]? = some x → D (m + 21) j = x
def Lkk (D : DD) (m c : Nat) : List WW → List RW → Prop
  | [], [] => True
  | w :: r, v :: q => w.1 = v.1 ∧ w.2.1 = v.2.1 ∧ w.2.2.2 < 2 ∧ v.1 ≤ 100 ∧ v.2.1 ≤ 100 ∧ ((w.2.2.1 = none ∧ v.2.2 = none) ∨ ∃ i p, w.2.2.1 = some i ∧ v.2.2 = some p ∧ i < c ∧ p < 100 ∧ D (m + 23) i = nI p) ∧ Lkk D m c r q
  | _, _ => False
theorem Lkk_mono {D D' : DD} {m c c' : Nat} (hc : c ≤ c') (h : ∀ i, i < c → D' (m + 23) i = D (m + 23) i) : ∀ {ws : List WW} {st : List RW}, Lkk D m c ws st → Lkk D' m c' ws st
  | [], [], _ => trivial
  | w :: r, v :: q, ⟨h1, h2, h3, h4, h5, h6, h7⟩ => ⟨h1, h2, h3, h4, h5, h6.elim Or.inl (fun ⟨i, p, a1, a2, a3, a4, a5⟩ => Or.inr ⟨i, p, a1, a2, by omega, a4, by rw [h i a3]; exact a5⟩), Lkk_mono hc h h7⟩
def NL (D : DD) (m : Nat) (s' h' : Nat → Int32) (c : Nat) (ws : List WW) (kf lf hf : Nat → Nat) (i : Nat) : Prop := (lf i, kf i, some i, 0) ∈ ws ∨ (D (m + 25) i = -9 ∧ bs s' (lf i) (kf i) = none ∧ D (m + 27) i = h' (kf i)) ∨ ∃ j, i < j ∧ j < c ∧ D (m + 25) i = nI j ∧ lf j = lf i ∧ hf j = kf i
def NR (D : DD) (m : Nat) (s' h' : Nat → Int32) (c : Nat) (ws : List WW) (kf lf hf : Nat → Nat) (i : Nat) : Prop := (kf i + 1, hf i, some i, 1) ∈ ws ∨ (D (m + 26) i = -9 ∧ bs s' (kf i + 1) (hf i) = none ∧ D (m + 28) i = h' (hf i)) ∨ ∃ j, i < j ∧ j < c ∧ D (m + 26) i = nI j ∧ lf j = kf i + 1 ∧ hf j = hf i
def NF (D : DD) (m : Nat) (s' h' : Nat → Int32) (c : Nat) (ws : List WW) (kf lf hf : Nat → Nat) : Prop :=
  (∀ i, i < c → D (m + 23) i = nI (kf i) ∧ D (m + 24) i = s' (kf i) ∧ bs s' (lf i) (hf i) = some (kf i) ∧ hf i ≤ 100 ∧ NL D m s' h' c ws kf lf hf i ∧ NR D m s' h' c ws kf lf hf i) ∧
  (w0 ∈ ws ∨ (c = 0 ∧ bs s' 0 100 = none ∧ D m 37 = h' 100) ∨ (0 < c ∧ lf 0 = 0 ∧ hf 0 = 100)) ∧
  ((ws = [w0] ∧ c = 0) ∨ ∀ w ∈ ws, ∃ i, i < c ∧ (w = (lf i, kf i, some i, 0) ∨ w = (kf i + 1, hf i, some i, 1)))
def FrX (m : Nat) (D D' : DD) : Prop := (∀ c, c ≠ m → (c < m + 16 ∨ (m + 19 < c ∧ c < m + 23) ∨ m + 29 < c) → D' c = D c) ∧ ∀ j, j ≠ 21 → j ≠ 36 → j ≠ 37 → D' m j = D m j
theorem FrX.rf {m : Nat} {D : DD} : FrX m D D := ⟨fun _ _ _ => rfl, fun _ _ _ _ => rfl⟩
theorem FrX.tr {m : Nat} {D D' D'' : DD} (h1 : FrX m D D') (h2 : FrX m D' D'') : FrX m D D'' := ⟨fun c a b => (h2.1 c a b).trans (h1.1 c a b), fun j a b d => (h2.2 j a b d).trans (h1.2 j a b d)⟩
/-- links after a leaf -/
theorem NF_leaf {D E : DD} {m c : Nat} {s' h' : Nat → Int32} {w : WW} {r : List WW} {kf lf hf : Nat → Nat} {x : Int32} (hN : NF D m s' h' c (w :: r) kf lf hf) (hb : bs s' w.1 w.2.1 = none) (hx : h' w.2.1 = x) (hE : E = hgD m (u2 D m 21 (nI r.length)) w.2.2.1 w.2.2.2 (-9) x) : NF E m s' h' c r kf lf hf := by
  obtain ⟨n1, n2, n3⟩ := hN
  have e23 : E (m + 23) = D (m + 23) := by rw [hE, hgD_o _ _ _ _ _ (by omega) (by omega) (by omega) (by omega) (by omega), u2_ne _ _ (by omega)]
  have e24 : E (m + 24) = D (m + 24) := by rw [hE, hgD_o _ _ _ _ _ (by omega) (by omega) (by omega) (by omega) (by omega), u2_ne _ _ (by omega)]
  have e25 : ∀ j, E (m + 25) j = if w.2.2.1 = some j ∧ w.2.2.2 = 0 then -9 else D (m + 25) j := fun j => by rw [hE, hgD_25, u2_ne _ _ (by omega)]
  have e26 : ∀ j, E (m + 26) j = if w.2.2.1 = some j ∧ w.2.2.2 ≠ 0 then -9 else D (m + 26) j := fun j => by rw [hE, hgD_26, u2_ne _ _ (by omega)]
  have e27 : ∀ j, E (m + 27) j = if w.2.2.1 = some j ∧ w.2.2.2 = 0 then x else D (m + 27) j := fun j => by rw [hE, hgD_27, u2_ne _ _ (by omega)]
  have e28 : ∀ j, E (m + 28) j = if w.2.2.1 = some j ∧ w.2.2.2 ≠ 0 then x else D (m + 28) j := fun j => by rw [hE, hgD_28, u2_ne _ _ (by omega)]
  have hw : (w = w0 ∧ c = 0) ∨ ∃ i, i < c ∧ (w = (lf i, kf i, some i, 0) ∨ w = (kf i + 1, hf i, some i, 1)) := n3.elim (fun q => Or.inl ⟨(List.cons.inj q.1).1, q.2⟩) (fun q => Or.inr (q w List.mem_cons_self))
  refine ⟨fun i hi => ?_, ?_, Or.inr (fun w' hw' => n3.elim (fun q => by rw [(List.cons.inj q.1).2] at hw'; cases hw') (fun q => q w' (List.mem_cons_of_mem _ hw')))⟩
  · obtain ⟨a1, a2, a3, a4, a5, a6⟩ := n1 i hi
    refine ⟨by rw [e23]; exact a1, by rw [e24]; exact a2, a3, a4, ?_, ?_⟩
    · by_cases hwi : w = (lf i, kf i, some i, 0)
      · subst hwi
        exact Or.inr (Or.inl ⟨by rw [e25, if_pos ⟨rfl, rfl⟩], hb, by rw [e27, if_pos ⟨rfl, rfl⟩]; exact hx.symm⟩)
      · have hne : ¬ (w.2.2.1 = some i ∧ w.2.2.2 = 0) := by
          rintro ⟨g1, g2⟩
          rcases hw with ⟨q, -⟩ | ⟨i2, -, q | q⟩
          · rw [q] at g1; cases g1
          · rw [q] at g1; cases g1; exact hwi q
          · rw [q] at g2; cases g2
        rcases a5 with q | q | ⟨j, q⟩
        · rcases List.mem_cons.mp q with q | q
          · exact absurd q.symm hwi
          · exact Or.inl q
        · exact Or.inr (Or.inl (by rw [e25, e27, if_neg hne, if_neg hne]; exact q))
        · exact Or.inr (Or.inr ⟨j, by rw [e25, if_neg hne]; exact q⟩)
    · by_cases hwi : w = (kf i + 1, hf i, some i, 1)
      · subst hwi
        exact Or.inr (Or.inl ⟨by rw [e26, if_pos ⟨rfl, by show ¬ (1 = 0); decide⟩], hb, by rw [e28, if_pos ⟨rfl, by show ¬ (1 = 0); decide⟩]; exact hx.symm⟩)
      · have hne : ¬ (w.2.2.1 = some i ∧ w.2.2.2 ≠ 0) := by
          rintro ⟨g1, g2⟩
          rcases hw with ⟨q, -⟩ | ⟨i2, -, q | q⟩
          · rw [q] at g1; cases g1
          · rw [q] at g2; exact g2 rfl
          · rw [q] at g1; cases g1; exact hwi q
        rcases a6 with q | q | ⟨j, q⟩
        · rcases List.mem_cons.mp q with q | q
          · exact absurd q.symm hwi
          · exact Or.inl q
        · exact Or.inr (Or.inl (by rw [e26, e28, if_neg hne, if_neg hne]; exact q))
        · exact Or.inr (Or.inr ⟨j, by rw [e26, if_neg hne]; exact q⟩)
  · rcases hw with ⟨q, qc⟩ | ⟨i, hi, q⟩
    · subst q
      exact Or.inr (Or.inl ⟨qc, hb, by rw [hE]; show u2 (u2 D m 21 (nI r.length)) m 37 x m 37 = _; rw [u2_same, upd_same]; exact hx.symm⟩)
    · rcases n2 with q2 | ⟨q2, -⟩ | q2
      · rcases List.mem_cons.mp q2 with q3 | q3
        · rcases q with q | q
          · rw [q] at q3; exact absurd (congrArg (fun w : WW => w.2.2.1) q3) (by simp [w0])
          · rw [q] at q3; exact absurd (congrArg (fun w : WW => w.2.2.1) q3) (by simp [w0])
        · exact Or.inl q3
      · omega
      · exact Or.inr (Or.inr q2)
/-- links after a node -/
theorem NF_node {D E : DD} {m c k : Nat} {s' h' : Nat → Int32} {w : WW} {r : List WW} {kf lf hf : Nat → Nat} {v : Int32} (hN : NF D m s' h' c (w :: r) kf lf hf) (hb : bs s' w.1 w.2.1 = some k) (hH : w.2.1 ≤ 100) (hv : s' k = v) (hE : E = ndD m (u2 D m 21 (nI r.length)) r.length c k w.1 (nI w.2.1 - 1) v w.2.2.1 w.2.2.2) : NF E m s' h' (c + 1) ((w.1, k, some c, 0) :: (k + 1, w.2.1, some c, 1) :: r) (fun i => if i = c then k else kf i) (fun i => if i = c then w.1 else lf i) (fun i => if i = c then w.2.1 else hf i) := by
  obtain ⟨n1, n2, n3⟩ := hN
  have e23 : E (m + 23) = upd (D (m + 23)) c (nI k) := by
    rw [hE]; unfold ndD
    rw [wt_o _ _ _ _ _ _ (by omega) (by omega) (by omega) (by omega) (by omega), wt_o _ _ _ _ _ _ (by omega) (by omega) (by omega) (by omega) (by omega), hgD_o _ _ _ _ _ (by omega) (by omega) (by omega) (by omega) (by omega), u2_ne _ _ (by omega), u2_ne _ _ (by omega), u2_same, u2_ne _ _ (by omega)]
  have e24 : E (m + 24) = upd (D (m + 24)) c v := by
    rw [hE]; unfold ndD
    rw [wt_o _ _ _ _ _ _ (by omega) (by omega) (by omega) (by omega) (by omega), wt_o _ _ _ _ _ _ (by omega) (by omega) (by omega) (by omega) (by omega), hgD_o _ _ _ _ _ (by omega) (by omega) (by omega) (by omega) (by omega), u2_ne _ _ (by omega), u2_same, u2_ne _ _ (by omega), u2_ne _ _ (by omega)]
  have eo : ∀ x, x = m + 25 ∨ x = m + 26 ∨ x = m + 27 ∨ x = m + 28 → ∃ B : DD, B x = D x ∧ E x = hgD m B w.2.2.1 w.2.2.2 (nI c) 0 x := by
    intro x hx
    refine ⟨u2 (u2 (u2 (u2 D m 21 (nI r.length)) (m + 23) c (nI k)) (m + 24) c v) m 36 (nI (c + 1)), ?_, ?_⟩
    · rw [u2_ne _ _ (by omega), u2_ne _ _ (by omega), u2_ne _ _ (by omega), u2_ne _ _ (by omega)]
    · rw [hE]; unfold ndD
      rw [wt_o _ _ _ _ _ _ (by omega) (by omega) (by omega) (by omega) (by omega), wt_o _ _ _ _ _ _ (by omega) (by omega) (by omega) (by omega) (by omega)]
  have e25 : ∀ j, E (m + 25) j = if w.2.2.1 = some j ∧ w.2.2.2 = 0 then nI c else D (m + 25) j := fun j => by obtain ⟨B, b1, b2⟩ := eo (m + 25) (by simp); rw [b2, hgD_25, b1]
  have e26 : ∀ j, E (m + 26) j = if w.2.2.1 = some j ∧ w.2.2.2 ≠ 0 then nI c else D (m + 26) j := fun j => by obtain ⟨B, b1, b2⟩ := eo (m + 26) (by simp); rw [b2, hgD_26, b1]
  have e27 : ∀ j, E (m + 27) j = if w.2.2.1 = some j ∧ w.2.2.2 = 0 then 0 else D (m + 27) j := fun j => by obtain ⟨B, b1, b2⟩ := eo (m + 27) (by simp); rw [b2, hgD_27, b1]
  have e28 : ∀ j, E (m + 28) j = if w.2.2.1 = some j ∧ w.2.2.2 ≠ 0 then 0 else D (m + 28) j := fun j => by obtain ⟨B, b1, b2⟩ := eo (m + 28) (by simp); rw [b2, hgD_28, b1]
  have hw : (w = w0 ∧ c = 0) ∨ ∃ i, i < c ∧ (w = (lf i, kf i, some i, 0) ∨ w = (kf i + 1, hf i, some i, 1)) := n3.elim (fun q => Or.inl ⟨(List.cons.inj q.1).1, q.2⟩) (fun q => Or.inr (q w List.mem_cons_self))
  have hsub : ∀ x ∈ r, x ∈ (w.1, k, some c, 0) :: (k + 1, w.2.1, some c, 1) :: r := fun x hx => List.mem_cons_of_mem _ (List.mem_cons_of_mem _ hx)
  refine ⟨fun i hi => ?_, ?_, Or.inr (fun w' hw' => ?_)⟩
  · by_cases hic : i = c
    · subst hic
      unfold NL NR
      simp only [if_pos]
      exact ⟨by rw [e23, upd_same], by rw [e24, upd_same]; exact hv.symm, hb, hH, Or.inl List.mem_cons_self, Or.inl (List.mem_cons_of_mem _ List.mem_cons_self)⟩
    · obtain ⟨a1, a2, a3, a4, a5, a6⟩ := n1 i (by omega)
      unfold NL NR at *
      simp only [if_neg hic]
      refine ⟨by rw [e23, upd_ne _ _ hic]; exact a1, by rw [e24, upd_ne _ _ hic]; exact a2, a3, a4, ?_, ?_⟩
      · by_cases hwi : w = (lf i, kf i, some i, 0)
        · refine Or.inr (Or.inr ⟨c, by omega, by omega, by rw [e25, if_pos (by rw [hwi]; exact ⟨rfl, rfl⟩)], by rw [if_pos rfl, hwi], by rw [if_pos rfl, hwi]⟩)
        · have hne : ¬ (w.2.2.1 = some i ∧ w.2.2.2 = 0) := by
            rintro ⟨g1, g2⟩
            rcases hw with ⟨q, -⟩ | ⟨i2, -, q | q⟩
            · rw [q] at g1; cases g1
            · rw [q] at g1; cases g1; exact hwi q
            · rw [q] at g2; cases g2
          rcases a5 with q | q | ⟨j, j1, j2, j3, j4, j5⟩
          · rcases List.mem_cons.mp q with q | q
            · exact absurd q.symm hwi
            · exact Or.inl (hsub _ q)
          · exact Or.inr (Or.inl (by rw [e25, e27, if_neg hne, if_neg hne]; exact q))
          · exact Or.inr (Or.inr ⟨j, j1, by omega, by rw [e25, if_neg hne]; exact j3, by rw [if_neg (by omega)]; exact j4, by rw [if_neg (by omega)]; exact j5⟩)
      · by_cases hwi : w = (kf i + 1, hf i, some i, 1)
        · refine Or.inr (Or.inr ⟨c, by omega, by omega, by rw [e26, if_pos (by rw [hwi]; exact ⟨rfl, by show ¬ (1 = 0); decide⟩)], by rw [if_pos rfl, hwi], by rw [if_pos rfl, hwi]⟩)
        · have hne : ¬ (w.2.2.1 = some i ∧ w.2.2.2 ≠ 0) := by
            rintro ⟨g1, g2⟩
            rcases hw with ⟨q, -⟩ | ⟨i2, -, q | q⟩
            · rw [q] at g1; cases g1
            · rw [q] at g2; exact g2 rfl
            · rw [q] at g1; cases g1; exact hwi q
          rcases a6 with q | q | ⟨j, j1, j2, j3, j4, j5⟩
          · rcases List.mem_cons.mp q with q | q
            · exact absurd q.symm hwi
            · exact Or.inl (hsub _ q)
          · exact Or.inr (Or.inl (by rw [e26, e28, if_neg hne, if_neg hne]; exact q))
          · exact Or.inr (Or.inr ⟨j, j1, by omega, by rw [e26, if_neg hne]; exact j3, by rw [if_neg (by omega)]; exact j4, by rw [if_neg (by omega)]; exact j5⟩)
  · rcases hw with ⟨q, qc⟩ | ⟨i, hi, q⟩
    · subst q; subst qc
      exact Or.inr (Or.inr ⟨by omega, by simp [w0], by simp [w0]⟩)
    · rcases n2 with q2 | ⟨q2, -⟩ | ⟨q2, q4, q5⟩
      · rcases List.mem_cons.mp q2 with q3 | q3
        · rcases q with q | q
          · rw [q] at q3; exact absurd (congrArg (fun w : WW => w.2.2.1) q3) (by simp [w0])
          · rw [q] at q3; exact absurd (congrArg (fun w : WW => w.2.2.1) q3) (by simp [w0])
        · exact Or.inl (hsub _ q3)
      · omega
      · exact Or.inr (Or.inr ⟨by omega, by simp only [if_neg (show ¬ 0 = c by omega)]; exact q4, by simp only [if_neg (show ¬ 0 = c by omega)]; exact q5⟩)
  · rcases List.mem_cons.mp hw' with rfl | hw'
    · exact ⟨c, by omega, Or.inl (by simp)⟩
    · rcases List.mem_cons.mp hw' with rfl | hw'
      · exact ⟨c, by omega, Or.inr (by simp)⟩
      · rcases n3 with q | q
        · rw [(List.cons.inj q.1).2] at hw'; cases hw'
        · obtain ⟨i, hi, q⟩ := q w' (List.mem_cons_of_mem _ hw')
          exact ⟨i, by omega, by simp only [if_neg (show ¬ i = c by omega)]; exact q⟩
