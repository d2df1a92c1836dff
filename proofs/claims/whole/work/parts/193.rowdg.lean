def RN (L R s : Nat → Int32) (c : Nat) (ws : List WW) (kf lf hf : Nat → Nat) : Prop :=
  (∀ i, i < c → bs s (lf i) (hf i) = some (kf i) ∧ Bd s (lf i) (hf i) ∧
    ((lf i, kf i, some i, 0) ∈ ws ∨ (L i = (-1000 : Int32) - nI (cn s 0 (lf i)) ∧ bs s (lf i) (kf i) = none) ∨ ∃ j, i < j ∧ j < c ∧ L i = nI j ∧ lf j = lf i ∧ hf j = kf i) ∧
    ((kf i + 1, hf i, some i, 1) ∈ ws ∨ (R i = (-1000 : Int32) - nI (cn s 0 (kf i + 1)) ∧ bs s (kf i + 1) (hf i) = none) ∨ ∃ j, i < j ∧ j < c ∧ R i = nI j ∧ lf j = kf i + 1 ∧ hf j = hf i)) ∧
  (w0 ∈ ws ∨ (c = 0 ∧ bs s 0 100 = none) ∨ (0 < c ∧ lf 0 = 0 ∧ hf 0 = 100)) ∧
  ((ws = [w0] ∧ c = 0) ∨ ∀ w ∈ ws, ∃ i, i < c ∧ (w = (lf i, kf i, some i, 0) ∨ w = (kf i + 1, hf i, some i, 1)))
theorem RN_bd {L R s : Nat → Int32} {c : Nat} {w : WW} {r : List WW} {kf lf hf : Nat → Nat} (hN : RN L R s c (w :: r) kf lf hf) : Bd s w.1 w.2.1 ∧ w.2.2.2 < 2 ∧ ∀ o, w.2.2.1 = some o → o < c := by
  obtain ⟨n1, n2, n3⟩ := hN
  have hw : (w = w0 ∧ c = 0) ∨ ∃ i, i < c ∧ (w = (lf i, kf i, some i, 0) ∨ w = (kf i + 1, hf i, some i, 1)) := n3.elim (fun q => Or.inl ⟨(List.cons.inj q.1).1, q.2⟩) (fun q => Or.inr (q w List.mem_cons_self))
  rcases hw with ⟨q, -⟩ | ⟨i, hi, q | q⟩
  · rw [q]; exact ⟨Bd_top s, by show 0 < 2; omega, fun o ho => by cases ho⟩
  · obtain ⟨a1, a2, -, -⟩ := n1 i hi
    rw [q]; exact ⟨Bd_left a2 a1, by show 0 < 2; omega, fun o ho => by cases ho; exact hi⟩
  · obtain ⟨a1, a2, -, -⟩ := n1 i hi
    rw [q]; exact ⟨Bd_right a2 a1, by show 1 < 2; omega, fun o ho => by cases ho; exact hi⟩
theorem RN_leaf {L R L' R' s : Nat → Int32} {c : Nat} {w : WW} {r : List WW} {kf lf hf : Nat → Nat} (hN : RN L R s c (w :: r) kf lf hf) (hb : bs s w.1 w.2.1 = none) (hL : ∀ j, L' j = if w.2.2.1 = some j ∧ w.2.2.2 = 0 then (-1000 : Int32) - nI (cn s 0 w.1) else L j) (hR : ∀ j, R' j = if w.2.2.1 = some j ∧ w.2.2.2 ≠ 0 then (-1000 : Int32) - nI (cn s 0 w.1) else R j) : RN L' R' s c r kf lf hf := by
  obtain ⟨n1, n2, n3⟩ := hN
  have hw : (w = w0 ∧ c = 0) ∨ ∃ i, i < c ∧ (w = (lf i, kf i, some i, 0) ∨ w = (kf i + 1, hf i, some i, 1)) := n3.elim (fun q => Or.inl ⟨(List.cons.inj q.1).1, q.2⟩) (fun q => Or.inr (q w List.mem_cons_self))
  refine ⟨fun i hi => ?_, ?_, Or.inr (fun w' hw' => n3.elim (fun q => by rw [(List.cons.inj q.1).2] at hw'; cases hw') (fun q => q w' (List.mem_cons_of_mem _ hw')))⟩
  · obtain ⟨a1, a2, a5, a6⟩ := n1 i hi
    refine ⟨a1, a2, ?_, ?_⟩
    · by_cases hwi : w = (lf i, kf i, some i, 0)
      · subst hwi
        exact Or.inr (Or.inl ⟨by rw [hL, if_pos ⟨rfl, rfl⟩], hb⟩)
      · have hne : ¬ (w.2.2.1 = some i ∧ w.2.2.2 = 0) := by
          rintro ⟨g1, g2⟩
          rcases hw with ⟨q, -⟩ | ⟨i2, -, q | q⟩
          · rw [q] at g1; cases g1
          · rw [q] at g1; cases g1; exact hwi q
          · rw [q] at g2; cases g2
        rcases a5 with q | q | ⟨j, q⟩
        · rcases List.mem_cons.mp q with q | q
          · exact absurd q.symm hwi
          · exact Or.inl q
        · exact Or.inr (Or.inl (by rw [hL, if_neg hne]; exact q))
        · exact Or.inr (Or.inr ⟨j, by rw [hL, if_neg hne]; exact q⟩)
    · by_cases hwi : w = (kf i + 1, hf i, some i, 1)
      · subst hwi
        exact Or.inr (Or.inl ⟨by rw [hR, if_pos ⟨rfl, by show ¬ (1 = 0); decide⟩], hb⟩)
      · have hne : ¬ (w.2.2.1 = some i ∧ w.2.2.2 ≠ 0) := by
          rintro ⟨g1, g2⟩
          rcases hw with ⟨q, -⟩ | ⟨i2, -, q | q⟩
          · rw [q] at g1; cases g1
          · rw [q] at g2; exact g2 rfl
          · rw [q] at g1; cases g1; exact hwi q
        rcases a6 with q | q | ⟨j, q⟩
        · rcases List.mem_cons.mp q with q | q
          · exact absurd q.symm hwi
          · exact Or.inl q
        · exact Or.inr (Or.inl (by rw [hR, if_neg hne]; exact q))
        · exact Or.inr (Or.inr ⟨j, by rw [hR, if_neg hne]; exact q⟩)
  · rcases hw with ⟨q, qc⟩ | ⟨i, hi, q⟩
    · subst q
      exact Or.inr (Or.inl ⟨qc, hb⟩)
    · rcases n2 with q2 | ⟨q2, -⟩ | q2
      · rcases List.mem_cons.mp q2 with q3 | q3
        · rcases q with q | q
          · rw [q] at q3; exact absurd (congrArg (fun w : WW => w.2.2.1) q3) (by simp [w0])
          · rw [q] at q3; exact absurd (congrArg (fun w : WW => w.2.2.1) q3) (by simp [w0])
        · exact Or.inl q3
      · omega
      · exact Or.inr (Or.inr q2)
theorem RN_node {L R L' R' s : Nat → Int32} {c k : Nat} {w : WW} {r : List WW} {kf lf hf : Nat → Nat} (hN : RN L R s c (w :: r) kf lf hf) (hb : bs s w.1 w.2.1 = some k) (hL : ∀ j, L' j = if w.2.2.1 = some j ∧ w.2.2.2 = 0 then nI c else L j) (hR : ∀ j, R' j = if w.2.2.1 = some j ∧ w.2.2.2 ≠ 0 then nI c else R j) : RN L' R' s (c + 1) ((w.1, k, some c, 0) :: (k + 1, w.2.1, some c, 1) :: r) (fun i => if i = c then k else kf i) (fun i => if i = c then w.1 else lf i) (fun i => if i = c then w.2.1 else hf i) := by
  have hBd := (RN_bd hN).1
  obtain ⟨n1, n2, n3⟩ := hN
  have hw : (w = w0 ∧ c = 0) ∨ ∃ i, i < c ∧ (w = (lf i, kf i, some i, 0) ∨ w = (kf i + 1, hf i, some i, 1)) := n3.elim (fun q => Or.inl ⟨(List.cons.inj q.1).1, q.2⟩) (fun q => Or.inr (q w List.mem_cons_self))
  have hsub : ∀ x ∈ r, x ∈ (w.1, k, some c, 0) :: (k + 1, w.2.1, some c, 1) :: r := fun x hx => List.mem_cons_of_mem _ (List.mem_cons_of_mem _ hx)
  refine ⟨fun i hi => ?_, ?_, Or.inr (fun w' hw' => ?_)⟩
  · by_cases hic : i = c
    · subst hic
      simp only [if_pos]
      exact ⟨hb, hBd, Or.inl List.mem_cons_self, Or.inl (List.mem_cons_of_mem _ List.mem_cons_self)⟩
    · obtain ⟨a1, a2, a5, a6⟩ := n1 i (by omega)
      simp only [if_neg hic]
      refine ⟨a1, a2, ?_, ?_⟩
      · by_cases hwi : w = (lf i, kf i, some i, 0)
        · refine Or.inr (Or.inr ⟨c, by omega, by omega, by rw [hL, if_pos (by rw [hwi]; exact ⟨rfl, rfl⟩)], by rw [if_pos rfl, hwi], by rw [if_pos rfl, hwi]⟩)
        · have hne : ¬ (w.2.2.1 = some i ∧ w.2.2.2 = 0) := by
            rintro ⟨g1, g2⟩
            rcases hw with ⟨q, -⟩ | ⟨i2, -, q | q⟩
            · rw [q] at g1; cases g1
            · rw [q] at g1; cases g1; exact hwi q
            · rw [q] at g2; cases g2
          rcases a5 with q | q | ⟨j, j1, j2, j3, j4, j5⟩
          · rcases List.mem_cons.mp q with q | q
            · exact absurd q.symm hwi
            · exact Or.inl (hsub _ q)
          · exact Or.inr (Or.inl (by rw [hL, if_neg hne]; exact q))
          · exact Or.inr (Or.inr ⟨j, j1, by omega, by rw [hL, if_neg hne]; exact j3, by rw [if_neg (by omega)]; exact j4, by rw [if_neg (by omega)]; exact j5⟩)
      · by_cases hwi : w = (kf i + 1, hf i, some i, 1)
        · refine Or.inr (Or.inr ⟨c, by omega, by omega, by rw [hR, if_pos (by rw [hwi]; exact ⟨rfl, by show ¬ (1 = 0); decide⟩)], by rw [if_pos rfl, hwi], by rw [if_pos rfl, hwi]⟩)
        · have hne : ¬ (w.2.2.1 = some i ∧ w.2.2.2 ≠ 0) := by
            rintro ⟨g1, g2⟩
            rcases hw with ⟨q, -⟩ | ⟨i2, -, q | q⟩
            · rw [q] at g1; cases g1
            · rw [q] at g2; exact g2 rfl
            · rw [q] at g1; cases g1; exact hwi q
          rcases a6 with q | q | ⟨j, j1, j2, j3, j4, j5⟩
          · rcases List.mem_cons.mp q with q | q
            · exact absurd q.symm hwi
            · exact Or.inl (hsub _ q)
          · exact Or.inr (Or.inl (by rw [hR, if_neg hne]; exact q))
          · exact Or.inr (Or.inr ⟨j, j1, by omega, by rw [hR, if_neg hne]; exact j3, by rw [if_neg (by omega)]; exact j4, by rw [if_neg (by omega)]; exact j5⟩)
  · rcases hw with ⟨q, qc⟩ | ⟨i, hi, q⟩
    · subst q; subst qc
      exact Or.inr (Or.inr ⟨by omega, by simp [w0], by simp [w0]⟩)
    · rcases n2 with q2 | ⟨q2, -⟩ | ⟨q2, q4, q5⟩
      · rcases List.mem_cons.mp q2 with q3 | q3
        · rcases q with q | q
          · rw [q] at q3; exact absurd (congrArg (fun w : WW => w.2.2.1) q3) (by simp [w0])
          · rw [q] at q3; exact absurd (congrArg (fun w : WW => w.2.2.1) q3) (by simp [w0])
        · exact Or.inl (hsub _ q3)
      · omega
      · exact Or.inr (Or.inr ⟨by omega, by simp only [if_neg (show ¬ 0 = c by omega)]; exact q4, by simp only [if_neg (show ¬ 0 = c by omega)]; exact q5⟩)
  · rcases List.mem_cons.mp hw' with rfl | hw'
    · exact ⟨c, by omega, Or.inl (by simp)⟩
    · rcases List.mem_cons.mp hw' with rfl | hw'
      · exact ⟨c, by omega, Or.inr (by simp)⟩
      · rcases n3 with q | q
        · rw [(List.cons.inj q.1).2] at hw'; cases hw'
        · obtain ⟨i, hi, q⟩ := q w' (List.mem_cons_of_mem _ hw')
          exact ⟨i, by omega, by simp only [if_neg (show ¬ i = c by omega)]; exact q⟩
def rl (m : Nat) (D : DD) (on : Option Nat) (sd : Nat) (x : Int32) : DD := match on with
  | none => D
  | some o => if sd = 0 then u2 D (m + 34) o x else u2 D (m + 35) o x
theorem n_rl {m sd : Nat} {on : Option Nat} {D : DD} {v1 : Int32} (kk : Nat → Int32 → DD → Option (Int32 × DD)) (hsd : sd < 2) (hon : ∀ o, on = some o → o < 100) (x : Int32) : g_X9_rowDigest_146 kk m v1 (oI on) (nI sd) x D = kk m v1 (rl m D on sd x) := by
  unfold g_X9_rowDigest_146 g_X9_rowDigest_169 g_X9_rowDigest_191
  cases on with
  | none => rw [if_pos (show oI none = -9 from rfl)]; rfl
  | some o =>
    have ho := hon o rfl
    rw [show oI (some o) = nI o from rfl, if_neg (nI_ne9 (by omega))]
    rcases (show sd = 0 ∨ sd = 1 by omega) with e | e
    · subst e
      rw [if_pos (show nI 0 = 0 from nI_0), zck_nI (by omega) (by decide), dlt_eq, if_neg (nI_ne9 (by omega)), if_neg (show ¬ nI 0 = 1 by decide), ix_nI (by omega)]
      rfl
    · subst e
      rw [if_neg (show ¬ nI 1 = 0 by decide), if_neg (nI_ne9 (by omega)), if_pos (show nI 1 = 1 from rfl), zck_nI (by omega) (by decide), dlt_eq, ix_nI (by omega)]
      rfl
theorem rl_o {m c : Nat} (D : DD) (on : Option Nat) (sd : Nat) (x : Int32) (h1 : c ≠ m + 34) (h2 : c ≠ m + 35) : rl m D on sd x c = D c := by
  unfold rl
  cases on with
  | none => rfl
  | some o =>
    simp only
    split
    · exact u2_ne _ _ h1
    · exact u2_ne _ _ h2
theorem rl_34 {m j : Nat} (D : DD) (on : Option Nat) (sd : Nat) (x : Int32) : rl m D on sd x (m + 34) j = if on = some j ∧ sd = 0 then x else D (m + 34) j := by
  unfold rl
  cases on with
  | none => rw [if_neg (fun h => by cases h.1)]
  | some o =>
    simp only
    by_cases e : sd = 0
    · rw [if_pos e, u2_same]
      by_cases ej : j = o
      · subst ej; rw [upd_same, if_pos ⟨rfl, e⟩]
      · rw [upd_ne _ _ ej, if_neg (fun h => ej (by cases h.1; rfl))]
    · rw [if_neg e, u2_ne _ _ (by omega), if_neg (fun h => e h.2)]
theorem rl_35 {m j : Nat} (D : DD) (on : Option Nat) (sd : Nat) (x : Int32) : rl m D on sd x (m + 35) j = if on = some j ∧ sd ≠ 0 then x else D (m + 35) j := by
  unfold rl
  cases on with
  | none => rw [if_neg (fun h => by cases h.1)]
  | some o =>
    simp only
    by_cases e : sd = 0
    · rw [if_pos e, u2_ne _ _ (by omega), if_neg (fun h => h.2 e)]
    · rw [if_neg e, u2_same]
      by_cases ej : j = o
      · subst ej; rw [upd_same, if_pos ⟨rfl, e⟩]
      · rw [upd_ne _ _ ej, if_neg (fun h => ej (by cases h.1; rfl))]
def wp (s : Nat → Int32) (w : WW) : WW := (cn s 0 w.1, cn s 0 w.2.1, w.2.2.1, w.2.2.2)
def FrD (m : Nat) (D D' : DD) : Prop := (∀ c, c ≠ m → (c < m + 16 ∨ (m + 19 < c ∧ c < m + 33) ∨ m + 36 < c) → D' c = D c) ∧ ∀ j, j ≠ 21 → D' m j = D m j
theorem FrD.rf {m : Nat} {D : DD} : FrD m D D := ⟨fun _ _ _ => rfl, fun _ _ => rfl⟩
theorem FrD.tr {m : Nat} {D D' D'' : DD} (h1 : FrD m D D') (h2 : FrD m D' D'') : FrD m D D'' := ⟨fun c a b => (h2.1 c a b).trans (h1.1 c a b), fun j a => (h2.2 j a).trans (h1.2 j a)⟩
theorem RowK.fr {D D' : DD} {m : Nat} {s g : Nat → Int32} (h : RowK D m s g) (hF : FrD m D D') : RowK D' m s g := ⟨h.1.congr (hF.2 41 (by omega)) (hF.1 _ (by omega) (by omega)) (hF.1 _ (by omega) (by omega)), fun k hk => by rw [hF.1 _ (by omega) (by omega)]; exact h.2 k hk⟩
theorem n_rowLoop {m : Nat} {s g : Nat → Int32} : ∀ (n : Nat) (ws : List WW) (c : Nat) (kf lf hf : Nat → Nat) (D : DD), ws.length + 2 * sumc s ws < n → c + sumc s ws = cn s 0 100 → ws.length ≤ c + 1 → RowK D m s g → Wn m D (ws.map (wp s)) → D m 21 = nI ws.length → RN (D (m + 34)) (D (m + 35)) s c ws kf lf hf → (∀ i, i < c → D (m + 33) i = nI (cn s 0 (kf i))) → ∃ (c' : Nat) (kf' lf' hf' : Nat → Nat) (D' : DD), g_X9_rowDigest_21 n m (nI c) D = g_X9_rowDigest_198 1000 m (nI c') (nI c' - 1) D' ∧ c' = cn s 0 100 ∧ RowK D' m s g ∧ RN (D' (m + 34)) (D' (m + 35)) s c' [] kf' lf' hf' ∧ (∀ i, i < c' → D' (m + 33) i = nI (cn s 0 (kf' i))) ∧ FrD m D D' := by
  have hN := cn_100 s
  intro n
  induction n with
  | zero => intro ws c kf lf hf D h; omega
  | succ n ih =>
    intro ws c kf lf hf D hn hcs hwl hK hW h21 hR h33
    cases ws with
    | nil =>
      refine ⟨c, kf, lf, hf, D, ?_, by simpa [sumc] using hcs, hK, hR, h33, FrD.rf⟩
      rw [g_X9_rowDigest_21, h21, if_pos (show nI ([] : List WW).length ≤ 0 by decide)]
    | cons w r =>
      obtain ⟨hB, hsd, hon⟩ := RN_bd hR
      obtain ⟨lo, hi, on, sd⟩ := w
      simp only at hB hsd hon
      have hlo := hB.1
      have hhi := hB.2.1
      simp only [List.length_cons] at h21 hwl hn
      simp only [sumc] at hn hcs
      obtain ⟨w1, w2, w3, w4, w5⟩ := hW
      simp only [wp, List.length_map] at w1 w2 w3 w4
      have hb1 : cn s 0 lo ≤ 100 := by have := cn_mono s (show lo ≤ 100 by omega); omega
      have hb2 : cn s 0 hi ≤ 100 := by have := cn_mono s hhi; omega
      rw [g_X9_rowDigest_21, h21, if_neg (nI_nle (by omega) (by omega)), nI_pred, dlt_eq]
      generalize hE : u2 D m 21 (nI r.length) = E
      have eo : ∀ z, z ≠ m → E z = D z := fun z hz => by rw [← hE, u2_ne _ _ hz]
      have em : ∀ j, j ≠ 21 → E m j = D m j := fun j hj => by rw [← hE, u2_same, upd_ne _ _ hj]
      have e21 : E m 21 = nI r.length := by rw [← hE, u2_same, upd_same]
      have hFE : FrD m D E := ⟨fun z a _ => eo z a, fun j a => em j a⟩
      have hKE := hK.fr hFE
      rw [e21]
      simp only [zck_nI (show r.length < 110 by omega) (show 110 ≤ 100000 by decide), ix_nI (show r.length < 2 ^ 31 by omega), eo _ (show m + 16 ≠ m by omega), eo _ (show m + 17 ≠ m by omega), eo _ (show m + 18 ≠ m by omega), eo _ (show m + 19 ≠ m by omega), w1, w2, w3, w4]
      rw [n_upperOf hKE.1 hlo hhi, pcb_some]
      have hwE : Wn m E (r.map (wp s)) := Wn_congr (fun j _ => by rw [eo _ (by omega), eo _ (by omega), eo _ (by omega), eo _ (by omega)]; exact ⟨rfl, rfl, rfl, rfl⟩) w5
      cases hb : bs s lo hi with
      | none =>
        rw [show oP s none = -9 from rfl, if_pos rfl]
        unfold g_X9_rowDigest_128
        rw [if_pos rfl, n_rl _ hsd (fun o ho => by have := hon o ho; omega)]
        have hcn0 : cn s lo hi = 0 := by
          have h1 := cn_none hlo hb
          have h2 := cn_add (f := s) (lo := 0) (k := lo) (hi := hi) (by omega) hlo
          omega
        have go : ∀ z, z ≠ m + 34 → z ≠ m + 35 → rl m E on sd ((-1000 : Int32) - nI (cn s 0 lo)) z = E z := fun z a b => rl_o _ _ _ _ a b
        have hFG : FrD m E (rl m E on sd ((-1000 : Int32) - nI (cn s 0 lo))) := ⟨fun z a b => go z (by omega) (by omega), fun j _ => by rw [go m (by omega) (by omega)]⟩
        obtain ⟨c', kf', lf', hf', D', r1, r2, r3, r4, r5, r6⟩ := ih r c kf lf hf (rl m E on sd ((-1000 : Int32) - nI (cn s 0 lo))) (by omega) (by omega) (by omega) (hKE.fr hFG) (Wn_congr (fun j _ => by rw [go _ (by omega) (by omega), go _ (by omega) (by omega), go _ (by omega) (by omega), go _ (by omega) (by omega)]; exact ⟨rfl, rfl, rfl, rfl⟩) hwE) (by rw [go m (by omega) (by omega)]; exact e21) (RN_leaf hR hb (fun j => by rw [rl_34, eo _ (by omega)]) (fun j => by rw [rl_35, eo _ (by omega)])) (fun i hi => by rw [go _ (by omega) (by omega), eo _ (by omega)]; exact h33 i hi)
        exact ⟨c', kf', lf', hf', D', r1, r2, r3, r4, r5, (hFE.tr hFG).tr r6⟩
      | some k =>
        obtain ⟨b1, b2, b3, -⟩ := bs_some hb
        have hcs2 := cn_some hb
        have hbk : cn s 0 k < 100 := by have := cn_lt (show k < 100 by omega) b3; omega
        have hk1 : cn s 0 (k + 1) = cn s 0 k + 1 := by rw [cn_s, if_neg b3]
        rw [show oP s (some k) = nI (cn s 0 k) from rfl, if_neg (nI_ne9 (by omega)), zck_nI (by omega) (by decide), ix_nI (by omega), dlt_eq]
        generalize hF : u2 E (m + 33) c (nI (cn s 0 k)) = F
        have fo : ∀ z, z ≠ m + 33 → F z = E z := fun z hz => by rw [← hF, u2_ne _ _ hz]
        have f33 : F (m + 33) = upd (E (m + 33)) c (nI (cn s 0 k)) := by rw [← hF, u2_same]
        rw [nI_1, n_want (L := r.length) (by omega) (by rw [fo _ (by omega)]; exact e21), vcb_some, n_want (L := r.length + 1) (by omega) (by rw [wt_f, upd_same]), vcb_some]
        unfold g_X9_rowDigest_128
        rw [if_neg (nI_ne9 (by omega)), nI_1, nI_pred, n_rl _ hsd (fun o ho => by have := hon o ho; omega)]
        have hwF : Wn m F (r.map (wp s)) := Wn_congr (fun j _ => by rw [fo _ (by omega), fo _ (by omega), fo _ (by omega), fo _ (by omega)]; exact ⟨rfl, rfl, rfl, rfl⟩) hwE
        have hw1 := Wn_wt (m := m) (D := F) (ws := r.map (wp s)) (w := (cn s 0 (k + 1), cn s 0 hi, some c, 1)) (hi := nI (cn s 0 hi) - 1) rfl hwF
        have hw2 := Wn_wt (m := m) (ws := (cn s 0 (k + 1), cn s 0 hi, some c, 1) :: r.map (wp s)) (w := (cn s 0 lo, cn s 0 k, some c, 0)) (hi := nI (cn s 0 k) - 1) rfl hw1
        simp only [List.length_cons, List.length_map] at hw2
        rw [hk1] at hw2
        generalize hG : wt m (wt m F r.length (nI (cn s 0 k + 1)) (nI (cn s 0 hi) - 1) (nI c) 1) (r.length + 1) (nI (cn s 0 lo)) (nI (cn s 0 k) - 1) (nI c) 0 = G
        have hGeq : wt m (wt m F r.length (nI (cn s 0 k + 1)) (nI (cn s 0 hi) - 1) (oI (some c)) (nI 1)) (r.length + 1) (nI (cn s 0 lo)) (nI (cn s 0 k) - 1) (oI (some c)) (nI 0) = G := hG
        rw [hGeq] at hw2
        have go : ∀ z, z ≠ m → z ≠ m + 16 → z ≠ m + 17 → z ≠ m + 18 → z ≠ m + 19 → G z = F z := fun z a b c d e => by rw [← hG, wt_o _ _ _ _ _ _ a b c d e, wt_o _ _ _ _ _ _ a b c d e]
        have g21 : G m 21 = nI (r.length + 1 + 1) := by rw [← hG, wt_f, upd_same]
        have gm : ∀ j, j ≠ 21 → G m j = E m j := fun j hj => by rw [← hG, wt_f, upd_ne _ _ hj, wt_f, upd_ne _ _ hj, fo _ (by omega)]
        have ro : ∀ z, z ≠ m + 34 → z ≠ m + 35 → rl m G on sd (nI c) z = G z := fun z a b => rl_o _ _ _ _ a b
        have hFG : FrD m E (rl m G on sd (nI c)) := ⟨fun z a b => by rw [ro z (by omega) (by omega), go z a (by omega) (by omega) (by omega) (by omega), fo z (by omega)], fun j hj => by rw [ro m (by omega) (by omega), gm j hj]⟩
        obtain ⟨c', kf', lf', hf', D', r1, r2, r3, r4, r5, r6⟩ := ih ((lo, k, some c, 0) :: (k + 1, hi, some c, 1) :: r) (c + 1) (fun i => if i = c then k else kf i) (fun i => if i = c then lo else lf i) (fun i => if i = c then hi else hf i) (rl m G on sd (nI c)) (by simp only [List.length_cons, sumc]; omega) (by simp only [sumc]; omega) (by simp only [List.length_cons]; omega) (hKE.fr hFG) (Wn_congr (fun j _ => by rw [ro _ (by omega) (by omega), ro _ (by omega) (by omega), ro _ (by omega) (by omega), ro _ (by omega) (by omega)]; exact ⟨rfl, rfl, rfl, rfl⟩) (by simp only [List.map_cons, wp]; rw [hk1]; exact hw2)) (by rw [ro m (by omega) (by omega)]; exact g21) (RN_node hR hb (fun j => by rw [rl_34, go _ (by omega) (by omega) (by omega) (by omega) (by omega), fo _ (by omega), eo _ (by omega)]) (fun j => by rw [rl_35, go _ (by omega) (by omega) (by omega) (by omega) (by omega), fo _ (by omega), eo _ (by omega)])) (fun i hi => by
          rw [ro _ (by omega) (by omega), go _ (by omega) (by omega) (by omega) (by omega) (by omega), f33]
          by_cases e : i = c
          · subst e; simp only [upd_same, if_pos]
          · simp only [upd_ne _ _ e, if_neg e]
            rw [eo _ (by omega)]; exact h33 i (by omega))
        exact ⟨c', kf', lf', hf', D', r1, r2, r3, r4, r5, (hFE.tr hFG).tr r6⟩
theorem hang_leaf {m p : Nat} {D : DD} (hp : p < 103) : g_X9_hanging m ((-1000 : Int32) - nI p) D = some (D (m + 32) p) := by
  have h0 : ∀ p, p < 103 → (-1000 : Int32) - nI p < 0 ∧ (-1000 : Int32) - ((-1000 : Int32) - nI p) = nI p := by decide +kernel
  unfold g_X9_hanging
  rw [if_pos (h0 p hp).1, (h0 p hp).2, zck_nI hp (by decide), ix_nI (by omega)]
theorem hang_node {m j : Nat} {D : DD} (hj : j < 102) : g_X9_hanging m (nI j) D = some (D (m + 36) j) := by
  unfold g_X9_hanging
  rw [if_neg (nI_pos (by omega)), zck_nI hj (by decide), ix_nI (by omega)]
theorem n_rowDigest2 {m c : Nat} {s g : Nat → Int32} {kf lf hf : Nat → Nat} {D : DD} (hc : c ≤ 100) (hK : RowK D m s g) (hR : RN (D (m + 34)) (D (m + 35)) s c [] kf lf hf) (h33 : ∀ i, i < c → D (m + 33) i = nI (cn s 0 (kf i))) : ∃ f36 : Nat → Int32, g_X9_rowDigest_198 1000 m (nI c) (nI c - 1) D = some (dg s g 0 100, uA D (m + 36) f36) := by
  have hN := cn_100 s
  have step : ∀ (i n : Nat) (E : DD), i < c → (∀ z, z ≠ m + 36 → E z = D z) → (∀ j, i < j → j < c → E (m + 36) j = dg s g (lf j) (hf j)) → g_X9_rowDigest_198 (n + 1) m (nI c) (nI i) E = g_X9_rowDigest_198 n m (nI c) (nI i - 1) (u2 E (m + 36) i (dg s g (lf i) (hf i))) := by
    intro i n E hi hE hd
    obtain ⟨a3, a4, a5, a6⟩ := hR.1 i hi
    obtain ⟨b1, b2, b3, -⟩ := bs_some a3
    have hkf : kf i < 100 := by have := a4.2.1; omega
    have hlt := cn_lt hkf b3
    obtain ⟨k1, k2⟩ := hK.1.2 (kf i) hkf b3
    have hL : g_X9_hanging m (D (m + 34) i) E = some (dg s g (lf i) (kf i)) := by
      rcases a5 with q | ⟨q1, q2⟩ | ⟨j, j1, j2, j3, j4, j5⟩
      · cases q
      · have h1 := cn_none (by omega) q2
        rw [q1, hang_leaf (by omega), hE _ (by omega), dg_none q2, ← h1]
        rw [hK.2 (kf i) (Or.inr ⟨hkf, b3⟩)]
      · rw [j3, hang_node (by omega), hd j j1 j2, j4, j5]
    have hRr : g_X9_hanging m (D (m + 35) i) E = some (dg s g (kf i + 1) (hf i)) := by
      rcases a6 with q | ⟨q1, q2⟩ | ⟨j, j1, j2, j3, j4, j5⟩
      · cases q
      · have h1 := cn_none (by omega) q2
        have hg : Gk s (hf i) := by
          rcases a4.2.2.2 with q | q
          · exact Or.inl q
          · by_cases e : hf i = 100
            · exact Or.inl e
            · exact Or.inr ⟨by have := a4.2.1; omega, q.1⟩
        have := Gk_le hg
        rw [q1, hang_leaf (by omega), hE _ (by omega), dg_none q2, ← h1]
        rw [hK.2 (hf i) hg]
      · rw [j3, hang_node (by omega), hd j j1 j2, j4, j5]
    rw [g_X9_rowDigest_198, if_neg (nI_pos (by omega)), zck_nI (by omega) (by decide), ix_nI (by omega), hE (m + 33) (by omega), h33 i hi, zck_nI (by omega) (by decide), zck_nI (by omega) (by decide), zck_nI (by omega) (by decide), zck_nI (by omega) (by decide), hE (m + 34) (by omega), hL, pcb_some, zck_nI (by omega) (by decide), hE (m + 35) (by omega), hRr, pcb_some, ix_nI (by omega), hE (m + 30) (by omega), hE (m + 31) (by omega), k1, k2, n_digest9, pcb_some, zck_nI (by omega) (by decide), dlt_eq, show nI i + (-1 : Int32) = nI i - 1 from (Int32.sub_eq_add_neg _ _).symm, dg_some a3]
  have loop : ∀ (i n : Nat) (E : DD), i ≤ c → i < n → (∀ z, z ≠ m + 36 → E z = D z) → (∀ j, i ≤ j → j < c → E (m + 36) j = dg s g (lf j) (hf j)) → ∃ f36 : Nat → Int32, g_X9_rowDigest_198 n m (nI c) (nI i - 1) E = some (dg s g 0 100, uA D (m + 36) f36) := by
    intro i
    induction i with
    | zero =>
      intro n E hi hn hE hd
      obtain ⟨n, rfl⟩ : ∃ q, n = q + 1 := ⟨n - 1, by omega⟩
      have hEq : E = uA D (m + 36) (E (m + 36)) := by
        funext z
        by_cases hz : z = m + 36
        · rw [hz, uA_same]
        · rw [uA_ne _ _ hz, hE z hz]
      refine ⟨E (m + 36), ?_⟩
      rw [g_X9_rowDigest_198, if_pos (show nI 0 - 1 < 0 by decide)]
      rcases hR.2.1 with q | ⟨q1, q2⟩ | ⟨q1, q2, q3⟩
      · cases q
      · subst q1
        have h1 := cn_none (lo := 0) (by omega) q2
        have h0 : cn s 0 0 = 0 := by have := cn_le s 0 0; omega
        have h2 := hK.2 100 (Or.inl rfl)
        rw [h1, h0] at h2
        rw [if_pos nI_0, zck_t (by decide), show ix (0 : Int32) = 0 by decide, hE _ (by omega), h2, dg_none q2, ← hEq]
      · rw [if_neg (nI_ne0 q1 (by omega)), zck_t (by decide), show ix (0 : Int32) = 0 by decide, hd 0 (by omega) q1, q2, q3, ← hEq]
    | succ i ih =>
      intro n E hi hn hE hd
      obtain ⟨n, rfl⟩ : ∃ q, n = q + 1 := ⟨n - 1, by omega⟩
      rw [nI_pred, step i n E (by omega) hE (fun j j1 j2 => hd j (by omega) j2)]
      refine ih n _ (by omega) (by omega) (fun z hz => by rw [u2_ne _ _ hz]; exact hE z hz) (fun j j1 j2 => ?_)
      rw [u2_same]
      by_cases hj : j = i
      · rw [hj, upd_same]
      · rw [upd_ne _ _ hj]; exact hd j (by omega) j2
  exact loop c 1000 D (Nat.le_refl _) (by omega) (fun _ _ => rfl) (fun j j1 j2 => by omega)
theorem n_rowDigest {m : Nat} {s g : Nat → Int32} {D : DD} (hK : RowK D m s g) : ∃ D' : DD, g_X9_rowDigest m D = some (dg s g 0 100, D') ∧ FrD m D D' := by
  have hN := cn_100 s
  have h0 : cn s 0 0 = 0 := by have := cn_le s 0 0; omega
  unfold g_X9_rowDigest
  rw [dlt_eq, u2_same, upd_ne _ _ (by omega), hK.1.1, n_want (L := 0) (by decide) (by rw [u2_same, upd_same]; exact nI_0.symm), vcb_some]
  generalize hG : wt m (u2 D m 21 0) 0 0 (nI (cn s 0 100) - 1) (-9) 0 = G
  have hFG : FrD m D G := by
    refine ⟨fun c c1 c2 => ?_, fun j j1 => ?_⟩
    · rw [← hG, wt_o _ _ _ _ _ _ c1 (by omega) (by omega) (by omega) (by omega), u2_ne _ _ c1]
    · rw [← hG, wt_f, upd_ne _ _ j1, u2_same, upd_ne _ _ j1]
  have hW : Wn m G ([w0].map (wp s)) := by
    rw [← hG]
    refine ⟨?_, ?_, ?_, ?_, trivial⟩
    · show wt m (u2 D m 21 0) 0 0 (nI (cn s 0 100) - 1) (-9) 0 (m + 16) 0 = nI (cn s 0 0)
      rw [wt_16, upd_same, h0]; exact nI_0.symm
    · show wt m (u2 D m 21 0) 0 0 (nI (cn s 0 100) - 1) (-9) 0 (m + 17) 0 = nI (cn s 0 100) - 1
      rw [wt_17, upd_same]
    · show wt m (u2 D m 21 0) 0 0 (nI (cn s 0 100) - 1) (-9) 0 (m + 18) 0 = oI none
      rw [wt_18, upd_same]; rfl
    · show wt m (u2 D m 21 0) 0 0 (nI (cn s 0 100) - 1) (-9) 0 (m + 19) 0 = nI 0
      rw [wt_19, upd_same]; exact nI_0.symm
  obtain ⟨c', kf', lf', hf', D', r1, r2, r3, r4, r5, r6⟩ := n_rowLoop (m := m) (s := s) (g := g) 1000 [w0] 0 (fun _ => 0) (fun _ => 0) (fun _ => 0) G (by simp only [List.length_cons, List.length_nil, sumc, w0]; omega) (by simp only [sumc, w0]; omega) (by simp) (hK.fr hFG) hW (by rw [← hG, wt_f, upd_same]; rfl) ⟨fun i hi => by omega, Or.inl List.mem_cons_self, Or.inl ⟨rfl, rfl⟩⟩ (fun i hi => by omega)
  obtain ⟨f36, t1⟩ := n_rowDigest2 (by omega) r3 r4 r5
  refine ⟨uA D' (m + 36) f36, ?_, (hFG.tr r6).tr ⟨fun c c1 c2 => by rw [uA_ne _ _ (by omega)], fun j _ => by rw [uA_ne _ _ (by omega)]⟩⟩
  rw [nI_0] at r1
  rw [r1, t1]
