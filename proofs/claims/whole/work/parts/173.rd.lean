/-! ===== what a row that is fine shows ===== -/
def Vs (s : Nat → Int32) : List RW → Prop
  | [] => True
  | w :: r => w.1 ≤ w.2.1 ∧ w.2.1 ≤ 100 ∧ (∀ x, w.1 ≤ x → x < w.2.1 → s x = -9) ∧ (∀ w' ∈ r, w.2.1 < w'.1) ∧ Vs s r
theorem Vs_mem {s : Nat → Int32} : ∀ {st : List RW}, Vs s st → ∀ w ∈ st, w.1 ≤ w.2.1 ∧ w.2.1 ≤ 100 ∧ ∀ x, w.1 ≤ x → x < w.2.1 → s x = -9
  | [], _, _, h => by cases h
  | _ :: _, ⟨h1, h2, h3, h4, h5⟩, w, h => by
    rcases List.mem_cons.mp h with rfl | h
    · exact ⟨h1, h2, h3⟩
    · exact Vs_mem h5 w h
theorem Vs_upd {s : Nat → Int32} {k : Nat} {v : Int32} : ∀ {st : List RW}, (∀ w ∈ st, ¬ (w.1 ≤ k ∧ k < w.2.1)) → Vs s st → Vs (upd s k v) st
  | [], _, _ => trivial
  | w :: r, hk, ⟨h1, h2, h3, h4, h5⟩ => ⟨h1, h2, fun x a b => by rw [upd_ne _ _ (fun e => hk w List.mem_cons_self (by subst e; exact ⟨a, b⟩))]; exact h3 x a b, h4, Vs_upd (fun w' hw => hk w' (List.mem_cons_of_mem _ hw)) h5⟩
/-- the stack when a node is read -/
theorem Vs_node {s : Nat → Int32} {lo H k : Nat} {par : Option Nat} {st : List RW} {v : Int32} (h : Vs s ((lo, H, par) :: st)) (h1 : lo ≤ k) (h2 : k < H) : Vs (upd s k v) ((lo, k, some k) :: (k + 1, H, some k) :: st) := by
  obtain ⟨a1, a2, a3, a4, a5⟩ := h
  simp only at a1 a2 a3 a4
  refine ⟨h1, by simp only; omega, fun x b1 b2 => ?_, fun w hw => ?_, ⟨by simp only; omega, a2, fun x b1 b2 => ?_, a4, Vs_upd (fun w hw q => ?_) a5⟩⟩
  · simp only at b1 b2
    rw [upd_ne _ _ (by omega)]; exact a3 x b1 (by omega)
  · rcases List.mem_cons.mp hw with rfl | hw
    · simp
    · have := a4 w hw; simp only; omega
  · simp only at b1 b2
    rw [upd_ne _ _ (by omega)]; exact a3 x (by omega) b2
  · have := a4 w hw; omega
theorem under_tr {x k : Nat} {p : Option Nat} (h1 : rk x < rk k) (h2 : under k p = true) : under x p = true := by
  cases p with
  | none => rfl
  | some q =>
    simp only [under, decide_eq_true_eq] at h2 ⊢
    omega
theorem rd_fin {a b : Nat} : ∀ (xs : List Int32) (st : List RW) (s h s' h' : Nat → Int32), Vs s st → rd a b xs st s h = (0, s', h') → (∀ x, (∀ w ∈ st, ¬ (w.1 ≤ x ∧ x < w.2.1)) → s' x = s x) ∧ (∀ g, (∀ w ∈ st, ¬ (w.1 ≤ g ∧ g ≤ w.2.1)) → h' g = h g) ∧ ∀ w ∈ st, ∀ x, w.1 ≤ x → x < w.2.1 → s' x ≠ -9 → under x w.2.2 = true := by
  intro xs
  induction xs with
  | nil =>
    intro st s h s' h' hv e
    cases st with
    | nil =>
      rw [rd] at e
      cases e
      exact ⟨fun _ _ => rfl, fun _ _ => rfl, fun w hw => by cases hw⟩
    | cons w r =>
      rw [rd] at e
      cases e
  | cons x xs ih =>
    intro st s h s' h' hv e
    cases st with
    | nil => rw [rd] at e; cases e
    | cons w r =>
      obtain ⟨lo, H, par⟩ := w
      have hv' := hv
      obtain ⟨a1, a2, a3, a4, a5⟩ := hv'
      simp only at a1 a2 a3 a4
      have leaf : rd a b xs r s (upd h H x) = (0, s', h') → (∀ x, (∀ w ∈ (lo, H, par) :: r, ¬ (w.1 ≤ x ∧ x < w.2.1)) → s' x = s x) ∧ (∀ g, (∀ w ∈ (lo, H, par) :: r, ¬ (w.1 ≤ g ∧ g ≤ w.2.1)) → h' g = h g) ∧ ∀ w ∈ (lo, H, par) :: r, ∀ x, w.1 ≤ x → x < w.2.1 → s' x ≠ -9 → under x w.2.2 = true := by
        intro e
        obtain ⟨i1, i2, i3⟩ := ih r s (upd h H x) s' h' a5 e
        refine ⟨fun y hy => i1 y (fun w hw => hy w (List.mem_cons_of_mem _ hw)), fun g hg => ?_, fun w hw y y1 y2 y3 => ?_⟩
        · have := hg _ List.mem_cons_self
          simp only at this
          rw [i2 g (fun w hw => hg w (List.mem_cons_of_mem _ hw)), upd_ne _ _ (by omega)]
        · rcases List.mem_cons.mp hw with rfl | hw
          · simp only at y1 y2
            rw [i1 y (fun w hw q => by have := a4 w hw; omega)] at y3
            exact absurd (a3 y y1 y2) y3
          · exact i3 w hw y y1 y2 y3
      rw [rd] at e
      by_cases h0 : 0 ≤ x
      · rw [if_pos h0] at e
        by_cases h1 : x = 0
        · rw [if_pos h1] at e; exact leaf e
        · rw [if_neg h1] at e
          by_cases h2 : H ≤ lo
          · rw [if_pos h2] at e; cases e
          · rw [if_neg h2] at e
            by_cases h3 : lo ≤ b ∧ a < H
            · rw [if_pos h3] at e; cases e
            · rw [if_neg h3] at e; exact leaf e
      · rw [if_neg h0] at e
        by_cases h1 : lo ≤ kx x ∧ kx x < H
        · rw [if_neg (fun q => q h1)] at e
          by_cases h2 : under (kx x) par = false
          · rw [if_pos h2] at e; cases e
          · rw [if_neg h2] at e
            have hu : under (kx x) par = true := by
              cases q : under (kx x) par
              · exact absurd q h2
              · rfl
            obtain ⟨i1, i2, i3⟩ := ih _ _ _ s' h' (Vs_node hv h1.1 h1.2) e
            refine ⟨fun y hy => ?_, fun g hg => i2 g (fun w hw q => ?_), fun w hw y y1 y2 y3 => ?_⟩
            · have hy0 := hy _ List.mem_cons_self
              simp only at hy0
              rw [i1 y (fun w hw q => ?_), upd_ne _ _ (by omega)]
              rcases List.mem_cons.mp hw with rfl | hw
              · simp only at q; omega
              · rcases List.mem_cons.mp hw with rfl | hw
                · simp only at q; omega
                · exact hy w (List.mem_cons_of_mem _ hw) q
            · have hg0 := hg _ List.mem_cons_self
              simp only at hg0
              rcases List.mem_cons.mp hw with rfl | hw
              · simp only at q; omega
              · rcases List.mem_cons.mp hw with rfl | hw
                · simp only at q; omega
                · exact hg w (List.mem_cons_of_mem _ hw) q
            · rcases List.mem_cons.mp hw with rfl | hw
              · simp only at y1 y2 ⊢
                rcases Nat.lt_trichotomy y (kx x) with q | q | q
                · have := i3 _ List.mem_cons_self y y1 q y3
                  simp only [under, decide_eq_true_eq] at this
                  exact under_tr this hu
                · rw [q]; exact hu
                · have := i3 _ (List.mem_cons_of_mem _ List.mem_cons_self) y q y2 y3
                  simp only [under, decide_eq_true_eq] at this
                  exact under_tr this hu
              · exact i3 w (List.mem_cons_of_mem _ (List.mem_cons_of_mem _ hw)) y y1 y2 y3
        · rw [if_pos h1] at e; cases e
/-- a leaf, a node, when all turns out fine -/
theorem rd_leaf {a b lo H : Nat} {par : Option Nat} {xs : List Int32} {st : List RW} {s h s' h' : Nat → Int32} {x : Int32} (hv : Vs s ((lo, H, par) :: st)) (e : rd a b xs st s (upd h H x) = (0, s', h')) : bs s' lo H = none ∧ h' H = x := by
  obtain ⟨a1, a2, a3, a4, a5⟩ := hv
  simp only at a1 a2 a3 a4
  obtain ⟨i1, i2, -⟩ := rd_fin xs st s (upd h H x) s' h' a5 e
  refine ⟨bs_none_of (fun j j1 j2 => ?_), ?_⟩
  · rw [i1 j (fun w hw q => by have := a4 w hw; omega)]; exact a3 j j1 j2
  · rw [i2 H (fun w hw q => by have := a4 w hw; omega), upd_same]
theorem rd_node {a b lo H k : Nat} {par : Option Nat} {v : Int32} {xs : List Int32} {st : List RW} {s h s' h' : Nat → Int32} (hv : Vs s ((lo, H, par) :: st)) (h1 : lo ≤ k) (h2 : k < H) (hvn : v ≠ -9) (e : rd a b xs ((lo, k, some k) :: (k + 1, H, some k) :: st) (upd s k v) h = (0, s', h')) : bs s' lo H = some k ∧ s' k = v := by
  obtain ⟨a1, a2, a3, a4, a5⟩ := id hv
  simp only at a1 a2 a3 a4
  obtain ⟨i1, i2, i3⟩ := rd_fin xs _ _ h s' h' (Vs_node (v := v) hv h1 h2) e
  have hk : s' k = v := by
    rw [i1 k (fun w hw q => ?_), upd_same]
    rcases List.mem_cons.mp hw with rfl | hw
    · simp only at q; omega
    · rcases List.mem_cons.mp hw with rfl | hw
      · simp only at q; omega
      · have := a4 w hw; omega
  refine ⟨bs_of a2 h1 h2 (by rw [hk]; exact hvn) (fun j j1 j2 j3 j4 => ?_), hk⟩
  rcases Nat.lt_or_ge j k with q | q
  · have := i3 _ List.mem_cons_self j j1 q j3
    simpa [under] using this
  · have := i3 _ (List.mem_cons_of_mem _ List.mem_cons_self) j (by simp only; omega) j2 j3
    simpa [under] using this
