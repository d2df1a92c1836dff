/-! ===== the memory at the loop's beginning ===== -/
def emp : Mp := fun _ => -9
theorem bs_emp (lo hi : Nat) : bs emp lo hi = none := bs_none_of (fun _ _ _ => rfl)
theorem cnF_emp (lo : Nat) : ∀ d, cnF emp lo d = 0
  | 0 => rfl
  | d + 1 => by rw [cnF, cnF_emp lo d, if_pos (show emp (lo + d) = -9 from rfl)]
theorem cn_emp (lo hi : Nat) : cn emp lo hi = 0 := cnF_emp lo (hi - lo)
theorem good_start {s1 s2 : Mm} (h1 : mN s1 = 80) (hx : Nx s1 s2) (h2 : mN s2 = 117) (i8 : isX8 (mN s1) (mK s1) (mR s1) 0) (d8 : DX8 (mD s1) 0) (i9 : isX9 (mN s2) (mK s2) (mR s2) 80) (d9 : DX9 (mD s2) 80) : Good s2 := by
  have hE : Ext (mN s1) (mK s1) (mR s1) (mN s2) (mK s2) (mR s2) := ⟨hx.1, fun b hb => (hx.2 b hb).1, fun b hb => (hx.2 b hb).2.1⟩
  have D0 : ∀ (b j : Nat) (v : Int32), b < 80 → mD s1 b j = v → mD s2 b j = v := fun b j v hb h => (congrFun (hx.2 b (by omega)).2.2 j).trans h
  refine ⟨mN s2, mK s2, mR s2, mD s2, rfl, ⟨ext_X8 hE i8, i9, by omega⟩, ?_⟩
  obtain ⟨a1, a2, a3, a4, a5, a6, a7⟩ := d8
  obtain ⟨b1, b2, b3⟩ := d9
  have hno : ∀ (j : Nat) (x : Int32), ([] : List Int32)[j]? = some x → False := fun j x h => by simp at h
  have hnm : ∀ (j : Nat) (x : Mp), ([] : List Mp)[j]? = some x → False := fun j x h => by simp at h
  have c1 : Prs (mD s2) 1 emp := ⟨fun k hk => D0 2 k _ (by omega) (a1.2 k hk), (D0 1 1 _ (by omega) a1.1).trans (by rw [cn_emp]; exact nI_0.symm)⟩
  have c2 : TI (mD s2) 3 emp := ⟨fun lo hi k _ hk => (by rw [bs_emp] at hk; cases hk), (D0 3 6 _ (by omega) a2.1).trans (by rw [bs_emp]; rfl), fun j _ _ => D0 6 j _ (by omega) (a2.2.1 j), fun g _ => D0 7 g _ (by omega) (a2.2.2 g)⟩
  have c3 : UI (mD s2) 0 [] := ⟨(D0 12 1 _ (by omega) a3.1).trans nI_0.symm, by omega, (D0 12 2 _ (by omega) a3.2).trans nI_0.symm, Nat.zero_le _, fun j g hj => (hnm j g hj).elim⟩
  have c4 : SI (mD s2) (fun _ => none) := fun j hj => Or.inl ⟨rfl, D0 (74 + 3 * j) 1 _ (by omega) (by have h := a7 j hj; unfold DX6 at h; rw [show 0 + 74 + 3 * j = 74 + 3 * j by omega] at h; exact h)⟩
  have c5 : Itm (mD s2) 43 [] := ⟨(D0 43 1 _ (by omega) a4.2.2).trans nI_0.symm, fun j x hj => (hno j x hj).elim⟩
  have c6 : Tru (mD s2) 42 0 [] := ⟨D0 42 1 _ (by omega) a4.1, (D0 42 3 _ (by omega) a4.2.1).trans nI_0.symm, fun j x hj => (hno j x hj).elim⟩
  have c7 : Gp (mD s2) 63 zg := fun g _ => D0 67 g _ (by omega) (a5.2.2 g)
  have c8 : mD s2 72 1 = nI 0 := (D0 72 1 _ (by omega) a6).trans nI_0.symm
  have m2 : MU (mD s2) 80 0 [] := ⟨(b1 4).trans nI_0.symm, by omega, (b1 3).trans nI_0.symm, Nat.zero_le _, fun j g hj => (hnm j g hj).elim⟩
  have m3 : MS (mD s2) 80 (fun _ => none) := fun j hj => Or.inl ⟨rfl, b3 j⟩
  have m4 : Row (mD s2) 80 [] := ⟨(b1 25).trans nI_0.symm, fun j x hj => (hno j x hj).elim⟩
  have m5 : TruM (mD s2) 80 0 [] := ⟨b1 26, (b1 28).trans nI_0.symm, fun j x hj => (hno j x hj).elim⟩
  exact ⟨emp, [], fun _ => none, [], 0, [], ⟨c1, c2, ⟨0, c3⟩, c4, c5, c6, c7, 0, Nat.zero_le _, c8⟩, ⟨b2, ⟨0, m2⟩, m3, m4, m5⟩, ⟨fun k _ => Or.inl rfl, by rw [cn_emp]; omega⟩, (fun g hg => by cases hg), (fun j g hj => by cases hj), (fun x hx => by cases hx), Nat.zero_le _, Nat.zero_le _, Nat.zero_le _⟩
def mz : Mm := (0, fun _ => (0, 0), fun _ _ => none, fun _ _ => 0)
theorem start_ok : ∃ s1 s2 : Mm, f_X8_init (mN mz) (nw mz (0, 8)) = some ((), s1) ∧ mN s1 = 80 ∧ f_X9_init 80 (nw s1 (0, 9)) = some ((), s2) ∧ Good s2 := by
  obtain ⟨s1, e1, -, e3, e4, e5⟩ := I_X8 mz 0 rfl
  have h1 : mN s1 = 80 := e3
  obtain ⟨s2, g1, g2, g3, g4, g5⟩ := I_X9 s1 80 h1
  exact ⟨s1, s2, e1, h1, g1, good_start h1 g2 g3 e4 e5 g4 g5⟩
