/-! ===== the class's state ===== -/
abbrev Mp : Type := Nat → Int32
def OkM (f : Mp) : Prop := (∀ k, k < 100 → f k = -9 ∨ isNum (f k)) ∧ cn f 0 100 ≤ 40
def TI (D : DD) (t : Nat) (f : Mp) : Prop := TrOk f zg (D (t + 1)) (D (t + 2)) (D (t + 3)) ∧ D t 6 = oI (bs f 0 100) ∧ (∀ j, j < 100 → f j = -9 → D (t + 3) j = 0) ∧ Gp D t zg
def UI (D : DD) (fi : Nat) (us : List Mp) : Prop := D 12 1 = nI fi ∧ fi < 14 ∧ D 12 2 = nI us.length ∧ us.length ≤ 14 ∧ ∀ (j : Nat) (g : Mp), us[j]? = some g → Prs D (14 + 2 * ((fi + j) % 14)) g
def SI (D : DD) (sl : Nat → Option Mp) : Prop := ∀ j, j < 2 → (sl j = none ∧ D (74 + 3 * j) 1 = 0) ∨ ∃ g, sl j = some g ∧ D (74 + 3 * j) 1 = 1 ∧ Prs D (74 + 3 * j + 1) g
def CI (D : DD) (f : Mp) (us : List Mp) (sl : Nat → Option Mp) (xs : List Int32) (tr : Int32) (fm : List Int32) : Prop := Prs D 1 f ∧ TI D 3 f ∧ (∃ fi, UI D fi us) ∧ SI D sl ∧ Itm D 43 xs ∧ Tru D 42 tr fm ∧ Gp D 63 zg ∧ ∃ L, L ≤ 100 ∧ D 72 1 = nI L
def AOk (f : Mp) (us : List Mp) (sl : Nat → Option Mp) (xs fm : List Int32) : Prop := OkM f ∧ (∀ g ∈ us, OkM g) ∧ (∀ j g, sl j = some g → OkM g) ∧ (∀ x ∈ xs, isIt x) ∧ xs.length ≤ 100 ∧ fm.length ≤ 8 ∧ us.length ≤ 14
theorem UI.congr {D D' : DD} {fi : Nat} {us : List Mp} (h : ∀ c, 12 ≤ c → c < 42 → D' c = D c) (hu : UI D fi us) : UI D' fi us := by
  obtain ⟨h1, h2, h3, h4, h5⟩ := hu
  refine ⟨by rw [h 12 (by omega) (by omega)]; exact h1, h2, by rw [h 12 (by omega) (by omega)]; exact h3, h4, fun j g hj => (h5 j g hj).congr (h _ (by omega) (by omega)) (h _ (by omega) (by omega))⟩
theorem SI.congr {D D' : DD} {sl : Nat → Option Mp} (h : ∀ c, 74 ≤ c → c < 80 → D' c = D c) (hs : SI D sl) : SI D' sl := by
  intro j hj
  rcases hs j hj with ⟨a, b⟩ | ⟨g, a, b, c⟩
  · exact Or.inl ⟨a, by rw [h _ (by omega) (by omega)]; exact b⟩
  · exact Or.inr ⟨g, a, by rw [h _ (by omega) (by omega)]; exact b, c.congr (h _ (by omega) (by omega)) (h _ (by omega) (by omega))⟩
theorem TI.congr {D D' : DD} {t : Nat} {f : Mp} (h : ∀ c, t ≤ c → c ≤ t + 4 → D' c = D c) (ht : TI D t f) : TI D' t f := by
  obtain ⟨h1, h2, h3, h4⟩ := ht
  refine ⟨by rw [h (t + 1) (by omega) (by omega), h (t + 2) (by omega) (by omega), h (t + 3) (by omega) (by omega)]; exact h1, by rw [h t (by omega) (by omega)]; exact h2, by rw [h (t + 3) (by omega) (by omega)]; exact h3, fun g hg => by rw [h (t + 4) (by omega) (by omega)]; exact h4 g hg⟩
theorem n_floorMod (a : Nat) (ha : a < 1000) : g_J9_floorMod_7cf53 (nI a) (14 : Int32) = some (nI (a % 14)) := by
  have h14 : (14 : Int32) = nI 14 := rfl
  have key : ∀ a, a < 1000 → 0 ≤ (nI a ^^^ (14 : Int32)) := by decide +kernel
  unfold g_J9_floorMod_7cf53
  rw [zck_t (by decide), if_pos (key a ha), h14, nI_rem (by omega) (by decide) (by decide)]
theorem n_become {D : DD} {p q : Nat} {g : Mp} (hpq : p + 1 < q ∨ q + 1 < p) (h : Prs D q g) : ∃ D' : DD, g_X2_become p q D = some D' ∧ Prs D' p g ∧ ∀ c, c ≠ p → c ≠ p + 1 → D' c = D c := by
  unfold g_X2_become
  rw [zck_t (by decide), dlt_eq, dlt_eq]
  unfold uC
  refine ⟨_, rfl, ⟨fun k hk => ?_, ?_⟩, fun c c1 c2 => by rw [u2_ne _ _ c1, uA_ne _ _ c2]⟩
  · rw [u2_ne _ _ (by omega), uA_same]
    have e0 : ix (0 : Int32) = 0 := by decide
    have e1 : ix (100 : Int32) = 100 := by decide
    unfold va_cpy
    rw [e0, e1, if_pos (by omega), show 0 + (k - 0) = k by omega]
    exact h.1 k hk
  · rw [u2_same, upd_same, uA_ne _ _ (by omega)]; exact h.2
def pushU (us : List Mp) (f : Mp) : List Mp := if us.length = 14 then us.tail ++ [f] else us ++ [f]
theorem pushU_len (us : List Mp) (f : Mp) (h : us.length ≤ 14) : (pushU us f).length = if us.length = 14 then 14 else us.length + 1 := by
  unfold pushU
  by_cases e : us.length = 14
  · rw [if_pos e, if_pos e]; simp; omega
  · rw [if_neg e, if_neg e]; simp
theorem n_note32 {D : DD} {fi : Nat} {us : List Mp} {f : Mp} (hu : UI D fi us) (hl : us.length < 14) (hf : Prs D 1 f) : ∃ D' : DD, g_X0_note_32 12 1 D = some D' ∧ UI D' fi (us ++ [f]) ∧ ∀ c, (c < 12 ∨ 41 < c) → D' c = D c := by
  obtain ⟨h1, h2, h3, h4, h5⟩ := hu
  unfold g_X0_note_32 g_X0_pairsAt
  rw [h3, h1, nI_add, n_floorMod _ (by omega), pcb_some, zck_nI (by omega) (by decide), ix_nI (by omega), pcb_some]
  obtain ⟨D1, e1, e2, e3⟩ := n_become (p := 12 + 2 + 2 * ((fi + us.length) % 14)) (q := 1) (Or.inr (by omega)) hf
  have e12 : D1 12 2 = nI us.length := by rw [e3 12 (by omega) (by omega)]; exact h3
  rw [e1, vcb_some, e12, nI_1, dlt_eq]
  refine ⟨_, rfl, ⟨?_, h2, ?_, ?_, fun j g hj => ?_⟩, fun c hc => by rw [u2_ne _ _ (by omega), e3 c (by omega) (by omega)]⟩
  · rw [u2_same, upd_ne _ _ (by omega), e3 12 (by omega) (by omega)]; exact h1
  · rw [u2_same, upd_same]; simp
  · simp; omega
  · by_cases hjl : j = us.length
    · subst hjl
      have hg : g = f := by simpa using hj.symm
      subst hg
      exact e2.congr (by rw [u2_ne _ _ (by omega)]) (by rw [u2_ne _ _ (by omega)])
    · have hj2 : j < us.length := by
        have := (List.getElem?_eq_some_iff.mp hj).1
        simp at this
        omega
      rw [List.getElem?_append_left hj2] at hj
      refine (h5 j g hj).congr ?_ ?_
      · rw [u2_ne _ _ (by omega), e3 _ (by omega) (by omega)]
      · rw [u2_ne _ _ (by omega), e3 _ (by omega) (by omega)]
theorem n_note {D : DD} {fi : Nat} {us : List Mp} {f : Mp} (hu : UI D fi us) (hf : Prs D 1 f) : ∃ D' : DD, g_X0_note 12 1 D = some D' ∧ (∃ fi', UI D' fi' (pushU us f)) ∧ ∀ c, (c < 12 ∨ 41 < c) → D' c = D c := by
  obtain ⟨h1, h2, h3, h4, h5⟩ := id hu
  unfold g_X0_note pushU
  by_cases e : us.length = 14
  · rw [h3, e, if_pos (show nI 14 = (14 : Int32) from rfl), if_pos rfl, h1, nI_1, show (14 : Int32) = nI 14 from rfl, nI_rem (by omega) (by decide) (by decide), dlt_eq, u2_same, upd_ne _ _ (by omega), h3, e, show nI 14 - (1 : Int32) = nI 13 from nI_pred 13, dlt_eq]
    generalize hE : u2 (u2 D 12 1 (nI ((fi + 1) % 14))) 12 2 (nI 13) = E
    have eo : ∀ c, c ≠ 12 → E c = D c := fun c hc => by rw [← hE, u2_ne _ _ hc, u2_ne _ _ hc]
    have htl : us.tail.length = 13 := by simp; omega
    obtain ⟨D', q1, q2, q3⟩ := n_note32 (D := E) (fi := (fi + 1) % 14) (us := us.tail) (f := f) ⟨by rw [← hE, u2_same, upd_ne _ _ (by omega), u2_same, upd_same], by omega, by rw [← hE, u2_same, upd_same, htl], by omega, fun j g hj => by
      have hj' : us[j + 1]? = some g := by
        cases us with
        | nil => simp at e
        | cons a l => simpa using hj
      have := h5 (j + 1) g hj'
      rw [show ((fi + 1) % 14 + j) % 14 = (fi + (j + 1)) % 14 by omega]
      exact this.congr (eo _ (by omega)) (eo _ (by omega))⟩ (by omega) (hf.congr (eo _ (by omega)) (eo _ (by omega)))
    exact ⟨D', q1, ⟨_, q2⟩, fun c hc => by rw [q3 c hc, eo c (by omega)]⟩
  · rw [h3, if_neg (show ¬ nI us.length = (14 : Int32) from fun q => e ((nI_eq (b := 14) (by omega) (by decide)).mp q)), if_neg e]
    obtain ⟨D', q1, q2, q3⟩ := n_note32 hu (by omega) hf
    exact ⟨D', q1, ⟨_, q2⟩, q3⟩
theorem n_takeBack {D : DD} {fi : Nat} {us : List Mp} {g : Mp} (hu : UI D fi (us ++ [g])) : ∃ D' : DD, g_X0_takeBack 12 1 D = some D' ∧ Prs D' 1 g ∧ UI D' fi us ∧ ∀ c, c ≠ 1 → c ≠ 2 → c ≠ 12 → D' c = D c := by
  obtain ⟨h1, h2, h3, h4, h5⟩ := id hu
  simp only [List.length_append, List.length_cons, List.length_nil] at h3 h4
  unfold g_X0_takeBack
  rw [h3, if_neg (nI_nle (by omega) (by omega)), show nI (us.length + (0 + 1)) - (1 : Int32) = nI us.length from nI_pred _, dlt_eq]
  generalize hE : u2 D 12 2 (nI us.length) = E
  have eo : ∀ c, c ≠ 12 → E c = D c := fun c hc => by rw [← hE, u2_ne _ _ hc]
  have e1 : E 12 1 = nI fi := by rw [← hE, u2_same, upd_ne _ _ (by omega)]; exact h1
  have e2 : E 12 2 = nI us.length := by rw [← hE, u2_same, upd_same]
  unfold g_X0_pairsAt
  rw [e2, e1, nI_add, n_floorMod _ (by omega), pcb_some, zck_nI (by omega) (by decide), ix_nI (by omega), pcb_some]
  have hg : Prs E (12 + 2 + 2 * ((fi + us.length) % 14)) g := (h5 us.length g (by simp)).congr (eo _ (by omega)) (eo _ (by omega))
  obtain ⟨D', q1, q2, q3⟩ := n_become (p := 1) (Or.inl (by omega)) hg
  rw [q1, vcb_some]
  refine ⟨D', rfl, q2, ⟨by rw [q3 12 (by omega) (by omega)]; exact e1, h2, by rw [q3 12 (by omega) (by omega)]; exact e2, by omega, fun j k hj => ?_⟩, fun c c1 c2 c3 => by rw [q3 c c1 c2, eo c c3]⟩
  have hjl : j < us.length := (List.getElem?_eq_some_iff.mp hj).1
  refine (h5 j k (by rw [List.getElem?_append_left hjl]; exact hj)).congr ?_ ?_
  · rw [q3 _ (by omega) (by omega), eo _ (by omega)]
  · rw [q3 _ (by omega) (by omega), eo _ (by omega)]
theorem cnF_drop {f : Mp} {k : Nat} (lo : Nat) : ∀ d, cnF (upd f k (-9)) lo d + (if lo ≤ k ∧ k < lo + d ∧ f k ≠ -9 then 1 else 0) = cnF f lo d
  | 0 => by rw [if_neg (by omega)]; rfl
  | d + 1 => by
    have ih := cnF_drop (f := f) (k := k) lo d
    rw [cnF, cnF]
    by_cases h : lo + d = k
    · subst h
      rw [if_neg (by omega)] at ih
      rw [upd_same, if_pos rfl]
      by_cases e : f (lo + d) = -9
      · rw [if_pos e, if_neg (fun q => q.2.2 e)]; omega
      · rw [if_neg e, if_pos ⟨by omega, by omega, e⟩]; omega
    · rw [upd_ne _ _ h]
      have : (lo ≤ k ∧ k < lo + d ∧ f k ≠ -9) ↔ (lo ≤ k ∧ k < lo + (d + 1) ∧ f k ≠ -9) := ⟨fun ⟨a, b, c⟩ => ⟨a, by omega, c⟩, fun ⟨a, b, c⟩ => ⟨a, by omega, c⟩⟩
      simp only [this] at ih
      omega
theorem cn_drop {f : Mp} {k : Nat} (hk : k < 100) (hf : f k ≠ -9) : cn (upd f k (-9)) 0 100 + 1 = cn f 0 100 := by
  have := cnF_drop (f := f) (k := k) 0 100
  rw [if_pos ⟨by omega, by omega, hf⟩] at this
  exact this
theorem n_drop {D : DD} {p k : Nat} {f : Mp} (h : Prs D p f) (hk : k < 100) (hf : f k ≠ -9) : ∃ D' : DD, g_X2_drop p (nI k) D = some D' ∧ Prs D' p (upd f k (-9)) ∧ ∀ c, c ≠ p → c ≠ p + 1 → D' c = D c := by
  have hc := cn_drop hk hf
  unfold g_X2_drop
  rw [n_has hk, h.1 k hk, if_neg hf, pcb_some, if_neg one_ne0, h.2, ← hc, show nI (cn (upd f k (-9)) 0 100 + 1) - (1 : Int32) = nI (cn (upd f k (-9)) 0 100) from nI_pred _, dlt_eq, zck_nI hk (by decide), ix_nI (by omega), dlt_eq]
  refine ⟨_, rfl, ⟨fun j hj => ?_, ?_⟩, fun c c1 c2 => by rw [u2_ne _ _ c2, u2_ne _ _ c1]⟩
  · rw [u2_same, u2_ne _ _ (by omega)]
    by_cases e : j = k
    · rw [e, upd_same, upd_same]
    · rw [upd_ne _ _ e, upd_ne _ _ e]; exact h.1 j hj
  · rw [u2_ne _ _ (by omega), u2_same, upd_same]
theorem n_room {D : DD} {p k : Nat} {f : Mp} (h : Prs D p f) (hk : k < 100) : g_X2_hasRoomFor p (nI k) D = some (if f k = -9 ∧ 40 ≤ cn f 0 100 then 0 else 1) := by
  have hcn := cn_le f 0 100
  unfold g_X2_hasRoomFor
  rw [n_has hk, h.1 k hk, pcb_some]
  by_cases e : f k = -9
  · rw [if_pos e, if_pos rfl, h.2]
    by_cases e2 : 40 ≤ cn f 0 100
    · rw [if_pos (show (40 : Int32) ≤ nI _ from nI_le (a := 40) e2 (by omega)), if_pos ⟨e, e2⟩]
    · rw [if_neg (show ¬ (40 : Int32) ≤ nI _ from nI_ge (b := 40) (by omega) (by decide)), if_neg (fun q => e2 q.2)]
  · rw [if_neg e, if_neg one_ne0, if_neg (fun q => e q.1)]
/-- the tree is made anew -/
theorem n_regrow {D : DD} {t p : Nat} {f : Mp} (hap : Ap t p) (hf : ∀ k, k < 100 → D (p + 1) k = f k) (hg : Gp D t zg) : ∃ D' : DD, g_X7_grow t p D = some D' ∧ TI D' t f ∧ Fr t D D' := by
  obtain ⟨D', e1, e2, e3, e4, e5⟩ := n_grow hap ⟨hf, hg⟩
  exact ⟨D', e1, ⟨e3, e4, e5, fun g hg2 => by rw [e2.1 (t + 4) (by omega) (by omega) (by omega) (by omega) (by omega)]; exact hg g hg2⟩, e2⟩
