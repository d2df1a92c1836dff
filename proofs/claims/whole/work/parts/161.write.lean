theorem pf_pos (f : Nat → Int32) (a b lo hi : Nat) : 1 ≤ (pf f a b lo hi).length := by
  cases e : bs f lo hi with
  | none => rw [pf_none e]; simp
  | some k =>
    rw [pf_some e]
    split
    · simp
    · simp
theorem pfs_len (f : Nat → Int32) (a b : Nat) : ∀ ps : List (Nat × Nat), ps.length ≤ (pfs f a b (pIv ps)).length
  | [] => Nat.le_refl _
  | i :: r => by
    have h1 := pfs_len f a b r
    have h2 := pf_pos f a b (i.1 + 1) i.2
    simp only [pIv, pfs, List.length_append, List.length_cons]
    omega
theorem hi_le {a H : Nat} (ha : a ≤ 1000) (hH : H ≤ 1000) : (nI H - (1 : Int32) < nI a) ↔ ¬ a < H := by
  rw [hi_lt hH ha]; omega
/-- what the writing needs: the tree's arrays, the map's values -/
def Wr (f : Nat → Int32) (t p : Nat) (D : DD) : Prop := TrOk f zg (D (t + 1)) (D (t + 2)) (D (t + 3)) ∧ ∀ k, k < 100 → D (p + 1) k = f k
def PsOk (f : Nat → Int32) (ps : List (Nat × Nat)) : Prop := ∀ i ∈ ps, ∃ lo, Bd f lo i.2 ∧ bs f lo i.2 = some i.1
set_option maxHeartbeats 2000000 in
theorem n_writeLoop {f : Nat → Int32} {t p w a b : Nat} (ha : a < 100) (hb : b < 100) (hp : p + 1 < t ∨ t + 8 < p) (hw : w + 1 < t ∨ t + 8 < w) (hwp : w + 1 < p ∨ p + 1 < w) : ∀ (N lo H : Nat) (ps : List (Nat × Nat)) (xs : List Int32) (D : DD) (n tm : Nat), (pf f a b lo H ++ pfs f a b (pIv ps)).length ≤ N → tm + N ≤ 100 → N < n → xs.length + N ≤ 100 → Wr f t p D → Bd f lo H → PsOk f ps → Itm D w xs → D (t + 6) 2 = nI ps.length → Pnd D (t + 6) ps →
    ∃ D' : DD, g_X7_writeProof_29 n t p (nI a) (nI b) w (oI (bs f lo H)) (nI lo) (nI H - 1) (nI tm) D = some D' ∧ Itm D' w (xs ++ (pf f a b lo H ++ pfs f a b (pIv ps))) ∧ ∀ c, c ≠ w → c ≠ w + 1 → c ≠ t + 6 → c ≠ t + 7 → c ≠ t + 8 → D' c = D c := by
  intro N
  induction N with
  | zero =>
    intro lo H ps xs D n tm h1
    have := pf_pos f a b lo H
    simp only [List.length_append] at h1
    omega
  | succ N ih =>
    intro lo H ps xs D n tm h1 h2 h3 h4 hW hB hP hI hq hpn
    obtain ⟨n, rfl⟩ : ∃ q, n = q + 1 := ⟨n - 1, by omega⟩
    have hps := pfs_len f a b ps
    have hpos := pf_pos f a b lo H
    have hH := hB.2.1
    have hlH := hB.1
    -- a leaf: its item, then the next pending node
    have leaf : ∀ (x at_ : Int32), (∀ E : DD, g_X7_digestOf t at_ E = some x ∨ E (t + 3) ≠ D (t + 3)) → pf f a b lo H = [x] → ∃ D' : DD, g_X7_writeProof_100 (g_X7_writeProof_29 n) t p (nI a) (nI b) w at_ (nI tm) D = some D' ∧ Itm D' w (xs ++ (pf f a b lo H ++ pfs f a b (pIv ps))) ∧ ∀ c, c ≠ w → c ≠ w + 1 → c ≠ t + 6 → c ≠ t + 7 → c ≠ t + 8 → D' c = D c := by
      intro x at_ hx hpf
      unfold g_X7_writeProof_100
      rw [(hx D).elim id (fun q => absurd rfl q), pcb_some]
      obtain ⟨D1, e1, e2, e3⟩ := n_add hI (by omega) x
      rw [e1, vcb_some]
      have q1 : D1 (t + 6) = D (t + 6) := e3 _ (by omega) (by omega)
      have q2 : D1 (t + 6 + 1) = D (t + 6 + 1) := e3 _ (by omega) (by omega)
      have q3 : D1 (t + 6 + 2) = D (t + 6 + 2) := e3 _ (by omega) (by omega)
      cases ps with
      | nil =>
        rw [n_pop0 (by rw [q1]; exact hq), dcb_some, if_pos rfl]
        refine ⟨D1, rfl, ?_, fun c c1 c2 _ _ _ => e3 c c1 c2⟩
        rw [hpf]
        simpa [pfs, pIv] using e2
      | cons i r =>
        obtain ⟨k, H2⟩ := i
        simp only [List.length_cons] at hps
        have hpn1 : Pnd D1 (t + 6) ((k, H2) :: r) := Pnd_congr (fun j _ => by rw [q2, q3]; exact ⟨rfl, rfl⟩) hpn
        obtain ⟨D2, f1, f2, f3, f4, f5, f6⟩ := n_pop (by rw [q1]; exact hq) hpn1 (by simp only [List.length_append] at h1; omega)
        obtain ⟨lo2, hB2, hk2⟩ := hP (k, H2) List.mem_cons_self
        simp only at hB2 hk2
        obtain ⟨a1, a2, -, -⟩ := bs_some hk2
        have hk : k < 100 := by have := hB2.2.1; omega
        have hfr : ∀ c, c ≠ w → c ≠ w + 1 → c ≠ t + 6 → D2 c = D c := fun c c1 c2 c3 => (f6 c c3).trans (e3 c c1 c2)
        have hW2 : Wr f t p D2 := by
          unfold Wr
          rw [hfr (t + 1) (by omega) (by omega) (by omega), hfr (t + 2) (by omega) (by omega) (by omega), hfr (t + 3) (by omega) (by omega) (by omega), hfr (p + 1) (by omega) (by omega) (by omega)]
          exact hW
        have hr2 := (hW2.1 lo2 H2 k hB2 hk2).2.1
        rw [f1, dcb_some, if_neg one_ne0, n_pkey, pcb_some, f4, n_rightOf hk, pcb_some, pcb_some, n_phi, pcb_some, f5, hr2, nI_1]
        have hI2 : Itm D2 w (xs ++ [x]) := e2.congr (f6 w (by omega)) (f6 (w + 1) (by omega))
        unfold g_X7_writeProof_157
        rw [nI_1]
        have hlen : (pf f a b (k + 1) H2 ++ pfs f a b (pIv r)).length ≤ N := by
          rw [hpf] at h1
          simp only [pIv, pfs, List.length_append, List.length_cons, List.length_nil] at h1 ⊢
          omega
        obtain ⟨D', g1, g2, g3⟩ := ih (k + 1) H2 r (xs ++ [x]) D2 n (tm + 1) hlen (by omega) (by omega) (by simp only [List.length_append, List.length_cons, List.length_nil]; omega) hW2 (Bd_right hB2 hk2) (fun i hi => hP i (List.mem_cons_of_mem _ hi)) hI2 f2 f3
        refine ⟨D', g1, ?_, fun c c1 c2 c3 c4 c5 => (g3 c c1 c2 c3 c4 c5).trans (hfr c c1 c2 c3)⟩
        rw [hpf]
        simpa [pfs, pIv, List.append_assoc] using g2
    rw [g_X7_writeProof_29, if_neg (nI_100 (by omega))]
    cases e : bs f lo H with
    | none =>
      rw [show oI none = -9 from rfl, n_isNumber9, pcb_some, if_pos rfl]
      exact leaf 0 (-9) (fun E => Or.inl (n_digestOf9 t E)) (pf_none e)
    | some k =>
      obtain ⟨a1, a2, a3, a4⟩ := bs_some e
      have hk : k < 100 := by omega
      have hT := hW.1 lo H k hB e
      have hdg : ∀ E : DD, g_X7_digestOf t (nI k) E = some (dg f zg lo H) ∨ E (t + 3) ≠ D (t + 3) := fun E => by
        by_cases q : E (t + 3) = D (t + 3)
        · exact Or.inl (by rw [n_digestOf hk, q, hT.2.2])
        · exact Or.inr q
      rw [show oI (some k) = nI k from rfl, n_isNumber hk, pcb_some, if_neg one_ne0]
      by_cases c1 : b < lo
      · rw [if_pos (nI_lt c1 (by omega))]
        exact leaf _ (nI k) hdg (by rw [pf_some e, if_neg (by omega)])
      · rw [if_neg (nI_nlt (by omega) (by omega))]
        by_cases c2 : a < H
        · rw [if_neg (fun q => (hi_le (by omega) (by omega)).mp q c2), n_valueOf hk, pcb_some, hW.2 k hk]
          show ∃ D' : DD, pcb (some (itm k (f k))) _ = _ ∧ _
          rw [pcb_some]
          obtain ⟨D1, e1, e2, e3⟩ := n_add hI (by omega) (itm k (f k))
          have q1 : D1 (t + 6) = D (t + 6) := e3 _ (by omega) (by omega)
          have q2 : D1 (t + 6 + 1) = D (t + 6 + 1) := e3 _ (by omega) (by omega)
          have q3 : D1 (t + 6 + 2) = D (t + 6 + 2) := e3 _ (by omega) (by omega)
          have hpl : ps.length < 100 := by simp only [List.length_append] at h1; omega
          obtain ⟨D2, f1, f2, f3, f4⟩ := n_push (D := D1) (k := k) (H := H) (hi := nI H - 1) (by rw [q1]; exact hq) (Pnd_congr (fun j _ => by rw [q2, q3]; exact ⟨rfl, rfl⟩) hpn) hpl rfl
          have hfr : ∀ c, c ≠ w → c ≠ w + 1 → c ≠ t + 6 → c ≠ t + 7 → c ≠ t + 8 → D2 c = D c := fun c c1 c2 c3 c4 c5 => (f4 c c3 (by omega) (by omega)).trans (e3 c c1 c2)
          have hW2 : Wr f t p D2 := by
            unfold Wr
            rw [hfr (t + 1) (by omega) (by omega) (by omega) (by omega) (by omega), hfr (t + 2) (by omega) (by omega) (by omega) (by omega) (by omega), hfr (t + 3) (by omega) (by omega) (by omega) (by omega) (by omega), hfr (p + 1) (by omega) (by omega) (by omega) (by omega) (by omega)]
            exact hW
          have hl2 := (hW2.1 lo H k hB e).1
          rw [e1, vcb_some, f1, vcb_some, n_leftOf hk, pcb_some, hl2]
          have hI2 : Itm D2 w (xs ++ [itm k (f k)]) := e2.congr (f4 w (by omega) (by omega) (by omega)) (f4 (w + 1) (by omega) (by omega) (by omega))
          have hpf : pf f a b lo H = itm k (f k) :: (pf f a b lo k ++ pf f a b (k + 1) H) := by rw [pf_some e, if_pos ⟨by omega, c2⟩]
          unfold g_X7_writeProof_157
          rw [nI_1]
          have hlen : (pf f a b lo k ++ pfs f a b (pIv ((k, H) :: ps))).length ≤ N := by
            rw [hpf] at h1
            simp only [pIv, pfs, List.length_append, List.length_cons] at h1 ⊢
            omega
          obtain ⟨D', g1, g2, g3⟩ := ih lo k ((k, H) :: ps) (xs ++ [itm k (f k)]) D2 n (tm + 1) hlen (by omega) (by omega) (by simp only [List.length_append, List.length_cons, List.length_nil]; omega) hW2 (Bd_left hB e) (fun i hi => by
            rcases List.mem_cons.mp hi with rfl | hi
            · exact ⟨lo, hB, e⟩
            · exact hP i hi) hI2 f2 f3
          refine ⟨D', g1, ?_, fun c c1 c2 c3 c4 c5 => (g3 c c1 c2 c3 c4 c5).trans (hfr c c1 c2 c3 c4 c5)⟩
          rw [hpf]
          simpa [pfs, pIv, List.append_assoc] using g2
        · rw [if_pos ((hi_le (by omega) (by omega)).mpr c2)]
          exact leaf _ (nI k) hdg (by rw [pf_some e, if_neg (by omega)])
/-- writeProof: a row of items is the proof of a range -/
theorem n_writeProof {f : Nat → Int32} {t p w a b L : Nat} {D : DD} (ha : a < 100) (hb : b < 100) (hp : p + 1 < t ∨ t + 8 < p) (hw : w + 1 < t ∨ t + 8 < w) (hwp : w + 1 < p ∨ p + 1 < w) (hW : Wr f t p D) (hroot : D t 6 = oI (bs f 0 100)) (hcn : cn f 0 100 ≤ 49) (hL : D w 1 = nI L) (hL2 : L ≤ 100) :
    ∃ D' : DD, g_X7_writeProof t p (nI a) (nI b) w D = some D' ∧ Itm D' w (pf f a b 0 100) ∧ ∀ c, c ≠ w → c ≠ w + 1 → c ≠ t + 6 → c ≠ t + 7 → c ≠ t + 8 → D' c = D c := by
  unfold g_X7_writeProof
  obtain ⟨D1, e1, e2, e3⟩ := n_shorten0 hL hL2
  rw [e1, vcb_some]
  show ∃ D' : DD, vcb (some (u2 D1 (t + 6) 2 0)) _ = _ ∧ _
  rw [vcb_some]
  generalize hE : u2 D1 (t + 6) 2 0 = E
  have eo : ∀ c, c ≠ w → c ≠ t + 6 → E c = D c := fun c c1 c2 => by rw [← hE, u2_ne _ _ c2, e3 c c1]
  rw [eo t (by omega) (by omega), hroot]
  have hlen := pf_len f a b 100 0 100 (by omega)
  obtain ⟨D', g1, g2, g3⟩ := n_writeLoop ha hb hp hw hwp 99 0 100 [] [] E 1000 0 (by simp only [pIv, pfs, List.append_nil]; omega) (by omega) (by omega) (by simp) (by
      unfold Wr
      rw [eo (t + 1) (by omega) (by omega), eo (t + 2) (by omega) (by omega), eo (t + 3) (by omega) (by omega), eo (p + 1) (by omega) (by omega)]
      exact hW) (Bd_top f) (fun i hi => by cases hi) (e2.congr (by rw [← hE, u2_ne _ _ (by omega)]) (by rw [← hE, u2_ne _ _ (by omega)])) (by rw [← hE, u2_same, upd_same]; rfl) trivial
  exact ⟨D', g1, by simpa [pIv, pfs] using g2, fun c c1 c2 c3 c4 c5 => (g3 c c1 c2 c3 c4 c5).trans (eo c c1 c3)⟩
