/-! ===== the law's loop ===== -/
theorem ok_put (x : Int32) (y : Int32) : OpOk (f_X8_put 0 x y) (f_X9_put 80 x y) := ok_SS (gc := g_X8_put 0 x y) (gm := g_X9_put 80 x y) (fun n K R D h => G_X8_put 0 x y D h.1) (fun n K R D h => G_X9_put 80 x y D h.2.1) (fun D h => op_put h x y)
theorem ok_remove (x : Int32) : OpOk (f_X8_remove 0 x) (f_X9_remove 80 x) := ok_SS (gc := g_X8_remove 0 x) (gm := g_X9_remove 80 x) (fun n K R D h => G_X8_remove 0 x D h.1) (fun n K R D h => G_X9_remove 80 x D h.2.1) (fun D h => op_remove h x)
theorem ok_get (x : Int32) : OpOk (f_X8_get 0 x) (f_X9_get 80 x) := ok_PP (gc := g_X8_get 0 x) (gm := g_X9_get 80 x) (fun n K R D h => G_X8_get 0 x D h.1) (fun n K R D h => G_X9_get 80 x D h.2.1) (fun D h => op_get h x)
theorem ok_scatter (x : Int32) (z : Int64) : OpOk (f_X8_scatter 0 x z) (f_X9_scatter 80 x z) := ok_SS (gc := g_X8_scatter 0 x z) (gm := g_X9_scatter 80 x z) (fun n K R D h => G_X8_scatter 0 x z D h.1) (fun n K R D h => G_X9_scatter 80 x z D h.2.1) (fun D h => op_scatter h x z)
theorem ok_undo : OpOk (f_X8_undo 0) (f_X9_undo 80) := ok_SS (gc := g_X8_undo 0) (gm := g_X9_undo 80) (fun n K R D h => G_X8_undo 0 D h.1) (fun n K R D h => G_X9_undo 80 D h.2.1) (fun D h => op_undo h)
theorem ok_about (x : Int32) : OpOk (f_X8_about 0 x) (f_X9_about 80 x) := ok_PS (gc := g_X8_about 0 x) (gm := g_X9_about 80 x) (fun n K R D h => G_X8_about 0 x D h.1) (fun n K R D h => G_X9_about 80 x D h.2.1) (fun D h => op_about h x)
theorem ok_rank (x : Int32) : OpOk (f_X8_rank 0 x) (f_X9_rank 80 x) := ok_PP (gc := fun _ => g_X8_rank 0 x) (gm := fun _ => g_X9_rank 80 x) (fun n K R D h => G_X8_rank 0 x D h.1) (fun n K R D h => G_X9_rank 80 x D h.2.1) (fun D h => op_rank x)
theorem ok_proof (x : Int32) (y : Int32) (w : Int32) : OpOk (f_X8_proof 0 x y w) (f_X9_proof 80 x y w) := ok_SS (gc := g_X8_proof 0 x y w) (gm := g_X9_proof 80 x y w) (fun n K R D h => G_X8_proof 0 x y w D h.1) (fun n K R D h => G_X9_proof 80 x y w D h.2.1) (fun D h => op_proof h x y w)
theorem ok_item (x : Int32) (y : Int32) (w : Int32) : OpOk (f_X8_item 0 x y w) (f_X9_item 80 x y w) := ok_SS (gc := g_X8_item 0 x y w) (gm := g_X9_item 80 x y w) (fun n K R D h => G_X8_item 0 x y w D h.1) (fun n K R D h => G_X9_item 80 x y w D h.2.1) (fun D h => op_item h x y w)
theorem ok_lengths (x : Int32) (y : Int32) : OpOk (f_X8_lengths 0 x y) (f_X9_lengths 80 x y) := ok_PS (gc := g_X8_lengths 0 x y) (gm := g_X9_lengths 80 x y) (fun n K R D h => G_X8_lengths 0 x y D h.1) (fun n K R D h => G_X9_lengths 80 x y D h.2.1) (fun D h => op_lengths h x y)
theorem ok_send (x : Int32) (y : Int32) : OpOk (f_X8_send 0 x y) (f_X9_send 80 x y) := ok_SS (gc := g_X8_send 0 x y) (gm := g_X9_send 80 x y) (fun n K R D h => G_X8_send 0 x y D h.1) (fun n K R D h => G_X9_send 80 x y D h.2.1) (fun D h => op_send h x y)
theorem ok_tell (x : Int32) : OpOk (f_X8_tell 0 x) (f_X9_tell 80 x) := ok_SS (gc := g_X8_tell 0 x) (gm := g_X9_tell 80 x) (fun n K R D h => G_X8_tell 0 x D h.1) (fun n K R D h => G_X9_tell 80 x D h.2.1) (fun D h => op_tell h x)
theorem ok_alter (x : Int32) (y : Int32) : OpOk (f_X8_alter 0 x y) (f_X9_alter 80 x y) := ok_SS (gc := g_X8_alter 0 x y) (gm := g_X9_alter 80 x y) (fun n K R D h => G_X8_alter 0 x y D h.1) (fun n K R D h => G_X9_alter 80 x y D h.2.1) (fun D h => op_alter h x y)
theorem ok_cut (x : Int32) : OpOk (f_X8_cut 0 x) (f_X9_cut 80 x) := ok_SS (gc := g_X8_cut 0 x) (gm := g_X9_cut 80 x) (fun n K R D h => G_X8_cut 0 x D h.1) (fun n K R D h => G_X9_cut 80 x D h.2.1) (fun D h => op_cut h x)
theorem ok_trust : OpOk (f_X8_trust 0) (f_X9_trust 80) := ok_SS (gc := g_X8_trust 0) (gm := g_X9_trust 80) (fun n K R D h => G_X8_trust 0 D h.1) (fun n K R D h => G_X9_trust 80 D h.2.1) (fun D h => op_trust h)
theorem ok_believe (x : Int32) : OpOk (f_X8_believe 0 x) (f_X9_believe 80 x) := ok_SS (gc := g_X8_believe 0 x) (gm := g_X9_believe 80 x) (fun n K R D h => G_X8_believe 0 x D h.1) (fun n K R D h => G_X9_believe 80 x D h.2.1) (fun D h => op_believe h x)
theorem ok_read (x : Int32) (y : Int32) : OpOk (f_X8_read 0 x y) (f_X9_read 80 x y) := ok_SS (gc := g_X8_read 0 x y) (gm := g_X9_read 80 x y) (fun n K R D h => G_X8_read 0 x y D h.1) (fun n K R D h => G_X9_read 80 x y D h.2.1) (fun D h => op_read h x y)
theorem ok_learnt (x : Int32) (y : Int32) (w : Int32) : OpOk (f_X8_learnt 0 x y w) (f_X9_learnt 80 x y w) := ok_SS (gc := g_X8_learnt 0 x y w) (gm := g_X9_learnt 80 x y w) (fun n K R D h => G_X8_learnt 0 x y w D h.1) (fun n K R D h => G_X9_learnt 80 x y w D h.2.1) (fun D h => op_learnt h x y w)
theorem ok_found (x : Int32) (y : Int32) (w : Int32) : OpOk (f_X8_found 0 x y w) (f_X9_found 80 x y w) := ok_SS (gc := g_X8_found 0 x y w) (gm := g_X9_found 80 x y w) (fun n K R D h => G_X8_found 0 x y w D h.1) (fun n K R D h => G_X9_found 80 x y w D h.2.1) (fun D h => op_found h x y w)
theorem ok_step (x : Int32) (y : Int32) : OpOk (f_X8_step 0 x y) (f_X9_step 80 x y) := ok_SS (gc := g_X8_step 0 x y) (gm := g_X9_step 80 x y) (fun n K R D h => G_X8_step 0 x y D h.1) (fun n K R D h => G_X9_step 80 x y D h.2.1) (fun D h => op_step h x y)
theorem ok_follow (x : Int32) (y : Int32) : OpOk (f_X8_follow 0 x y) (f_X9_follow 80 x y) := ok_SS (gc := g_X8_follow 0 x y) (gm := g_X9_follow 80 x y) (fun n K R D h => G_X8_follow 0 x y D h.1) (fun n K R D h => G_X9_follow 80 x y D h.2.1) (fun D h => op_follow h x y)
theorem ok_former (x : Int32) : OpOk (f_X8_former 0 x) (f_X9_former 80 x) := ok_PP (gc := g_X8_former 0 x) (gm := g_X9_former 80 x) (fun n K R D h => G_X8_former 0 x D h.1) (fun n K R D h => G_X9_former 80 x D h.2.1) (fun D h => op_former h x)
theorem ok_keep (x : Int32) : OpOk (f_X8_keep 0 x) (f_X9_keep 80 x) := ok_SS (gc := g_X8_keep 0 x) (gm := g_X9_keep 80 x) (fun n K R D h => G_X8_keep 0 x D h.1) (fun n K R D h => G_X9_keep 80 x D h.2.1) (fun D h => op_keep h x)
theorem ok_again (x : Int32) : OpOk (f_X8_again 0 x) (f_X9_again 80 x) := ok_SS (gc := g_X8_again 0 x) (gm := g_X9_again 80 x) (fun n K R D h => G_X8_again 0 x D h.1) (fun n K R D h => G_X9_again 80 x D h.2.1) (fun D h => op_again h x)
def LR (o : Option (Int32 × Mm)) : Prop := ∃ σ' : Mm, o = some ((1 : Int32), σ')
theorem itc {c : Prop} {d : Decidable c} {A B : Option (Int32 × Mm)} (h1 : c → LR A) (h2 : ¬ c → LR B) : LR (@ite _ c d A B) := by
  by_cases h : c
  · rw [if_pos h]; exact h1 h
  · rw [if_neg h]; exact h2 h
theorem Good.o8 {σ : Mm} (h : Good σ) : kO σ 0 8 = true := by
  obtain ⟨n, K, R, D, rfl, hS, -⟩ := h
  exact X8_o hS.1
section LW
variable {fc fm k : Mm → Option (Int32 × Mm)} {σ : Mm} {L : Nat} {a b c : Int32}
theorem lw0 (ho : OpOk fc fm) (hσ : Good σ) (hk : ∀ σ', Good σ' → LR (k σ')) : LR (zck (kO σ 0 8) (zcb (fc σ) (fun r σ1 => zck (kO σ1 80 9) (zcb (fm σ1) (fun r' σ2 => if r = r' then k σ2 else some ((0 : Int32), σ2)))))) := by
  obtain ⟨r, σ1, σ2, e1, e2, e3, e4⟩ := ho σ hσ
  rw [zck_t hσ.o8, e1, zcb_some, zck_t e2, e3, zcb_some, if_pos rfl]
  exact hk σ2 e4
theorem lw1 (ha : kS L a = true) (ho : OpOk fc fm) (hσ : Good σ) (hk : ∀ σ', Good σ' → LR (k σ')) : LR (zck (kS L a) (zck (kO σ 0 8) (zcb (fc σ) (fun r σ1 => zck (kS L a) (zck (kO σ1 80 9) (zcb (fm σ1) (fun r' σ2 => if r = r' then k σ2 else some ((0 : Int32), σ2)))))))) := by
  obtain ⟨r, σ1, σ2, e1, e2, e3, e4⟩ := ho σ hσ
  rw [zck_t ha, zck_t hσ.o8, e1, zcb_some, zck_t ha, zck_t e2, e3, zcb_some, if_pos rfl]
  exact hk σ2 e4
theorem lw2 (ha : kS L a = true) (hb : kS L b = true) (ho : OpOk fc fm) (hσ : Good σ) (hk : ∀ σ', Good σ' → LR (k σ')) : LR (zck (kS L a) (zck (kS L b) (zck (kO σ 0 8) (zcb (fc σ) (fun r σ1 => zck (kS L a) (zck (kS L b) (zck (kO σ1 80 9) (zcb (fm σ1) (fun r' σ2 => if r = r' then k σ2 else some ((0 : Int32), σ2)))))))))) := by
  obtain ⟨r, σ1, σ2, e1, e2, e3, e4⟩ := ho σ hσ
  rw [zck_t ha, zck_t hb, zck_t hσ.o8, e1, zcb_some, zck_t ha, zck_t hb, zck_t e2, e3, zcb_some, if_pos rfl]
  exact hk σ2 e4
theorem lw3 (ha : kS L a = true) (hb : kS L b = true) (hc : kS L c = true) (ho : OpOk fc fm) (hσ : Good σ) (hk : ∀ σ', Good σ' → LR (k σ')) : LR (zck (kS L a) (zck (kS L b) (zck (kS L c) (zck (kO σ 0 8) (zcb (fc σ) (fun r σ1 => zck (kS L a) (zck (kS L b) (zck (kS L c) (zck (kO σ1 80 9) (zcb (fm σ1) (fun r' σ2 => if r = r' then k σ2 else some ((0 : Int32), σ2)))))))))))) := by
  obtain ⟨r, σ1, σ2, e1, e2, e3, e4⟩ := ho σ hσ
  rw [zck_t ha, zck_t hb, zck_t hc, zck_t hσ.o8, e1, zcb_some, zck_t ha, zck_t hb, zck_t hc, zck_t e2, e3, zcb_some, if_pos rfl]
  exact hk σ2 e4
end LW
theorem law_ex {L i : Nat} (hL : L ≤ 2048) (hi : i ≤ 4096) : (Int32.ofNat L - 4 < nI i) ↔ L < i + 4 := by
  have h4 : (4 : Int32).toInt = 4 := by decide
  have hl : (Int32.ofNat L).toInt = (L : Int) := nI_toInt (by omega)
  rw [Int32.lt_iff_toInt_lt, Int32.toInt_sub, nI_toInt (by omega), hl, h4, Int.bmod_eq_of_le (by omega) (by omega)]
  omega
theorem kS_nI {L i : Nat} (hL : L ≤ 2048) (hi : i < L) : kS L (nI i) = true := inb_nI hi (by omega)
set_option maxRecDepth 100000 in
set_option maxHeartbeats 4000000 in
theorem law_loop (L : Nat) (xs : Nat → Int32) (hL : L ≤ 2048) : ∀ (n i : Nat) (σ : Mm), i ≤ 2048 → 2049 ≤ i + 4 * n → Good σ → LR (f_L_law_18 L xs n 0 80 (nI i) σ) := by
  intro n
  induction n with
  | zero =>
    intro i σ h0 h1 hσ
    omega
  | succ n ih =>
    intro i σ h0 h1 hσ
    rw [f_L_law_18]
    refine itc (fun _ => ⟨σ, rfl⟩) (fun hx => ?_)
    have hx : i + 4 ≤ L := by
      rcases Nat.lt_or_ge L (i + 4) with q | q
      · exact absurd ((law_ex hL (by omega)).mpr q) hx
      · exact q
    have k0 : kS L (nI i) = true := kS_nI hL (by omega)
    have k1 : kS L (nI i + 1) = true := by rw [nI_1]; exact kS_nI hL (by omega)
    have k2 : kS L (nI i + 2) = true := by rw [show (2 : Int32) = nI 2 from rfl, nI_add]; exact kS_nI hL (by omega)
    have k3 : kS L (nI i + 3) = true := by rw [show (3 : Int32) = nI 3 from rfl, nI_add]; exact kS_nI hL (by omega)
    have hk : ∀ σ', Good σ' → LR (f_L_law_1007 L xs (f_L_law_18 L xs n) 0 80 (nI i) σ') := by
      intro σ' h
      unfold f_L_law_1007
      rw [show (4 : Int32) = nI 4 from rfl, nI_add]
      exact ih (i + 4) σ' (by omega) (by omega) h
    rw [zck_t k0]
    refine itc (fun _ => lw2 k1 k2 (ok_put _ _) hσ hk) (fun _ => ?_)
    refine itc (fun _ => lw1 k1 (ok_remove _) hσ hk) (fun _ => ?_)
    refine itc (fun _ => lw1 k1 (ok_get _) hσ hk) (fun _ => ?_)
    refine itc (fun _ => lw3 k1 k2 k3 (ok_scatter _ _) hσ hk) (fun _ => ?_)
    refine itc (fun _ => lw0 (ok_undo) hσ hk) (fun _ => ?_)
    refine itc (fun _ => lw1 k1 (ok_about _) hσ hk) (fun _ => ?_)
    refine itc (fun _ => lw2 k1 k2 (ok_node _ _) hσ hk) (fun _ => ?_)
    refine itc (fun _ => lw1 k1 (ok_rank _) hσ hk) (fun _ => ?_)
    refine itc (fun _ => lw3 k1 k2 k3 (ok_proof _ _ _) hσ hk) (fun _ => ?_)
    refine itc (fun _ => lw3 k1 k2 k3 (ok_item _ _ _) hσ hk) (fun _ => ?_)
    refine itc (fun _ => lw2 k1 k2 (ok_lengths _ _) hσ hk) (fun _ => ?_)
    refine itc (fun _ => lw2 k1 k2 (ok_send _ _) hσ hk) (fun _ => ?_)
    refine itc (fun _ => lw1 k1 (ok_tell _) hσ hk) (fun _ => ?_)
    refine itc (fun _ => lw2 k1 k2 (ok_alter _ _) hσ hk) (fun _ => ?_)
    refine itc (fun _ => lw1 k1 (ok_cut _) hσ hk) (fun _ => ?_)
    refine itc (fun _ => lw0 (ok_trust) hσ hk) (fun _ => ?_)
    refine itc (fun _ => lw1 k1 (ok_believe _) hσ hk) (fun _ => ?_)
    refine itc (fun _ => lw2 k1 k2 (ok_read _ _) hσ hk) (fun _ => ?_)
    refine itc (fun _ => lw3 k1 k2 k3 (ok_learnt _ _ _) hσ hk) (fun _ => ?_)
    refine itc (fun _ => lw3 k1 k2 k3 (ok_found _ _ _) hσ hk) (fun _ => ?_)
    refine itc (fun _ => lw2 k1 k2 (ok_step _ _) hσ hk) (fun _ => ?_)
    refine itc (fun _ => lw2 k1 k2 (ok_follow _ _) hσ hk) (fun _ => ?_)
    refine itc (fun _ => lw1 k1 (ok_former _) hσ hk) (fun _ => ?_)
    refine itc (fun _ => lw3 k1 k2 k3 (ok_judge _ _) hσ hk) (fun _ => ?_)
    refine itc (fun _ => lw1 k1 (ok_keep _) hσ hk) (fun _ => ?_)
    refine itc (fun _ => lw1 k1 (ok_again _) hσ hk) (fun _ => ?_)
    refine itc (fun _ => lw2 k1 k2 (ok_differ _ _) hσ hk) (fun _ => ?_)
    exact hk σ hσ
