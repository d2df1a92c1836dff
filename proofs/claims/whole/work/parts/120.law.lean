set_option maxRecDepth 100000 in
def f_L_law_1007 (L : Nat) (xs : Nat → Int32) (k_18 : Nat → Nat → Int32 → Mm → Option (Int32 × Mm)) (v1 : Nat) (v2 : Nat) (v3 : Int32) (σ : Mm) : Option (Int32 × Mm) :=
  k_18 v1 v2 (v3 + (4 : Int32)) σ
set_option maxRecDepth 100000 in
set_option maxHeartbeats 8000000 in
theorem V_L_law_1007 {g : GG} {b L : Nat} {xs : Nat → Int32} (k_18 : Nat → Nat → Int32 → Mm → Option (Int32 × Mm)) (kc_18 ks_18 : Nat) (hk_18 : ∀ (v1 : Nat) (v2 : Nat) (v3 : Int32) (σ : Mm) (σ' : Mm), k_18 v1 v2 v3 σ = some (1, σ') → VL b L xs g (kc_18) (ks_18) 18 [(0, .ref b), (1, .ref (gB g + v1)), (2, .ref (gB g + v2)), (3, .int v3)] [] σ) (v1 : Nat) (v2 : Nat) (v3 : Int32) (σ : Mm) (σ' : Mm) (hf : f_L_law_1007 L xs k_18 v1 v2 v3 σ = some (1, σ')) (kc ks : Nat) (hq_18 : 0 + kc_18 ≤ kc ∧ 0 + ks_18 ≤ ks) : VL b L xs g (kc) (ks) 1007 [(0, .ref b), (1, .ref (gB g + v1)), (2, .ref (gB g + v2)), (3, .int v3)] [] σ := by
  intro p e s m below meth c H locs cells slots ls EL hR hS hl hc hs
  have hc : cells + kc ≤ 600000 := hc
  have hs : slots + ks ≤ 7302250 := hs
  obtain ⟨E, hgB, hX, hbl⟩ := id EL
  obtain ⟨hx, hb, hml, hr, hlocks, hown, hts, hin, hT⟩ := id E
  have hbA : ¬ aA g b := by show ¬ gB g ≤ b; omega
  unfold f_L_law_1007 at hf
  refine lv_iinc (v := (v3 + (4 : Int32))) (lv' := [(3, .int (v3 + (4 : Int32))), (0, .ref b), (1, .ref (gB g + v1)), (2, .ref (gB g + v2))]) hx hb dL_law_1007 hl (k := 3) rfl rfl (Nat.le_of_ble_eq_true rfl) rfl (fun ls hl => ?_)
  refine lv_goto (tgt := 18) hx hb dL_law_1010 (by decide) ?_
  exact hk_18 _ _ _ _ _ hf p e s m below meth c _ _ _ _ _ EL hR hS (lv_sub hl [1, 2, 3, 0] rfl) (show cells + (kc_18) ≤ 600000 by omega) (show slots + (ks_18) ≤ 7302250 by omega)
set_option maxRecDepth 100000 in
def f_L_law_18 (L : Nat) (xs : Nat → Int32) : Nat → Nat → Nat → Int32 → Mm → Option (Int32 × Mm)
  | 0, _, _, _, _ => none
  | n + 1, v1, v2, v3, σ =>
    if ((Int32.ofNat L) - (4 : Int32)) < v3 then (some ((1 : Int32), σ)) else (zck (kS L v3) (if ((xs (v3).toNatClampNeg) &&& (31 : Int32)) = (0 : Int32) then (zck (kS L (v3 + (1 : Int32))) (zck (kS L (v3 + (2 : Int32))) (zck (kO σ v1 8) (zcb (f_X8_put v1 (xs ((v3 + (1 : Int32))).toNatClampNeg) (xs ((v3 + (2 : Int32))).toNatClampNeg) σ) (fun r8 σ9 => zck (kS L (v3 + (1 : Int32))) (zck (kS L (v3 + (2 : Int32))) (zck (kO σ9 v2 9) (zcb (f_X9_put v2 (xs ((v3 + (1 : Int32))).toNatClampNeg) (xs ((v3 + (2 : Int32))).toNatClampNeg) σ9) (fun r13 σ14 => if r8 = r13 then (f_L_law_1007 L xs (f_L_law_18 L xs n) v1 v2 v3 σ14) else (some ((0 : Int32), σ14))))))))))) else (if ((xs (v3).toNatClampNeg) &&& (31 : Int32)) = (1 : Int32) then (zck (kS L (v3 + (1 : Int32))) (zck (kO σ v1 8) (zcb (f_X8_remove v1 (xs ((v3 + (1 : Int32))).toNatClampNeg) σ) (fun r19 σ20 => zck (kS L (v3 + (1 : Int32))) (zck (kO σ20 v2 9) (zcb (f_X9_remove v2 (xs ((v3 + (1 : Int32))).toNatClampNeg) σ20) (fun r23 σ24 => if r19 = r23 then (f_L_law_1007 L xs (f_L_law_18 L xs n) v1 v2 v3 σ24) else (some ((0 : Int32), σ24))))))))) else (if ((xs (v3).toNatClampNeg) &&& (31 : Int32)) = (2 : Int32) then (zck (kS L (v3 + (1 : Int32))) (zck (kO σ v1 8) (zcb (f_X8_get v1 (xs ((v3 + (1 : Int32))).toNatClampNeg) σ) (fun r29 σ30 => zck (kS L (v3 + (1 : Int32))) (zck (kO σ30 v2 9) (zcb (f_X9_get v2 (xs ((v3 + (1 : Int32))).toNatClampNeg) σ30) (fun r33 σ34 => if r29 = r33 then (f_L_law_1007 L xs (f_L_law_18 L xs n) v1 v2 v3 σ34) else (some ((0 : Int32), σ34))))))))) else (if ((xs (v3).toNatClampNeg) &&& (31 : Int32)) = (3 : Int32) then (zck (kS L (v3 + (1 : Int32))) (zck (kS L (v3 + (2 : Int32))) (zck (kS L (v3 + (3 : Int32))) (zck (kO σ v1 8) (zcb (f_X8_scatter v1 (xs ((v3 + (1 : Int32))).toNatClampNeg) (((((xs ((v3 + (2 : Int32))).toNatClampNeg)).toInt64) <<< ((32 : Int32).toInt64 &&& 63)) ||| ((((xs ((v3 + (3 : Int32))).toNatClampNeg)).toInt64) &&& (4294967295 : Int64))) σ) (fun r41 σ42 => zck (kS L (v3 + (1 : Int32))) (zck (kS L (v3 + (2 : Int32))) (zck (kS L (v3 + (3 : Int32))) (zck (kO σ42 v2 9) (zcb (f_X9_scatter v2 (xs ((v3 + (1 : Int32))).toNatClampNeg) (((((xs ((v3 + (2 : Int32))).toNatClampNeg)).toInt64) <<< ((32 : Int32).toInt64 &&& 63)) ||| ((((xs ((v3 + (3 : Int32))).toNatClampNeg)).toInt64) &&& (4294967295 : Int64))) σ42) (fun r47 σ48 => if r41 = r47 then (f_L_law_1007 L xs (f_L_law_18 L xs n) v1 v2 v3 σ48) else (some ((0 : Int32), σ48))))))))))))) else (if ((xs (v3).toNatClampNeg) &&& (31 : Int32)) = (4 : Int32) then (zck (kO σ v1 8) (zcb (f_X8_undo v1 σ) (fun r52 σ53 => zck (kO σ53 v2 9) (zcb (f_X9_undo v2 σ53) (fun r55 σ56 => if r52 = r55 then (f_L_law_1007 L xs (f_L_law_18 L xs n) v1 v2 v3 σ56) else (some ((0 : Int32), σ56))))))) else (if ((xs (v3).toNatClampNeg) &&& (31 : Int32)) = (5 : Int32) then (zck (kS L (v3 + (1 : Int32))) (zck (kO σ v1 8) (zcb (f_X8_about v1 (xs ((v3 + (1 : Int32))).toNatClampNeg) σ) (fun r61 σ62 => zck (kS L (v3 + (1 : Int32))) (zck (kO σ62 v2 9) (zcb (f_X9_about v2 (xs ((v3 + (1 : Int32))).toNatClampNeg) σ62) (fun r65 σ66 => if r61 = r65 then (f_L_law_1007 L xs (f_L_law_18 L xs n) v1 v2 v3 σ66) else (some ((0 : Int32), σ66))))))))) else (if ((xs (v3).toNatClampNeg) &&& (31 : Int32)) = (6 : Int32) then (zck (kS L (v3 + (1 : Int32))) (zck (kS L (v3 + (2 : Int32))) (zck (kO σ v1 8) (zcb (f_X8_node v1 (xs ((v3 + (1 : Int32))).toNatClampNeg) (xs ((v3 + (2 : Int32))).toNatClampNeg) σ) (fun r72 σ73 => zck (kS L (v3 + (1 : Int32))) (zck (kS L (v3 + (2 : Int32))) (zck (kO σ73 v2 9) (zcb (f_X9_node v2 (xs ((v3 + (1 : Int32))).toNatClampNeg) (xs ((v3 + (2 : Int32))).toNatClampNeg) σ73) (fun r77 σ78 => if r72 = r77 then (f_L_law_1007 L xs (f_L_law_18 L xs n) v1 v2 v3 σ78) else (some ((0 : Int32), σ78))))))))))) else (if ((xs (v3).toNatClampNeg) &&& (31 : Int32)) = (7 : Int32) then (zck (kS L (v3 + (1 : Int32))) (zck (kO σ v1 8) (zcb (f_X8_rank v1 (xs ((v3 + (1 : Int32))).toNatClampNeg) σ) (fun r83 σ84 => zck (kS L (v3 + (1 : Int32))) (zck (kO σ84 v2 9) (zcb (f_X9_rank v2 (xs ((v3 + (1 : Int32))).toNatClampNeg) σ84) (fun r87 σ88 => if r83 = r87 then (f_L_law_1007 L xs (f_L_law_18 L xs n) v1 v2 v3 σ88) else (some ((0 : Int32), σ88))))))))) else (if ((xs (v3).toNatClampNeg) &&& (31 : Int32)) = (8 : Int32) then (zck (kS L (v3 + (1 : Int32))) (zck (kS L (v3 + (2 : Int32))) (zck (kS L (v3 + (3 : Int32))) (zck (kO σ v1 8) (zcb (f_X8_proof v1 (xs ((v3 + (1 : Int32))).toNatClampNeg) (xs ((v3 + (2 : Int32))).toNatClampNeg) (xs ((v3 + (3 : Int32))).toNatClampNeg) σ) (fun r95 σ96 => zck (kS L (v3 + (1 : Int32))) (zck (kS L (v3 + (2 : Int32))) (zck (kS L (v3 + (3 : Int32))) (zck (kO σ96 v2 9) (zcb (f_X9_proof v2 (xs ((v3 + (1 : Int32))).toNatClampNeg) (xs ((v3 + (2 : Int32))).toNatClampNeg) (xs ((v3 + (3 : Int32))).toNatClampNeg) σ96) (fun r101 σ102 => if r95 = r101 then (f_L_law_1007 L xs (f_L_law_18 L xs n) v1 v2 v3 σ102) else (some ((0 : Int32), σ102))))))))))))) else (if ((xs (v3).toNatClampNeg) &&& (31 : Int32)) = (9 : Int32) then (zck (kS L (v3 + (1 : Int32))) (zck (kS L (v3 + (2 : Int32))) (zck (kS L (v3 + (3 : Int32))) (zck (kO σ v1 8) (zcb (f_X8_item v1 (xs ((v3 + (1 : Int32))).toNatClampNeg) (xs ((v3 + (2 : Int32))).toNatClampNeg) (xs ((v3 + (3 : Int32))).toNatClampNeg) σ) (fun r109 σ110 => zck (kS L (v3 + (1 : Int32))) (zck (kS L (v3 + (2 : Int32))) (zck (kS L (v3 + (3 : Int32))) (zck (kO σ110 v2 9) (zcb (f_X9_item v2 (xs ((v3 + (1 : Int32))).toNatClampNeg) (xs ((v3 + (2 : Int32))).toNatClampNeg) (xs ((v3 + (3 : Int32))).toNatClampNeg) σ110) (fun r115 σ116 => if r109 = r115 then (f_L_law_1007 L xs (f_L_law_18 L xs n) v1 v2 v3 σ116) else (some ((0 : Int32), σ116))))))))))))) else (if ((xs (v3).toNatClampNeg) &&& (31 : Int32)) = (10 : Int32) then (zck (kS L (v3 + (1 : Int32))) (zck (kS L (v3 + (2 : Int32))) (zck (kO σ v1 8) (zcb (f_X8_lengths v1 (xs ((v3 + (1 : Int32))).toNatClampNeg) (xs ((v3 + (2 : Int32))).toNatClampNeg) σ) (fun r122 σ123 => zck (kS L (v3 + (1 : Int32))) (zck (kS L (v3 + (2 : Int32))) (zck (kO σ123 v2 9) (zcb (f_X9_lengths v2 (xs ((v3 + (1 : Int32))).toNatClampNeg) (xs ((v3 + (2 : Int32))).toNatClampNeg) σ123) (fun r127 σ128 => if r122 = r127 then (f_L_law_1007 L xs (f_L_law_18 L xs n) v1 v2 v3 σ128) else (some ((0 : Int32), σ128))))))))))) else (if ((xs (v3).toNatClampNeg) &&& (31 : Int32)) = (11 : Int32) then (zck (kS L (v3 + (1 : Int32))) (zck (kS L (v3 + (2 : Int32))) (zck (kO σ v1 8) (zcb (f_X8_send v1 (xs ((v3 + (1 : Int32))).toNatClampNeg) (xs ((v3 + (2 : Int32))).toNatClampNeg) σ) (fun r134 σ135 => zck (kS L (v3 + (1 : Int32))) (zck (kS L (v3 + (2 : Int32))) (zck (kO σ135 v2 9) (zcb (f_X9_send v2 (xs ((v3 + (1 : Int32))).toNatClampNeg) (xs ((v3 + (2 : Int32))).toNatClampNeg) σ135) (fun r139 σ140 => if r134 = r139 then (f_L_law_1007 L xs (f_L_law_18 L xs n) v1 v2 v3 σ140) else (some ((0 : Int32), σ140))))))))))) else (if ((xs (v3).toNatClampNeg) &&& (31 : Int32)) = (12 : Int32) then (zck (kS L (v3 + (1 : Int32))) (zck (kO σ v1 8) (zcb (f_X8_tell v1 (xs ((v3 + (1 : Int32))).toNatClampNeg) σ) (fun r145 σ146 => zck (kS L (v3 + (1 : Int32))) (zck (kO σ146 v2 9) (zcb (f_X9_tell v2 (xs ((v3 + (1 : Int32))).toNatClampNeg) σ146) (fun r149 σ150 => if r145 = r149 then (f_L_law_1007 L xs (f_L_law_18 L xs n) v1 v2 v3 σ150) else (some ((0 : Int32), σ150))))))))) else (if ((xs (v3).toNatClampNeg) &&& (31 : Int32)) = (13 : Int32) then (zck (kS L (v3 + (1 : Int32))) (zck (kS L (v3 + (2 : Int32))) (zck (kO σ v1 8) (zcb (f_X8_alter v1 (xs ((v3 + (1 : Int32))).toNatClampNeg) (xs ((v3 + (2 : Int32))).toNatClampNeg) σ) (fun r156 σ157 => zck (kS L (v3 + (1 : Int32))) (zck (kS L (v3 + (2 : Int32))) (zck (kO σ157 v2 9) (zcb (f_X9_alter v2 (xs ((v3 + (1 : Int32))).toNatClampNeg) (xs ((v3 + (2 : Int32))).toNatClampNeg) σ157) (fun r161 σ162 => if r156 = r161 then (f_L_law_1007 L xs (f_L_law_18 L xs n) v1 v2 v3 σ162) else (some ((0 : Int32), σ162))))))))))) else (if ((xs (v3).toNatClampNeg) &&& (31 : Int32)) = (14 : Int32) then (zck (kS L (v3 + (1 : Int32))) (zck (kO σ v1 8) (zcb (f_X8_cut v1 (xs ((v3 + (1 : Int32))).toNatClampNeg) σ) (fun r167 σ168 => zck (kS L (v3 + (1 : Int32))) (zck (kO σ168 v2 9) (zcb (f_X9_cut v2 (xs ((v3 + (1 : Int32))).toNatClampNeg) σ168) (fun r171 σ172 => if r167 = r171 then (f_L_law_1007 L xs (f_L_law_18 L xs n) v1 v2 v3 σ172) else (some ((0 : Int32), σ172))))))))) else (if ((xs (v3).toNatClampNeg) &&& (31 : Int32)) = (15 : Int32) then (zck (kO σ v1 8) (zcb (f_X8_trust v1 σ) (fun r176 σ177 => zck (kO σ177 v2 9) (zcb (f_X9_trust v2 σ177) (fun r179 σ180 => if r176 = r179 then (f_L_law_1007 L xs (f_L_law_18 L xs n) v1 v2 v3 σ180) else (some ((0 : Int32), σ180))))))) else (if ((xs (v3).toNatClampNeg) &&& (31 : Int32)) = (16 : Int32) then (zck (kS L (v3 + (1 : Int32))) (zck (kO σ v1 8) (zcb (f_X8_believe v1 (xs ((v3 + (1 : Int32))).toNatClampNeg) σ) (fun r185 σ186 => zck (kS L (v3 + (1 : Int32))) (zck (kO σ186 v2 9) (zcb (f_X9_believe v2 (xs ((v3 + (1 : Int32))).toNatClampNeg) σ186) (fun r189 σ190 => if r185 = r189 then (f_L_law_1007 L xs (f_L_law_18 L xs n) v1 v2 v3 σ190) else (some ((0 : Int32), σ190))))))))) else (if ((xs (v3).toNatClampNeg) &&& (31 : Int32)) = (17 : Int32) then (zck (kS L (v3 + (1 : Int32))) (zck (kS L (v3 + (2 : Int32))) (zck (kO σ v1 8) (zcb (f_X8_read v1 (xs ((v3 + (1 : Int32))).toNatClampNeg) (xs ((v3 + (2 : Int32))).toNatClampNeg) σ) (fun r196 σ197 => zck (kS L (v3 + (1 : Int32))) (zck (kS L (v3 + (2 : Int32))) (zck (kO σ197 v2 9) (zcb (f_X9_read v2 (xs ((v3 + (1 : Int32))).toNatClampNeg) (xs ((v3 + (2 : Int32))).toNatClampNeg) σ197) (fun r201 σ202 => if r196 = r201 then (f_L_law_1007 L xs (f_L_law_18 L xs n) v1 v2 v3 σ202) else (some ((0 : Int32), σ202))))))))))) else (if ((xs (v3).toNatClampNeg) &&& (31 : Int32)) = (18 : Int32) then (zck (kS L (v3 + (1 : Int32))) (zck (kS L (v3 + (2 : Int32))) (zck (kS L (v3 + (3 : Int32))) (zck (kO σ v1 8) (zcb (f_X8_learnt v1 (xs ((v3 + (1 : Int32))).toNatClampNeg) (xs ((v3 + (2 : Int32))).toNatClampNeg) (xs ((v3 + (3 : Int32))).toNatClampNeg) σ) (fun r209 σ210 => zck (kS L (v3 + (1 : Int32))) (zck (kS L (v3 + (2 : Int32))) (zck (kS L (v3 + (3 : Int32))) (zck (kO σ210 v2 9) (zcb (f_X9_learnt v2 (xs ((v3 + (1 : Int32))).toNatClampNeg) (xs ((v3 + (2 : Int32))).toNatClampNeg) (xs ((v3 + (3 : Int32))).toNatClampNeg) σ210) (fun r215 σ216 => if r209 = r215 then (f_L_law_1007 L xs (f_L_law_18 L xs n) v1 v2 v3 σ216) else (some ((0 : Int32), σ216))))))))))))) else (if ((xs (v3).toNatClampNeg) &&& (31 : Int32)) = (19 : Int32) then (zck (kS L (v3 + (1 : Int32))) (zck (kS L (v3 + (2 : Int32))) (zck (kS L (v3 + (3 : Int32))) (zck (kO σ v1 8) (zcb (f_X8_found v1 (xs ((v3 + (1 : Int32))).toNatClampNeg) (xs ((v3 + (2 : Int32))).toNatClampNeg) (xs ((v3 + (3 : Int32))).toNatClampNeg) σ) (fun r223 σ224 => zck (kS L (v3 + (1 : Int32))) (zck (kS L (v3 + (2 : Int32))) (zck (kS L (v3 + (3 : Int32))) (zck (kO σ224 v2 9) (zcb (f_X9_found v2 (xs ((v3 + (1 : Int32))).toNatClampNeg) (xs ((v3 + (2 : Int32))).toNatClampNeg) (xs ((v3 + (3 : Int32))).toNatClampNeg) σ224) (fun r229 σ230 => if r223 = r229 then (f_L_law_1007 L xs (f_L_law_18 L xs n) v1 v2 v3 σ230) else (some ((0 : Int32), σ230))))))))))))) else (if ((xs (v3).toNatClampNeg) &&& (31 : Int32)) = (20 : Int32) then (zck (kS L (v3 + (1 : Int32))) (zck (kS L (v3 + (2 : Int32))) (zck (kO σ v1 8) (zcb (f_X8_step v1 (xs ((v3 + (1 : Int32))).toNatClampNeg) (xs ((v3 + (2 : Int32))).toNatClampNeg) σ) (fun r236 σ237 => zck (kS L (v3 + (1 : Int32))) (zck (kS L (v3 + (2 : Int32))) (zck (kO σ237 v2 9) (zcb (f_X9_step v2 (xs ((v3 + (1 : Int32))).toNatClampNeg) (xs ((v3 + (2 : Int32))).toNatClampNeg) σ237) (fun r241 σ242 => if r236 = r241 then (f_L_law_1007 L xs (f_L_law_18 L xs n) v1 v2 v3 σ242) else (some ((0 : Int32), σ242))))))))))) else (if ((xs (v3).toNatClampNeg) &&& (31 : Int32)) = (21 : Int32) then (zck (kS L (v3 + (1 : Int32))) (zck (kS L (v3 + (2 : Int32))) (zck (kO σ v1 8) (zcb (f_X8_follow v1 (xs ((v3 + (1 : Int32))).toNatClampNeg) (xs ((v3 + (2 : Int32))).toNatClampNeg) σ) (fun r248 σ249 => zck (kS L (v3 + (1 : Int32))) (zck (kS L (v3 + (2 : Int32))) (zck (kO σ249 v2 9) (zcb (f_X9_follow v2 (xs ((v3 + (1 : Int32))).toNatClampNeg) (xs ((v3 + (2 : Int32))).toNatClampNeg) σ249) (fun r253 σ254 => if r248 = r253 then (f_L_law_1007 L xs (f_L_law_18 L xs n) v1 v2 v3 σ254) else (some ((0 : Int32), σ254))))))))))) else (if ((xs (v3).toNatClampNeg) &&& (31 : Int32)) = (22 : Int32) then (zck (kS L (v3 + (1 : Int32))) (zck (kO σ v1 8) (zcb (f_X8_former v1 (xs ((v3 + (1 : Int32))).toNatClampNeg) σ) (fun r259 σ260 => zck (kS L (v3 + (1 : Int32))) (zck (kO σ260 v2 9) (zcb (f_X9_former v2 (xs ((v3 + (1 : Int32))).toNatClampNeg) σ260) (fun r263 σ264 => if r259 = r263 then (f_L_law_1007 L xs (f_L_law_18 L xs n) v1 v2 v3 σ264) else (some ((0 : Int32), σ264))))))))) else (if ((xs (v3).toNatClampNeg) &&& (31 : Int32)) = (23 : Int32) then (zck (kS L (v3 + (1 : Int32))) (zck (kS L (v3 + (2 : Int32))) (zck (kS L (v3 + (3 : Int32))) (zck (kO σ v1 8) (zcb (f_X8_judge v1 (xs ((v3 + (1 : Int32))).toNatClampNeg) (((((xs ((v3 + (2 : Int32))).toNatClampNeg)).toInt64) <<< ((32 : Int32).toInt64 &&& 63)) ||| ((((xs ((v3 + (3 : Int32))).toNatClampNeg)).toInt64) &&& (4294967295 : Int64))) σ) (fun r271 σ272 => zck (kS L (v3 + (1 : Int32))) (zck (kS L (v3 + (2 : Int32))) (zck (kS L (v3 + (3 : Int32))) (zck (kO σ272 v2 9) (zcb (f_X9_judge v2 (xs ((v3 + (1 : Int32))).toNatClampNeg) (((((xs ((v3 + (2 : Int32))).toNatClampNeg)).toInt64) <<< ((32 : Int32).toInt64 &&& 63)) ||| ((((xs ((v3 + (3 : Int32))).toNatClampNeg)).toInt64) &&& (4294967295 : Int64))) σ272) (fun r277 σ278 => if r271 = r277 then (f_L_law_1007 L xs (f_L_law_18 L xs n) v1 v2 v3 σ278) else (some ((0 : Int32), σ278))))))))))))) else (if ((xs (v3).toNatClampNeg) &&& (31 : Int32)) = (24 : Int32) then (zck (kS L (v3 + (1 : Int32))) (zck (kO σ v1 8) (zcb (f_X8_keep v1 (xs ((v3 + (1 : Int32))).toNatClampNeg) σ) (fun r283 σ284 => zck (kS L (v3 + (1 : Int32))) (zck (kO σ284 v2 9) (zcb (f_X9_keep v2 (xs ((v3 + (1 : Int32))).toNatClampNeg) σ284) (fun r287 σ288 => if r283 = r287 then (f_L_law_1007 L xs (f_L_law_18 L xs n) v1 v2 v3 σ288) else (some ((0 : Int32), σ288))))))))) else (if ((xs (v3).toNatClampNeg) &&& (31 : Int32)) = (25 : Int32) then (zck (kS L (v3 + (1 : Int32))) (zck (kO σ v1 8) (zcb (f_X8_again v1 (xs ((v3 + (1 : Int32))).toNatClampNeg) σ) (fun r293 σ294 => zck (kS L (v3 + (1 : Int32))) (zck (kO σ294 v2 9) (zcb (f_X9_again v2 (xs ((v3 + (1 : Int32))).toNatClampNeg) σ294) (fun r297 σ298 => if r293 = r297 then (f_L_law_1007 L xs (f_L_law_18 L xs n) v1 v2 v3 σ298) else (some ((0 : Int32), σ298))))))))) else (if ((xs (v3).toNatClampNeg) &&& (31 : Int32)) = (26 : Int32) then (zck (kS L (v3 + (1 : Int32))) (zck (kS L (v3 + (2 : Int32))) (zck (kO σ v1 8) (zcb (f_X8_differ v1 (xs ((v3 + (1 : Int32))).toNatClampNeg) (xs ((v3 + (2 : Int32))).toNatClampNeg) σ) (fun r304 σ305 => zck (kS L (v3 + (1 : Int32))) (zck (kS L (v3 + (2 : Int32))) (zck (kO σ305 v2 9) (zcb (f_X9_differ v2 (xs ((v3 + (1 : Int32))).toNatClampNeg) (xs ((v3 + (2 : Int32))).toNatClampNeg) σ305) (fun r309 σ310 => if r304 = r309 then (f_L_law_1007 L xs (f_L_law_18 L xs n) v1 v2 v3 σ310) else (some ((0 : Int32), σ310))))))))))) else (f_L_law_1007 L xs (f_L_law_18 L xs n) v1 v2 v3 σ)))))))))))))))))))))))))))))
set_option maxRecDepth 100000 in
set_option maxHeartbeats 8000000 in
theorem V_L_law_18 {g : GG} {b L : Nat} {xs : Nat → Int32} : ∀ (n : Nat) (v1 : Nat) (v2 : Nat) (v3 : Int32) (σ : Mm) (σ' : Mm), f_L_law_18 L xs n v1 v2 v3 σ = some (1, σ') → VL b L xs g (n * 101 + 101) (n * 404 + 404) 18 [(0, .ref b), (1, .ref (gB g + v1)), (2, .ref (gB g + v2)), (3, .int v3)] [] σ := by
  intro n
  induction n with
  | zero =>
    intro v1 v2 v3 σ σ' hf
    unfold f_L_law_18 at hf
    cases hf
  | succ n ih =>
    intro v1 v2 v3 σ σ' hf p e s m below meth c H locs cells slots ls EL hR hS hl hc hs
    have hc : cells + ((n + 1) * 101 + 101) ≤ 600000 := hc
    have hs : slots + ((n + 1) * 404 + 404) ≤ 7302250 := hs
    obtain ⟨E, hgB, hX, hbl⟩ := id EL
    obtain ⟨hx, hb, hml, hr, hlocks, hown, hts, hin, hT⟩ := id E
    have hbA : ¬ aA g b := by show ¬ gB g ≤ b; omega
    unfold f_L_law_18 at hf
    refine lv_iload_n hx hb dL_law_18 rfl (lv_at hl 3 rfl) ?_
    refine lv_aload_n hx hb dL_law_19 rfl (lv_at hl 0 rfl) ?_
    refine va_slen hx hb hX hbl hbA hS dL_law_20 ?_
    refine lv_iconst (v := (4 : Int32)) hx hb dL_law_21 rfl ?_
    refine lv_isub hx hb dL_law_22 ?_
    refine lv_icmp_gt (tgt := 1013) hx hb dL_law_23 (by decide) (fun hq1 => ?_) (fun hq1 => ?_)
    · have hf := ite_p hq1 hf
      refine lv_iconst (v := (1 : Int32)) hx hb dL_law_1013 rfl ?_
      refine va_forget (fun q hq => by have := hS.2.2 q hq; have : gB g ≤ q.base := this; omega) ?_
      refine W.widen (k := 600000) (n := 7302250) (show cells ≤ 600000 by omega) (show slots ≤ 7302250 by omega) ?_
      exact lw_ret hx hb hr hlocks dL_law_1014
    · have hf := ite_n hq1 hf
      refine lv_aload_n hx hb dL_law_26 rfl (lv_at hl 0 rfl) ?_
      refine lv_iload_n hx hb dL_law_27 rfl (lv_at hl 3 rfl) ?_
      obtain ⟨hk2, hf⟩ := zc_s hf
      refine va_sld hx hb hX hbl hbA hS (kS_s hk2) dL_law_28 ?_
      refine lv_bipush (v := (31 : Int32)) hx hb dL_law_29 rfl ?_
      refine lv_iand hx hb dL_law_31 ?_
      refine lv_topi (fun x3 ex => ?_)
      rw [← ex] at hf
      by_cases hq4 : x3 = (0 : Int32)
      · have hf := ite_p hq4 hf
        refine lv_tableIn (tgt := 156) (off := 124) hx hb dL_law_32 (by rw [hq4]; decide) (by rw [hq4]; decide) (by rw [hq4]; decide) (by decide) ?_
        refine lv_aload_n hx hb dL_law_156 rfl (lv_at hl 1 rfl) ?_
        refine lv_aload_n hx hb dL_law_157 rfl (lv_at hl 0 rfl) ?_
        refine lv_iload_n hx hb dL_law_158 rfl (lv_at hl 3 rfl) ?_
        refine lv_iconst (v := (1 : Int32)) hx hb dL_law_159 rfl ?_
        refine lv_iadd hx hb dL_law_160 ?_
        obtain ⟨hk5, hf⟩ := zc_s hf
        refine va_sld hx hb hX hbl hbA hS (kS_s hk5) dL_law_161 ?_
        refine lv_aload_n hx hb dL_law_162 rfl (lv_at hl 0 rfl) ?_
        refine lv_iload_n hx hb dL_law_163 rfl (lv_at hl 3 rfl) ?_
        refine lv_iconst (v := (2 : Int32)) hx hb dL_law_164 rfl ?_
        refine lv_iadd hx hb dL_law_165 ?_
        obtain ⟨hk6, hf⟩ := zc_s hf
        refine va_sld hx hb hX hbl hbA hS (kS_s hk6) dL_law_166 ?_
        obtain ⟨hk7, hf⟩ := zc_s hf
        obtain ⟨r8, σ9, hcr8, hf⟩ := zq_s hf
        refine xV (As := [.int (xs ((v3 + (1 : Int32))).toNatClampNeg), .int (xs ((v3 + (2 : Int32))).toNatClampNeg)]) (rest := []) (st1 := [.int r8]) E hR hS hl (C_X8_put hcr8) hk7 ok8 lb_X8_put lv_X8_put ml_L_13 ⟨Nat.le_of_ble_eq_true rfl, Nat.le_of_ble_eq_true rfl⟩ rfl rfl rfl (Nat.le_of_ble_eq_true rfl) dL_law_167 ⟨show cells + 0 ≤ 600000 by omega, show slots + 0 ≤ 7302250 by omega⟩ (fun H locs hR hS => ?_)
        refine lv_aload_n hx hb dL_law_170 rfl (lv_at hl 2 rfl) ?_
        refine lv_aload_n hx hb dL_law_171 rfl (lv_at hl 0 rfl) ?_
        refine lv_iload_n hx hb dL_law_172 rfl (lv_at hl 3 rfl) ?_
        refine lv_iconst (v := (1 : Int32)) hx hb dL_law_173 rfl ?_
        refine lv_iadd hx hb dL_law_174 ?_
        obtain ⟨hk10, hf⟩ := zc_s hf
        refine va_sld hx hb hX hbl hbA hS (kS_s hk10) dL_law_175 ?_
        refine lv_aload_n hx hb dL_law_176 rfl (lv_at hl 0 rfl) ?_
        refine lv_iload_n hx hb dL_law_177 rfl (lv_at hl 3 rfl) ?_
        refine lv_iconst (v := (2 : Int32)) hx hb dL_law_178 rfl ?_
        refine lv_iadd hx hb dL_law_179 ?_
        obtain ⟨hk11, hf⟩ := zc_s hf
        refine va_sld hx hb hX hbl hbA hS (kS_s hk11) dL_law_180 ?_
        obtain ⟨hk12, hf⟩ := zc_s hf
        obtain ⟨r13, σ14, hcr13, hf⟩ := zq_s hf
        refine xV (As := [.int (xs ((v3 + (1 : Int32))).toNatClampNeg), .int (xs ((v3 + (2 : Int32))).toNatClampNeg)]) (rest := [.int r8]) (st1 := [.int r13, .int r8]) E hR hS hl (C_X9_put hcr13) hk12 ok9 lb_X9_put lv_X9_put ml_L_17 ⟨Nat.le_of_ble_eq_true rfl, Nat.le_of_ble_eq_true rfl⟩ rfl rfl rfl (Nat.le_of_ble_eq_true rfl) dL_law_181 ⟨show cells + 0 + 0 ≤ 600000 by omega, show slots + 0 + 0 ≤ 7302250 by omega⟩ (fun H locs hR hS => ?_)
        refine lv_icmp_eq (tgt := 1007) hx hb dL_law_184 (by decide) (fun hq15 => ?_) (fun hq15 => ?_)
        · have hf := ite_p hq15 hf
          exact V_L_law_1007 _ (n * 101 + 101) (n * 404 + 404) ih _ _ _ _ _ hf (600000 - (cells + 0 + 0)) (7302250 - (slots + 0 + 0)) (by constructor <;> omega) p e s m below meth c _ _ _ _ _ EL hR hS (lv_sub hl [0, 1, 2, 3] rfl) (show cells + 0 + 0 + (600000 - (cells + 0 + 0)) ≤ 600000 by omega) (show slots + 0 + 0 + (7302250 - (slots + 0 + 0)) ≤ 7302250 by omega)
        · have hf := ite_n hq15 hf
          refine lv_iconst (v := (0 : Int32)) hx hb dL_law_187 rfl ?_
          obtain ⟨hr1, hs1⟩ := Prod.mk.inj (Option.some.inj hf)
          exact absurd hr1 (by decide)
      have hf := ite_n hq4 hf
      by_cases hq16 : x3 = (1 : Int32)
      · have hf := ite_p hq16 hf
        refine lv_tableIn (tgt := 189) (off := 157) hx hb dL_law_32 (by rw [hq16]; decide) (by rw [hq16]; decide) (by rw [hq16]; decide) (by decide) ?_
        refine lv_aload_n hx hb dL_law_189 rfl (lv_at hl 1 rfl) ?_
        refine lv_aload_n hx hb dL_law_190 rfl (lv_at hl 0 rfl) ?_
        refine lv_iload_n hx hb dL_law_191 rfl (lv_at hl 3 rfl) ?_
        refine lv_iconst (v := (1 : Int32)) hx hb dL_law_192 rfl ?_
        refine lv_iadd hx hb dL_law_193 ?_
        obtain ⟨hk17, hf⟩ := zc_s hf
        refine va_sld hx hb hX hbl hbA hS (kS_s hk17) dL_law_194 ?_
        obtain ⟨hk18, hf⟩ := zc_s hf
        obtain ⟨r19, σ20, hcr19, hf⟩ := zq_s hf
        refine xV (As := [.int (xs ((v3 + (1 : Int32))).toNatClampNeg)]) (rest := []) (st1 := [.int r19]) E hR hS hl (C_X8_remove hcr19) hk18 ok8 lb_X8_remove lv_X8_remove ml_L_18 ⟨Nat.le_of_ble_eq_true rfl, Nat.le_of_ble_eq_true rfl⟩ rfl rfl rfl (Nat.le_of_ble_eq_true rfl) dL_law_195 ⟨show cells + 0 ≤ 600000 by omega, show slots + 0 ≤ 7302250 by omega⟩ (fun H locs hR hS => ?_)
        refine lv_aload_n hx hb dL_law_198 rfl (lv_at hl 2 rfl) ?_
        refine lv_aload_n hx hb dL_law_199 rfl (lv_at hl 0 rfl) ?_
        refine lv_iload_n hx hb dL_law_200 rfl (lv_at hl 3 rfl) ?_
        refine lv_iconst (v := (1 : Int32)) hx hb dL_law_201 rfl ?_
        refine lv_iadd hx hb dL_law_202 ?_
        obtain ⟨hk21, hf⟩ := zc_s hf
        refine va_sld hx hb hX hbl hbA hS (kS_s hk21) dL_law_203 ?_
        obtain ⟨hk22, hf⟩ := zc_s hf
        obtain ⟨r23, σ24, hcr23, hf⟩ := zq_s hf
        refine xV (As := [.int (xs ((v3 + (1 : Int32))).toNatClampNeg)]) (rest := [.int r19]) (st1 := [.int r23, .int r19]) E hR hS hl (C_X9_remove hcr23) hk22 ok9 lb_X9_remove lv_X9_remove ml_L_22 ⟨Nat.le_of_ble_eq_true rfl, Nat.le_of_ble_eq_true rfl⟩ rfl rfl rfl (Nat.le_of_ble_eq_true rfl) dL_law_204 ⟨show cells + 0 + 0 ≤ 600000 by omega, show slots + 0 + 0 ≤ 7302250 by omega⟩ (fun H locs hR hS => ?_)
        refine lv_icmp_eq (tgt := 1007) hx hb dL_law_207 (by decide) (fun hq25 => ?_) (fun hq25 => ?_)
        · have hf := ite_p hq25 hf
          exact V_L_law_1007 _ (n * 101 + 101) (n * 404 + 404) ih _ _ _ _ _ hf (600000 - (cells + 0 + 0)) (7302250 - (slots + 0 + 0)) (by constructor <;> omega) p e s m below meth c _ _ _ _ _ EL hR hS (lv_sub hl [0, 1, 2, 3] rfl) (show cells + 0 + 0 + (600000 - (cells + 0 + 0)) ≤ 600000 by omega) (show slots + 0 + 0 + (7302250 - (slots + 0 + 0)) ≤ 7302250 by omega)
        · have hf := ite_n hq25 hf
          refine lv_iconst (v := (0 : Int32)) hx hb dL_law_210 rfl ?_
          obtain ⟨hr1, hs1⟩ := Prod.mk.inj (Option.some.inj hf)
          exact absurd hr1 (by decide)
      have hf := ite_n hq16 hf
      by_cases hq26 : x3 = (2 : Int32)
      · have hf := ite_p hq26 hf
        refine lv_tableIn (tgt := 212) (off := 180) hx hb dL_law_32 (by rw [hq26]; decide) (by rw [hq26]; decide) (by rw [hq26]; decide) (by decide) ?_
        refine lv_aload_n hx hb dL_law_212 rfl (lv_at hl 1 rfl) ?_
        refine lv_aload_n hx hb dL_law_213 rfl (lv_at hl 0 rfl) ?_
        refine lv_iload_n hx hb dL_law_214 rfl (lv_at hl 3 rfl) ?_
        refine lv_iconst (v := (1 : Int32)) hx hb dL_law_215 rfl ?_
        refine lv_iadd hx hb dL_law_216 ?_
        obtain ⟨hk27, hf⟩ := zc_s hf
        refine va_sld hx hb hX hbl hbA hS (kS_s hk27) dL_law_217 ?_
        obtain ⟨hk28, hf⟩ := zc_s hf
        obtain ⟨r29, σ30, hcr29, hf⟩ := zq_s hf
        refine xV (As := [.int (xs ((v3 + (1 : Int32))).toNatClampNeg)]) (rest := []) (st1 := [.int r29]) E hR hS hl (C_X8_get hcr29) hk28 ok8 lb_X8_get lv_X8_get ml_L_23 ⟨Nat.le_of_ble_eq_true rfl, Nat.le_of_ble_eq_true rfl⟩ rfl rfl rfl (Nat.le_of_ble_eq_true rfl) dL_law_218 ⟨show cells + 0 ≤ 600000 by omega, show slots + 0 ≤ 7302250 by omega⟩ (fun H locs hR hS => ?_)
        refine lv_aload_n hx hb dL_law_221 rfl (lv_at hl 2 rfl) ?_
        refine lv_aload_n hx hb dL_law_222 rfl (lv_at hl 0 rfl) ?_
        refine lv_iload_n hx hb dL_law_223 rfl (lv_at hl 3 rfl) ?_
        refine lv_iconst (v := (1 : Int32)) hx hb dL_law_224 rfl ?_
        refine lv_iadd hx hb dL_law_225 ?_
        obtain ⟨hk31, hf⟩ := zc_s hf
        refine va_sld hx hb hX hbl hbA hS (kS_s hk31) dL_law_226 ?_
        obtain ⟨hk32, hf⟩ := zc_s hf
        obtain ⟨r33, σ34, hcr33, hf⟩ := zq_s hf
        refine xV (As := [.int (xs ((v3 + (1 : Int32))).toNatClampNeg)]) (rest := [.int r29]) (st1 := [.int r33, .int r29]) E hR hS hl (C_X9_get hcr33) hk32 ok9 lb_X9_get lv_X9_get ml_L_26 ⟨Nat.le_of_ble_eq_true rfl, Nat.le_of_ble_eq_true rfl⟩ rfl rfl rfl (Nat.le_of_ble_eq_true rfl) dL_law_227 ⟨show cells + 0 + 0 ≤ 600000 by omega, show slots + 0 + 0 ≤ 7302250 by omega⟩ (fun H locs hR hS => ?_)
        refine lv_icmp_eq (tgt := 1007) hx hb dL_law_230 (by decide) (fun hq35 => ?_) (fun hq35 => ?_)
        · have hf := ite_p hq35 hf
          exact V_L_law_1007 _ (n * 101 + 101) (n * 404 + 404) ih _ _ _ _ _ hf (600000 - (cells + 0 + 0)) (7302250 - (slots + 0 + 0)) (by constructor <;> omega) p e s m below meth c _ _ _ _ _ EL hR hS (lv_sub hl [0, 1, 2, 3] rfl) (show cells + 0 + 0 + (600000 - (cells + 0 + 0)) ≤ 600000 by omega) (show slots + 0 + 0 + (7302250 - (slots + 0 + 0)) ≤ 7302250 by omega)
        · have hf := ite_n hq35 hf
          refine lv_iconst (v := (0 : Int32)) hx hb dL_law_233 rfl ?_
          obtain ⟨hr1, hs1⟩ := Prod.mk.inj (Option.some.inj hf)
          exact absurd hr1 (by decide)
      have hf := ite_n hq26 hf
      by_cases hq36 : x3 = (3 : Int32)
      · have hf := ite_p hq36 hf
        refine lv_tableIn (tgt := 235) (off := 203) hx hb dL_law_32 (by rw [hq36]; decide) (by rw [hq36]; decide) (by rw [hq36]; decide) (by decide) ?_
        refine lv_aload_n hx hb dL_law_235 rfl (lv_at hl 1 rfl) ?_
        refine lv_aload_n hx hb dL_law_236 rfl (lv_at hl 0 rfl) ?_
        refine lv_iload_n hx hb dL_law_237 rfl (lv_at hl 3 rfl) ?_
        refine lv_iconst (v := (1 : Int32)) hx hb dL_law_238 rfl ?_
        refine lv_iadd hx hb dL_law_239 ?_
        obtain ⟨hk37, hf⟩ := zc_s hf
        refine va_sld hx hb hX hbl hbA hS (kS_s hk37) dL_law_240 ?_
        refine lv_aload_n hx hb dL_law_241 rfl (lv_at hl 0 rfl) ?_
        refine lv_iload_n hx hb dL_law_242 rfl (lv_at hl 3 rfl) ?_
        refine lv_iconst (v := (2 : Int32)) hx hb dL_law_243 rfl ?_
        refine lv_iadd hx hb dL_law_244 ?_
        obtain ⟨hk38, hf⟩ := zc_s hf
        refine va_sld hx hb hX hbl hbA hS (kS_s hk38) dL_law_245 ?_
        refine lv_i2l (v := ((xs ((v3 + (2 : Int32))).toNatClampNeg)).toInt64) hx hb dL_law_246 rfl ?_
        refine lv_bipush (v := (32 : Int32)) hx hb dL_law_247 rfl ?_
        refine lv_lshl (v := ((((xs ((v3 + (2 : Int32))).toNatClampNeg)).toInt64) <<< ((32 : Int32).toInt64 &&& 63))) hx hb dL_law_249 rfl ?_
        refine lv_aload_n hx hb dL_law_250 rfl (lv_at hl 0 rfl) ?_
        refine lv_iload_n hx hb dL_law_251 rfl (lv_at hl 3 rfl) ?_
        refine lv_iconst (v := (3 : Int32)) hx hb dL_law_252 rfl ?_
        refine lv_iadd hx hb dL_law_253 ?_
        obtain ⟨hk39, hf⟩ := zc_s hf
        refine va_sld hx hb hX hbl hbA hS (kS_s hk39) dL_law_254 ?_
        refine lv_i2l (v := ((xs ((v3 + (3 : Int32))).toNatClampNeg)).toInt64) hx hb dL_law_255 rfl ?_
        refine lv_ldc2 (v := (4294967295 : Int64)) hx hb hown (hts _ kl_L_27) dL_law_256 ?_
        refine lv_land hx hb dL_law_259 ?_
        refine lv_lor hx hb dL_law_260 ?_
        obtain ⟨hk40, hf⟩ := zc_s hf
        obtain ⟨r41, σ42, hcr41, hf⟩ := zq_s hf
        refine xV (As := [.int (xs ((v3 + (1 : Int32))).toNatClampNeg), .long (((((xs ((v3 + (2 : Int32))).toNatClampNeg)).toInt64) <<< ((32 : Int32).toInt64 &&& 63)) ||| ((((xs ((v3 + (3 : Int32))).toNatClampNeg)).toInt64) &&& (4294967295 : Int64)))]) (rest := []) (st1 := [.int r41]) E hR hS hl (C_X8_scatter hcr41) hk40 ok8 lb_X8_scatter lv_X8_scatter ml_L_29 ⟨Nat.le_of_ble_eq_true rfl, Nat.le_of_ble_eq_true rfl⟩ rfl rfl rfl (Nat.le_of_ble_eq_true rfl) dL_law_261 ⟨show cells + 0 ≤ 600000 by omega, show slots + 0 ≤ 7302250 by omega⟩ (fun H locs hR hS => ?_)
        refine lv_aload_n hx hb dL_law_264 rfl (lv_at hl 2 rfl) ?_
        refine lv_aload_n hx hb dL_law_265 rfl (lv_at hl 0 rfl) ?_
        refine lv_iload_n hx hb dL_law_266 rfl (lv_at hl 3 rfl) ?_
        refine lv_iconst (v := (1 : Int32)) hx hb dL_law_267 rfl ?_
        refine lv_iadd hx hb dL_law_268 ?_
        obtain ⟨hk43, hf⟩ := zc_s hf
        refine va_sld hx hb hX hbl hbA hS (kS_s hk43) dL_law_269 ?_
        refine lv_aload_n hx hb dL_law_270 rfl (lv_at hl 0 rfl) ?_
        refine lv_iload_n hx hb dL_law_271 rfl (lv_at hl 3 rfl) ?_
        refine lv_iconst (v := (2 : Int32)) hx hb dL_law_272 rfl ?_
        refine lv_iadd hx hb dL_law_273 ?_
        obtain ⟨hk44, hf⟩ := zc_s hf
        refine va_sld hx hb hX hbl hbA hS (kS_s hk44) dL_law_274 ?_
        refine lv_i2l (v := ((xs ((v3 + (2 : Int32))).toNatClampNeg)).toInt64) hx hb dL_law_275 rfl ?_
        refine lv_bipush (v := (32 : Int32)) hx hb dL_law_276 rfl ?_
        refine lv_lshl (v := ((((xs ((v3 + (2 : Int32))).toNatClampNeg)).toInt64) <<< ((32 : Int32).toInt64 &&& 63))) hx hb dL_law_278 rfl ?_
        refine lv_aload_n hx hb dL_law_279 rfl (lv_at hl 0 rfl) ?_
        refine lv_iload_n hx hb dL_law_280 rfl (lv_at hl 3 rfl) ?_
        refine lv_iconst (v := (3 : Int32)) hx hb dL_law_281 rfl ?_
        refine lv_iadd hx hb dL_law_282 ?_
        obtain ⟨hk45, hf⟩ := zc_s hf
        refine va_sld hx hb hX hbl hbA hS (kS_s hk45) dL_law_283 ?_
        refine lv_i2l (v := ((xs ((v3 + (3 : Int32))).toNatClampNeg)).toInt64) hx hb dL_law_284 rfl ?_
        refine lv_ldc2 (v := (4294967295 : Int64)) hx hb hown (hts _ kl_L_27) dL_law_285 ?_
        refine lv_land hx hb dL_law_288 ?_
        refine lv_lor hx hb dL_law_289 ?_
        obtain ⟨hk46, hf⟩ := zc_s hf
        obtain ⟨r47, σ48, hcr47, hf⟩ := zq_s hf
        refine xV (As := [.int (xs ((v3 + (1 : Int32))).toNatClampNeg), .long (((((xs ((v3 + (2 : Int32))).toNatClampNeg)).toInt64) <<< ((32 : Int32).toInt64 &&& 63)) ||| ((((xs ((v3 + (3 : Int32))).toNatClampNeg)).toInt64) &&& (4294967295 : Int64)))]) (rest := [.int r41]) (st1 := [.int r47, .int r41]) E hR hS hl (C_X9_scatter hcr47) hk46 ok9 lb_X9_scatter lv_X9_scatter ml_L_33 ⟨Nat.le_of_ble_eq_true rfl, Nat.le_of_ble_eq_true rfl⟩ rfl rfl rfl (Nat.le_of_ble_eq_true rfl) dL_law_290 ⟨show cells + 0 + 0 ≤ 600000 by omega, show slots + 0 + 0 ≤ 7302250 by omega⟩ (fun H locs hR hS => ?_)
        refine lv_icmp_eq (tgt := 1007) hx hb dL_law_293 (by decide) (fun hq49 => ?_) (fun hq49 => ?_)
        · have hf := ite_p hq49 hf
          exact V_L_law_1007 _ (n * 101 + 101) (n * 404 + 404) ih _ _ _ _ _ hf (600000 - (cells + 0 + 0)) (7302250 - (slots + 0 + 0)) (by constructor <;> omega) p e s m below meth c _ _ _ _ _ EL hR hS (lv_sub hl [0, 1, 2, 3] rfl) (show cells + 0 + 0 + (600000 - (cells + 0 + 0)) ≤ 600000 by omega) (show slots + 0 + 0 + (7302250 - (slots + 0 + 0)) ≤ 7302250 by omega)
        · have hf := ite_n hq49 hf
          refine lv_iconst (v := (0 : Int32)) hx hb dL_law_296 rfl ?_
          obtain ⟨hr1, hs1⟩ := Prod.mk.inj (Option.some.inj hf)
          exact absurd hr1 (by decide)
      have hf := ite_n hq36 hf
      by_cases hq50 : x3 = (4 : Int32)
      · have hf := ite_p hq50 hf
        refine lv_tableIn (tgt := 298) (off := 266) hx hb dL_law_32 (by rw [hq50]; decide) (by rw [hq50]; decide) (by rw [hq50]; decide) (by decide) ?_
        refine lv_aload_n hx hb dL_law_298 rfl (lv_at hl 1 rfl) ?_
        obtain ⟨hk51, hf⟩ := zc_s hf
        obtain ⟨r52, σ53, hcr52, hf⟩ := zq_s hf
        refine xV (As := []) (rest := []) (st1 := [.int r52]) E hR hS hl (C_X8_undo hcr52) hk51 ok8 lb_X8_undo lv_X8_undo ml_L_34 ⟨Nat.le_of_ble_eq_true rfl, Nat.le_of_ble_eq_true rfl⟩ rfl rfl rfl (Nat.le_of_ble_eq_true rfl) dL_law_299 ⟨show cells + 0 ≤ 600000 by omega, show slots + 0 ≤ 7302250 by omega⟩ (fun H locs hR hS => ?_)
        refine lv_aload_n hx hb dL_law_302 rfl (lv_at hl 2 rfl) ?_
        obtain ⟨hk54, hf⟩ := zc_s hf
        obtain ⟨r55, σ56, hcr55, hf⟩ := zq_s hf
        refine xV (As := []) (rest := [.int r52]) (st1 := [.int r55, .int r52]) E hR hS hl (C_X9_undo hcr55) hk54 ok9 lb_X9_undo lv_X9_undo ml_L_38 ⟨Nat.le_of_ble_eq_true rfl, Nat.le_of_ble_eq_true rfl⟩ rfl rfl rfl (Nat.le_of_ble_eq_true rfl) dL_law_303 ⟨show cells + 0 + 0 ≤ 600000 by omega, show slots + 0 + 0 ≤ 7302250 by omega⟩ (fun H locs hR hS => ?_)
        refine lv_icmp_eq (tgt := 1007) hx hb dL_law_306 (by decide) (fun hq57 => ?_) (fun hq57 => ?_)
        · have hf := ite_p hq57 hf
          exact V_L_law_1007 _ (n * 101 + 101) (n * 404 + 404) ih _ _ _ _ _ hf (600000 - (cells + 0 + 0)) (7302250 - (slots + 0 + 0)) (by constructor <;> omega) p e s m below meth c _ _ _ _ _ EL hR hS (lv_sub hl [0, 1, 2, 3] rfl) (show cells + 0 + 0 + (600000 - (cells + 0 + 0)) ≤ 600000 by omega) (show slots + 0 + 0 + (7302250 - (slots + 0 + 0)) ≤ 7302250 by omega)
        · have hf := ite_n hq57 hf
          refine lv_iconst (v := (0 : Int32)) hx hb dL_law_309 rfl ?_
          obtain ⟨hr1, hs1⟩ := Prod.mk.inj (Option.some.inj hf)
          exact absurd hr1 (by decide)
      have hf := ite_n hq50 hf
      by_cases hq58 : x3 = (5 : Int32)
      · have hf := ite_p hq58 hf
        refine lv_tableIn (tgt := 311) (off := 279) hx hb dL_law_32 (by rw [hq58]; decide) (by rw [hq58]; decide) (by rw [hq58]; decide) (by decide) ?_
        refine lv_aload_n hx hb dL_law_311 rfl (lv_at hl 1 rfl) ?_
        refine lv_aload_n hx hb dL_law_312 rfl (lv_at hl 0 rfl) ?_
        refine lv_iload_n hx hb dL_law_313 rfl (lv_at hl 3 rfl) ?_
        refine lv_iconst (v := (1 : Int32)) hx hb dL_law_314 rfl ?_
        refine lv_iadd hx hb dL_law_315 ?_
        obtain ⟨hk59, hf⟩ := zc_s hf
        refine va_sld hx hb hX hbl hbA hS (kS_s hk59) dL_law_316 ?_
        obtain ⟨hk60, hf⟩ := zc_s hf
        obtain ⟨r61, σ62, hcr61, hf⟩ := zq_s hf
        refine xV (As := [.int (xs ((v3 + (1 : Int32))).toNatClampNeg)]) (rest := []) (st1 := [.int r61]) E hR hS hl (C_X8_about hcr61) hk60 ok8 lb_X8_about lv_X8_about ml_L_39 ⟨Nat.le_of_ble_eq_true rfl, Nat.le_of_ble_eq_true rfl⟩ rfl rfl rfl (Nat.le_of_ble_eq_true rfl) dL_law_317 ⟨show cells + 0 ≤ 600000 by omega, show slots + 0 ≤ 7302250 by omega⟩ (fun H locs hR hS => ?_)
        refine lv_aload_n hx hb dL_law_320 rfl (lv_at hl 2 rfl) ?_
        refine lv_aload_n hx hb dL_law_321 rfl (lv_at hl 0 rfl) ?_
        refine lv_iload_n hx hb dL_law_322 rfl (lv_at hl 3 rfl) ?_
        refine lv_iconst (v := (1 : Int32)) hx hb dL_law_323 rfl ?_
        refine lv_iadd hx hb dL_law_324 ?_
        obtain ⟨hk63, hf⟩ := zc_s hf
        refine va_sld hx hb hX hbl hbA hS (kS_s hk63) dL_law_325 ?_
        obtain ⟨hk64, hf⟩ := zc_s hf
        obtain ⟨r65, σ66, hcr65, hf⟩ := zq_s hf
        refine xV (As := [.int (xs ((v3 + (1 : Int32))).toNatClampNeg)]) (rest := [.int r61]) (st1 := [.int r65, .int r61]) E hR hS hl (C_X9_about hcr65) hk64 ok9 lb_X9_about lv_X9_about ml_L_42 ⟨Nat.le_of_ble_eq_true rfl, Nat.le_of_ble_eq_true rfl⟩ rfl rfl rfl (Nat.le_of_ble_eq_true rfl) dL_law_326 ⟨show cells + 0 + 0 ≤ 600000 by omega, show slots + 0 + 0 ≤ 7302250 by omega⟩ (fun H locs hR hS => ?_)
        refine lv_icmp_eq (tgt := 1007) hx hb dL_law_329 (by decide) (fun hq67 => ?_) (fun hq67 => ?_)
        · have hf := ite_p hq67 hf
          exact V_L_law_1007 _ (n * 101 + 101) (n * 404 + 404) ih _ _ _ _ _ hf (600000 - (cells + 0 + 0)) (7302250 - (slots + 0 + 0)) (by constructor <;> omega) p e s m below meth c _ _ _ _ _ EL hR hS (lv_sub hl [0, 1, 2, 3] rfl) (show cells + 0 + 0 + (600000 - (cells + 0 + 0)) ≤ 600000 by omega) (show slots + 0 + 0 + (7302250 - (slots + 0 + 0)) ≤ 7302250 by omega)
        · have hf := ite_n hq67 hf
          refine lv_iconst (v := (0 : Int32)) hx hb dL_law_332 rfl ?_
          obtain ⟨hr1, hs1⟩ := Prod.mk.inj (Option.some.inj hf)
          exact absurd hr1 (by decide)
      have hf := ite_n hq58 hf
      by_cases hq68 : x3 = (6 : Int32)
      · have hf := ite_p hq68 hf
        refine lv_tableIn (tgt := 334) (off := 302) hx hb dL_law_32 (by rw [hq68]; decide) (by rw [hq68]; decide) (by rw [hq68]; decide) (by decide) ?_
        refine lv_aload_n hx hb dL_law_334 rfl (lv_at hl 1 rfl) ?_
        refine lv_aload_n hx hb dL_law_335 rfl (lv_at hl 0 rfl) ?_
        refine lv_iload_n hx hb dL_law_336 rfl (lv_at hl 3 rfl) ?_
        refine lv_iconst (v := (1 : Int32)) hx hb dL_law_337 rfl ?_
        refine lv_iadd hx hb dL_law_338 ?_
        obtain ⟨hk69, hf⟩ := zc_s hf
        refine va_sld hx hb hX hbl hbA hS (kS_s hk69) dL_law_339 ?_
        refine lv_aload_n hx hb dL_law_340 rfl (lv_at hl 0 rfl) ?_
        refine lv_iload_n hx hb dL_law_341 rfl (lv_at hl 3 rfl) ?_
        refine lv_iconst (v := (2 : Int32)) hx hb dL_law_342 rfl ?_
        refine lv_iadd hx hb dL_law_343 ?_
        obtain ⟨hk70, hf⟩ := zc_s hf
        refine va_sld hx hb hX hbl hbA hS (kS_s hk70) dL_law_344 ?_
        obtain ⟨hk71, hf⟩ := zc_s hf
        obtain ⟨r72, σ73, hcr72, hf⟩ := zq_s hf
        refine xV (As := [.int (xs ((v3 + (1 : Int32))).toNatClampNeg), .int (xs ((v3 + (2 : Int32))).toNatClampNeg)]) (rest := []) (st1 := [.int r72]) E hR hS hl (C_X8_node hcr72) hk71 ok8 lb_X8_node lv_X8_node ml_L_43 ⟨Nat.le_of_ble_eq_true rfl, Nat.le_of_ble_eq_true rfl⟩ rfl rfl rfl (Nat.le_of_ble_eq_true rfl) dL_law_345 ⟨show cells + 1 ≤ 600000 by omega, show slots + 4 ≤ 7302250 by omega⟩ (fun H locs hR hS => ?_)
        refine lv_aload_n hx hb dL_law_348 rfl (lv_at hl 2 rfl) ?_
        refine lv_aload_n hx hb dL_law_349 rfl (lv_at hl 0 rfl) ?_
        refine lv_iload_n hx hb dL_law_350 rfl (lv_at hl 3 rfl) ?_
        refine lv_iconst (v := (1 : Int32)) hx hb dL_law_351 rfl ?_
        refine lv_iadd hx hb dL_law_352 ?_
        obtain ⟨hk74, hf⟩ := zc_s hf
        refine va_sld hx hb hX hbl hbA hS (kS_s hk74) dL_law_353 ?_
        refine lv_aload_n hx hb dL_law_354 rfl (lv_at hl 0 rfl) ?_
        refine lv_iload_n hx hb dL_law_355 rfl (lv_at hl 3 rfl) ?_
        refine lv_iconst (v := (2 : Int32)) hx hb dL_law_356 rfl ?_
        refine lv_iadd hx hb dL_law_357 ?_
        obtain ⟨hk75, hf⟩ := zc_s hf
        refine va_sld hx hb hX hbl hbA hS (kS_s hk75) dL_law_358 ?_
        obtain ⟨hk76, hf⟩ := zc_s hf
        obtain ⟨r77, σ78, hcr77, hf⟩ := zq_s hf
        refine xV (As := [.int (xs ((v3 + (1 : Int32))).toNatClampNeg), .int (xs ((v3 + (2 : Int32))).toNatClampNeg)]) (rest := [.int r72]) (st1 := [.int r77, .int r72]) E hR hS hl (C_X9_node hcr77) hk76 ok9 lb_X9_node lv_X9_node ml_L_46 ⟨Nat.le_of_ble_eq_true rfl, Nat.le_of_ble_eq_true rfl⟩ rfl rfl rfl (Nat.le_of_ble_eq_true rfl) dL_law_359 ⟨show cells + 1 + 0 ≤ 600000 by omega, show slots + 4 + 0 ≤ 7302250 by omega⟩ (fun H locs hR hS => ?_)
        refine lv_icmp_eq (tgt := 1007) hx hb dL_law_362 (by decide) (fun hq79 => ?_) (fun hq79 => ?_)
        · have hf := ite_p hq79 hf
          exact V_L_law_1007 _ (n * 101 + 101) (n * 404 + 404) ih _ _ _ _ _ hf (600000 - (cells + 1 + 0)) (7302250 - (slots + 4 + 0)) (by constructor <;> omega) p e s m below meth c _ _ _ _ _ EL hR hS (lv_sub hl [0, 1, 2, 3] rfl) (show cells + 1 + 0 + (600000 - (cells + 1 + 0)) ≤ 600000 by omega) (show slots + 4 + 0 + (7302250 - (slots + 4 + 0)) ≤ 7302250 by omega)
        · have hf := ite_n hq79 hf
          refine lv_iconst (v := (0 : Int32)) hx hb dL_law_365 rfl ?_
          obtain ⟨hr1, hs1⟩ := Prod.mk.inj (Option.some.inj hf)
          exact absurd hr1 (by decide)
      have hf := ite_n hq68 hf
      by_cases hq80 : x3 = (7 : Int32)
      · have hf := ite_p hq80 hf
        refine lv_tableIn (tgt := 367) (off := 335) hx hb dL_law_32 (by rw [hq80]; decide) (by rw [hq80]; decide) (by rw [hq80]; decide) (by decide) ?_
        refine lv_aload_n hx hb dL_law_367 rfl (lv_at hl 1 rfl) ?_
        refine lv_aload_n hx hb dL_law_368 rfl (lv_at hl 0 rfl) ?_
        refine lv_iload_n hx hb dL_law_369 rfl (lv_at hl 3 rfl) ?_
        refine lv_iconst (v := (1 : Int32)) hx hb dL_law_370 rfl ?_
        refine lv_iadd hx hb dL_law_371 ?_
        obtain ⟨hk81, hf⟩ := zc_s hf
        refine va_sld hx hb hX hbl hbA hS (kS_s hk81) dL_law_372 ?_
        obtain ⟨hk82, hf⟩ := zc_s hf
        obtain ⟨r83, σ84, hcr83, hf⟩ := zq_s hf
        refine xV (As := [.int (xs ((v3 + (1 : Int32))).toNatClampNeg)]) (rest := []) (st1 := [.int r83]) E hR hS hl (C_X8_rank hcr83) hk82 ok8 lb_X8_rank lv_X8_rank ml_L_47 ⟨Nat.le_of_ble_eq_true rfl, Nat.le_of_ble_eq_true rfl⟩ rfl rfl rfl (Nat.le_of_ble_eq_true rfl) dL_law_373 ⟨show cells + 0 ≤ 600000 by omega, show slots + 0 ≤ 7302250 by omega⟩ (fun H locs hR hS => ?_)
        refine lv_aload_n hx hb dL_law_376 rfl (lv_at hl 2 rfl) ?_
        refine lv_aload_n hx hb dL_law_377 rfl (lv_at hl 0 rfl) ?_
        refine lv_iload_n hx hb dL_law_378 rfl (lv_at hl 3 rfl) ?_
        refine lv_iconst (v := (1 : Int32)) hx hb dL_law_379 rfl ?_
        refine lv_iadd hx hb dL_law_380 ?_
        obtain ⟨hk85, hf⟩ := zc_s hf
        refine va_sld hx hb hX hbl hbA hS (kS_s hk85) dL_law_381 ?_
        obtain ⟨hk86, hf⟩ := zc_s hf
        obtain ⟨r87, σ88, hcr87, hf⟩ := zq_s hf
        refine xV (As := [.int (xs ((v3 + (1 : Int32))).toNatClampNeg)]) (rest := [.int r83]) (st1 := [.int r87, .int r83]) E hR hS hl (C_X9_rank hcr87) hk86 ok9 lb_X9_rank lv_X9_rank ml_L_50 ⟨Nat.le_of_ble_eq_true rfl, Nat.le_of_ble_eq_true rfl⟩ rfl rfl rfl (Nat.le_of_ble_eq_true rfl) dL_law_382 ⟨show cells + 0 + 0 ≤ 600000 by omega, show slots + 0 + 0 ≤ 7302250 by omega⟩ (fun H locs hR hS => ?_)
        refine lv_icmp_eq (tgt := 1007) hx hb dL_law_385 (by decide) (fun hq89 => ?_) (fun hq89 => ?_)
        · have hf := ite_p hq89 hf
          exact V_L_law_1007 _ (n * 101 + 101) (n * 404 + 404) ih _ _ _ _ _ hf (600000 - (cells + 0 + 0)) (7302250 - (slots + 0 + 0)) (by constructor <;> omega) p e s m below meth c _ _ _ _ _ EL hR hS (lv_sub hl [0, 1, 2, 3] rfl) (show cells + 0 + 0 + (600000 - (cells + 0 + 0)) ≤ 600000 by omega) (show slots + 0 + 0 + (7302250 - (slots + 0 + 0)) ≤ 7302250 by omega)
        · have hf := ite_n hq89 hf
          refine lv_iconst (v := (0 : Int32)) hx hb dL_law_388 rfl ?_
          obtain ⟨hr1, hs1⟩ := Prod.mk.inj (Option.some.inj hf)
          exact absurd hr1 (by decide)
      have hf := ite_n hq80 hf
      by_cases hq90 : x3 = (8 : Int32)
      · have hf := ite_p hq90 hf
        refine lv_tableIn (tgt := 390) (off := 358) hx hb dL_law_32 (by rw [hq90]; decide) (by rw [hq90]; decide) (by rw [hq90]; decide) (by decide) ?_
        refine lv_aload_n hx hb dL_law_390 rfl (lv_at hl 1 rfl) ?_
        refine lv_aload_n hx hb dL_law_391 rfl (lv_at hl 0 rfl) ?_
        refine lv_iload_n hx hb dL_law_392 rfl (lv_at hl 3 rfl) ?_
        refine lv_iconst (v := (1 : Int32)) hx hb dL_law_393 rfl ?_
        refine lv_iadd hx hb dL_law_394 ?_
        obtain ⟨hk91, hf⟩ := zc_s hf
        refine va_sld hx hb hX hbl hbA hS (kS_s hk91) dL_law_395 ?_
        refine lv_aload_n hx hb dL_law_396 rfl (lv_at hl 0 rfl) ?_
        refine lv_iload_n hx hb dL_law_397 rfl (lv_at hl 3 rfl) ?_
        refine lv_iconst (v := (2 : Int32)) hx hb dL_law_398 rfl ?_
        refine lv_iadd hx hb dL_law_399 ?_
        obtain ⟨hk92, hf⟩ := zc_s hf
        refine va_sld hx hb hX hbl hbA hS (kS_s hk92) dL_law_400 ?_
        refine lv_aload_n hx hb dL_law_401 rfl (lv_at hl 0 rfl) ?_
        refine lv_iload_n hx hb dL_law_402 rfl (lv_at hl 3 rfl) ?_
        refine lv_iconst (v := (3 : Int32)) hx hb dL_law_403 rfl ?_
        refine lv_iadd hx hb dL_law_404 ?_
        obtain ⟨hk93, hf⟩ := zc_s hf
        refine va_sld hx hb hX hbl hbA hS (kS_s hk93) dL_law_405 ?_
        obtain ⟨hk94, hf⟩ := zc_s hf
        obtain ⟨r95, σ96, hcr95, hf⟩ := zq_s hf
        refine xV (As := [.int (xs ((v3 + (1 : Int32))).toNatClampNeg), .int (xs ((v3 + (2 : Int32))).toNatClampNeg), .int (xs ((v3 + (3 : Int32))).toNatClampNeg)]) (rest := []) (st1 := [.int r95]) E hR hS hl (C_X8_proof hcr95) hk94 ok8 lb_X8_proof lv_X8_proof ml_L_51 ⟨Nat.le_of_ble_eq_true rfl, Nat.le_of_ble_eq_true rfl⟩ rfl rfl rfl (Nat.le_of_ble_eq_true rfl) dL_law_406 ⟨show cells + 0 ≤ 600000 by omega, show slots + 0 ≤ 7302250 by omega⟩ (fun H locs hR hS => ?_)
        refine lv_aload_n hx hb dL_law_409 rfl (lv_at hl 2 rfl) ?_
        refine lv_aload_n hx hb dL_law_410 rfl (lv_at hl 0 rfl) ?_
        refine lv_iload_n hx hb dL_law_411 rfl (lv_at hl 3 rfl) ?_
        refine lv_iconst (v := (1 : Int32)) hx hb dL_law_412 rfl ?_
        refine lv_iadd hx hb dL_law_413 ?_
        obtain ⟨hk97, hf⟩ := zc_s hf
        refine va_sld hx hb hX hbl hbA hS (kS_s hk97) dL_law_414 ?_
        refine lv_aload_n hx hb dL_law_415 rfl (lv_at hl 0 rfl) ?_
        refine lv_iload_n hx hb dL_law_416 rfl (lv_at hl 3 rfl) ?_
        refine lv_iconst (v := (2 : Int32)) hx hb dL_law_417 rfl ?_
        refine lv_iadd hx hb dL_law_418 ?_
        obtain ⟨hk98, hf⟩ := zc_s hf
        refine va_sld hx hb hX hbl hbA hS (kS_s hk98) dL_law_419 ?_
        refine lv_aload_n hx hb dL_law_420 rfl (lv_at hl 0 rfl) ?_
        refine lv_iload_n hx hb dL_law_421 rfl (lv_at hl 3 rfl) ?_
        refine lv_iconst (v := (3 : Int32)) hx hb dL_law_422 rfl ?_
        refine lv_iadd hx hb dL_law_423 ?_
        obtain ⟨hk99, hf⟩ := zc_s hf
        refine va_sld hx hb hX hbl hbA hS (kS_s hk99) dL_law_424 ?_
        obtain ⟨hk100, hf⟩ := zc_s hf
        obtain ⟨r101, σ102, hcr101, hf⟩ := zq_s hf
        refine xV (As := [.int (xs ((v3 + (1 : Int32))).toNatClampNeg), .int (xs ((v3 + (2 : Int32))).toNatClampNeg), .int (xs ((v3 + (3 : Int32))).toNatClampNeg)]) (rest := [.int r95]) (st1 := [.int r101, .int r95]) E hR hS hl (C_X9_proof hcr101) hk100 ok9 lb_X9_proof lv_X9_proof ml_L_55 ⟨Nat.le_of_ble_eq_true rfl, Nat.le_of_ble_eq_true rfl⟩ rfl rfl rfl (Nat.le_of_ble_eq_true rfl) dL_law_425 ⟨show cells + 0 + 0 ≤ 600000 by omega, show slots + 0 + 0 ≤ 7302250 by omega⟩ (fun H locs hR hS => ?_)
        refine lv_icmp_eq (tgt := 1007) hx hb dL_law_428 (by decide) (fun hq103 => ?_) (fun hq103 => ?_)
        · have hf := ite_p hq103 hf
          exact V_L_law_1007 _ (n * 101 + 101) (n * 404 + 404) ih _ _ _ _ _ hf (600000 - (cells + 0 + 0)) (7302250 - (slots + 0 + 0)) (by constructor <;> omega) p e s m below meth c _ _ _ _ _ EL hR hS (lv_sub hl [0, 1, 2, 3] rfl) (show cells + 0 + 0 + (600000 - (cells + 0 + 0)) ≤ 600000 by omega) (show slots + 0 + 0 + (7302250 - (slots + 0 + 0)) ≤ 7302250 by omega)
        · have hf := ite_n hq103 hf
          refine lv_iconst (v := (0 : Int32)) hx hb dL_law_431 rfl ?_
          obtain ⟨hr1, hs1⟩ := Prod.mk.inj (Option.some.inj hf)
          exact absurd hr1 (by decide)
      have hf := ite_n hq90 hf
      by_cases hq104 : x3 = (9 : Int32)
      · have hf := ite_p hq104 hf
        refine lv_tableIn (tgt := 433) (off := 401) hx hb dL_law_32 (by rw [hq104]; decide) (by rw [hq104]; decide) (by rw [hq104]; decide) (by decide) ?_
        refine lv_aload_n hx hb dL_law_433 rfl (lv_at hl 1 rfl) ?_
        refine lv_aload_n hx hb dL_law_434 rfl (lv_at hl 0 rfl) ?_
        refine lv_iload_n hx hb dL_law_435 rfl (lv_at hl 3 rfl) ?_
        refine lv_iconst (v := (1 : Int32)) hx hb dL_law_436 rfl ?_
        refine lv_iadd hx hb dL_law_437 ?_
        obtain ⟨hk105, hf⟩ := zc_s hf
        refine va_sld hx hb hX hbl hbA hS (kS_s hk105) dL_law_438 ?_
        refine lv_aload_n hx hb dL_law_439 rfl (lv_at hl 0 rfl) ?_
        refine lv_iload_n hx hb dL_law_440 rfl (lv_at hl 3 rfl) ?_
        refine lv_iconst (v := (2 : Int32)) hx hb dL_law_441 rfl ?_
        refine lv_iadd hx hb dL_law_442 ?_
        obtain ⟨hk106, hf⟩ := zc_s hf
        refine va_sld hx hb hX hbl hbA hS (kS_s hk106) dL_law_443 ?_
        refine lv_aload_n hx hb dL_law_444 rfl (lv_at hl 0 rfl) ?_
        refine lv_iload_n hx hb dL_law_445 rfl (lv_at hl 3 rfl) ?_
        refine lv_iconst (v := (3 : Int32)) hx hb dL_law_446 rfl ?_
        refine lv_iadd hx hb dL_law_447 ?_
        obtain ⟨hk107, hf⟩ := zc_s hf
        refine va_sld hx hb hX hbl hbA hS (kS_s hk107) dL_law_448 ?_
        obtain ⟨hk108, hf⟩ := zc_s hf
        obtain ⟨r109, σ110, hcr109, hf⟩ := zq_s hf
        refine xV (As := [.int (xs ((v3 + (1 : Int32))).toNatClampNeg), .int (xs ((v3 + (2 : Int32))).toNatClampNeg), .int (xs ((v3 + (3 : Int32))).toNatClampNeg)]) (rest := []) (st1 := [.int r109]) E hR hS hl (C_X8_item hcr109) hk108 ok8 lb_X8_item lv_X8_item ml_L_56 ⟨Nat.le_of_ble_eq_true rfl, Nat.le_of_ble_eq_true rfl⟩ rfl rfl rfl (Nat.le_of_ble_eq_true rfl) dL_law_449 ⟨show cells + 0 ≤ 600000 by omega, show slots + 0 ≤ 7302250 by omega⟩ (fun H locs hR hS => ?_)
        refine lv_aload_n hx hb dL_law_452 rfl (lv_at hl 2 rfl) ?_
        refine lv_aload_n hx hb dL_law_453 rfl (lv_at hl 0 rfl) ?_
        refine lv_iload_n hx hb dL_law_454 rfl (lv_at hl 3 rfl) ?_
        refine lv_iconst (v := (1 : Int32)) hx hb dL_law_455 rfl ?_
        refine lv_iadd hx hb dL_law_456 ?_
        obtain ⟨hk111, hf⟩ := zc_s hf
        refine va_sld hx hb hX hbl hbA hS (kS_s hk111) dL_law_457 ?_
        refine lv_aload_n hx hb dL_law_458 rfl (lv_at hl 0 rfl) ?_
        refine lv_iload_n hx hb dL_law_459 rfl (lv_at hl 3 rfl) ?_
        refine lv_iconst (v := (2 : Int32)) hx hb dL_law_460 rfl ?_
        refine lv_iadd hx hb dL_law_461 ?_
        obtain ⟨hk112, hf⟩ := zc_s hf
        refine va_sld hx hb hX hbl hbA hS (kS_s hk112) dL_law_462 ?_
        refine lv_aload_n hx hb dL_law_463 rfl (lv_at hl 0 rfl) ?_
        refine lv_iload_n hx hb dL_law_464 rfl (lv_at hl 3 rfl) ?_
        refine lv_iconst (v := (3 : Int32)) hx hb dL_law_465 rfl ?_
        refine lv_iadd hx hb dL_law_466 ?_
        obtain ⟨hk113, hf⟩ := zc_s hf
        refine va_sld hx hb hX hbl hbA hS (kS_s hk113) dL_law_467 ?_
        obtain ⟨hk114, hf⟩ := zc_s hf
        obtain ⟨r115, σ116, hcr115, hf⟩ := zq_s hf
        refine xV (As := [.int (xs ((v3 + (1 : Int32))).toNatClampNeg), .int (xs ((v3 + (2 : Int32))).toNatClampNeg), .int (xs ((v3 + (3 : Int32))).toNatClampNeg)]) (rest := [.int r109]) (st1 := [.int r115, .int r109]) E hR hS hl (C_X9_item hcr115) hk114 ok9 lb_X9_item lv_X9_item ml_L_59 ⟨Nat.le_of_ble_eq_true rfl, Nat.le_of_ble_eq_true rfl⟩ rfl rfl rfl (Nat.le_of_ble_eq_true rfl) dL_law_468 ⟨show cells + 0 + 0 ≤ 600000 by omega, show slots + 0 + 0 ≤ 7302250 by omega⟩ (fun H locs hR hS => ?_)
        refine lv_icmp_eq (tgt := 1007) hx hb dL_law_471 (by decide) (fun hq117 => ?_) (fun hq117 => ?_)
        · have hf := ite_p hq117 hf
          exact V_L_law_1007 _ (n * 101 + 101) (n * 404 + 404) ih _ _ _ _ _ hf (600000 - (cells + 0 + 0)) (7302250 - (slots + 0 + 0)) (by constructor <;> omega) p e s m below meth c _ _ _ _ _ EL hR hS (lv_sub hl [0, 1, 2, 3] rfl) (show cells + 0 + 0 + (600000 - (cells + 0 + 0)) ≤ 600000 by omega) (show slots + 0 + 0 + (7302250 - (slots + 0 + 0)) ≤ 7302250 by omega)
        · have hf := ite_n hq117 hf
          refine lv_iconst (v := (0 : Int32)) hx hb dL_law_474 rfl ?_
          obtain ⟨hr1, hs1⟩ := Prod.mk.inj (Option.some.inj hf)
          exact absurd hr1 (by decide)
      have hf := ite_n hq104 hf
      by_cases hq118 : x3 = (10 : Int32)
      · have hf := ite_p hq118 hf
        refine lv_tableIn (tgt := 476) (off := 444) hx hb dL_law_32 (by rw [hq118]; decide) (by rw [hq118]; decide) (by rw [hq118]; decide) (by decide) ?_
        refine lv_aload_n hx hb dL_law_476 rfl (lv_at hl 1 rfl) ?_
        refine lv_aload_n hx hb dL_law_477 rfl (lv_at hl 0 rfl) ?_
        refine lv_iload_n hx hb dL_law_478 rfl (lv_at hl 3 rfl) ?_
        refine lv_iconst (v := (1 : Int32)) hx hb dL_law_479 rfl ?_
        refine lv_iadd hx hb dL_law_480 ?_
        obtain ⟨hk119, hf⟩ := zc_s hf
        refine va_sld hx hb hX hbl hbA hS (kS_s hk119) dL_law_481 ?_
        refine lv_aload_n hx hb dL_law_482 rfl (lv_at hl 0 rfl) ?_
        refine lv_iload_n hx hb dL_law_483 rfl (lv_at hl 3 rfl) ?_
        refine lv_iconst (v := (2 : Int32)) hx hb dL_law_484 rfl ?_
        refine lv_iadd hx hb dL_law_485 ?_
        obtain ⟨hk120, hf⟩ := zc_s hf
        refine va_sld hx hb hX hbl hbA hS (kS_s hk120) dL_law_486 ?_
        obtain ⟨hk121, hf⟩ := zc_s hf
        obtain ⟨r122, σ123, hcr122, hf⟩ := zq_s hf
        refine xV (As := [.int (xs ((v3 + (1 : Int32))).toNatClampNeg), .int (xs ((v3 + (2 : Int32))).toNatClampNeg)]) (rest := []) (st1 := [.int r122]) E hR hS hl (C_X8_lengths hcr122) hk121 ok8 lb_X8_lengths lv_X8_lengths ml_L_60 ⟨Nat.le_of_ble_eq_true rfl, Nat.le_of_ble_eq_true rfl⟩ rfl rfl rfl (Nat.le_of_ble_eq_true rfl) dL_law_487 ⟨show cells + 0 ≤ 600000 by omega, show slots + 0 ≤ 7302250 by omega⟩ (fun H locs hR hS => ?_)
        refine lv_aload_n hx hb dL_law_490 rfl (lv_at hl 2 rfl) ?_
        refine lv_aload_n hx hb dL_law_491 rfl (lv_at hl 0 rfl) ?_
        refine lv_iload_n hx hb dL_law_492 rfl (lv_at hl 3 rfl) ?_
        refine lv_iconst (v := (1 : Int32)) hx hb dL_law_493 rfl ?_
        refine lv_iadd hx hb dL_law_494 ?_
        obtain ⟨hk124, hf⟩ := zc_s hf
        refine va_sld hx hb hX hbl hbA hS (kS_s hk124) dL_law_495 ?_
        refine lv_aload_n hx hb dL_law_496 rfl (lv_at hl 0 rfl) ?_
        refine lv_iload_n hx hb dL_law_497 rfl (lv_at hl 3 rfl) ?_
        refine lv_iconst (v := (2 : Int32)) hx hb dL_law_498 rfl ?_
        refine lv_iadd hx hb dL_law_499 ?_
        obtain ⟨hk125, hf⟩ := zc_s hf
        refine va_sld hx hb hX hbl hbA hS (kS_s hk125) dL_law_500 ?_
        obtain ⟨hk126, hf⟩ := zc_s hf
        obtain ⟨r127, σ128, hcr127, hf⟩ := zq_s hf
        refine xV (As := [.int (xs ((v3 + (1 : Int32))).toNatClampNeg), .int (xs ((v3 + (2 : Int32))).toNatClampNeg)]) (rest := [.int r122]) (st1 := [.int r127, .int r122]) E hR hS hl (C_X9_lengths hcr127) hk126 ok9 lb_X9_lengths lv_X9_lengths ml_L_63 ⟨Nat.le_of_ble_eq_true rfl, Nat.le_of_ble_eq_true rfl⟩ rfl rfl rfl (Nat.le_of_ble_eq_true rfl) dL_law_501 ⟨show cells + 0 + 0 ≤ 600000 by omega, show slots + 0 + 0 ≤ 7302250 by omega⟩ (fun H locs hR hS => ?_)
        refine lv_icmp_eq (tgt := 1007) hx hb dL_law_504 (by decide) (fun hq129 => ?_) (fun hq129 => ?_)
        · have hf := ite_p hq129 hf
          exact V_L_law_1007 _ (n * 101 + 101) (n * 404 + 404) ih _ _ _ _ _ hf (600000 - (cells + 0 + 0)) (7302250 - (slots + 0 + 0)) (by constructor <;> omega) p e s m below meth c _ _ _ _ _ EL hR hS (lv_sub hl [0, 1, 2, 3] rfl) (show cells + 0 + 0 + (600000 - (cells + 0 + 0)) ≤ 600000 by omega) (show slots + 0 + 0 + (7302250 - (slots + 0 + 0)) ≤ 7302250 by omega)
        · have hf := ite_n hq129 hf
          refine lv_iconst (v := (0 : Int32)) hx hb dL_law_507 rfl ?_
          obtain ⟨hr1, hs1⟩ := Prod.mk.inj (Option.some.inj hf)
          exact absurd hr1 (by decide)
      have hf := ite_n hq118 hf
      by_cases hq130 : x3 = (11 : Int32)
      · have hf := ite_p hq130 hf
        refine lv_tableIn (tgt := 509) (off := 477) hx hb dL_law_32 (by rw [hq130]; decide) (by rw [hq130]; decide) (by rw [hq130]; decide) (by decide) ?_
        refine lv_aload_n hx hb dL_law_509 rfl (lv_at hl 1 rfl) ?_
        refine lv_aload_n hx hb dL_law_510 rfl (lv_at hl 0 rfl) ?_
        refine lv_iload_n hx hb dL_law_511 rfl (lv_at hl 3 rfl) ?_
        refine lv_iconst (v := (1 : Int32)) hx hb dL_law_512 rfl ?_
        refine lv_iadd hx hb dL_law_513 ?_
        obtain ⟨hk131, hf⟩ := zc_s hf
        refine va_sld hx hb hX hbl hbA hS (kS_s hk131) dL_law_514 ?_
        refine lv_aload_n hx hb dL_law_515 rfl (lv_at hl 0 rfl) ?_
        refine lv_iload_n hx hb dL_law_516 rfl (lv_at hl 3 rfl) ?_
        refine lv_iconst (v := (2 : Int32)) hx hb dL_law_517 rfl ?_
        refine lv_iadd hx hb dL_law_518 ?_
        obtain ⟨hk132, hf⟩ := zc_s hf
        refine va_sld hx hb hX hbl hbA hS (kS_s hk132) dL_law_519 ?_
        obtain ⟨hk133, hf⟩ := zc_s hf
        obtain ⟨r134, σ135, hcr134, hf⟩ := zq_s hf
        refine xV (As := [.int (xs ((v3 + (1 : Int32))).toNatClampNeg), .int (xs ((v3 + (2 : Int32))).toNatClampNeg)]) (rest := []) (st1 := [.int r134]) E hR hS hl (C_X8_send hcr134) hk133 ok8 lb_X8_send lv_X8_send ml_L_64 ⟨Nat.le_of_ble_eq_true rfl, Nat.le_of_ble_eq_true rfl⟩ rfl rfl rfl (Nat.le_of_ble_eq_true rfl) dL_law_520 ⟨show cells + 0 ≤ 600000 by omega, show slots + 0 ≤ 7302250 by omega⟩ (fun H locs hR hS => ?_)
        refine lv_aload_n hx hb dL_law_523 rfl (lv_at hl 2 rfl) ?_
        refine lv_aload_n hx hb dL_law_524 rfl (lv_at hl 0 rfl) ?_
        refine lv_iload_n hx hb dL_law_525 rfl (lv_at hl 3 rfl) ?_
        refine lv_iconst (v := (1 : Int32)) hx hb dL_law_526 rfl ?_
        refine lv_iadd hx hb dL_law_527 ?_
        obtain ⟨hk136, hf⟩ := zc_s hf
        refine va_sld hx hb hX hbl hbA hS (kS_s hk136) dL_law_528 ?_
        refine lv_aload_n hx hb dL_law_529 rfl (lv_at hl 0 rfl) ?_
        refine lv_iload_n hx hb dL_law_530 rfl (lv_at hl 3 rfl) ?_
        refine lv_iconst (v := (2 : Int32)) hx hb dL_law_531 rfl ?_
        refine lv_iadd hx hb dL_law_532 ?_
        obtain ⟨hk137, hf⟩ := zc_s hf
        refine va_sld hx hb hX hbl hbA hS (kS_s hk137) dL_law_533 ?_
        obtain ⟨hk138, hf⟩ := zc_s hf
        obtain ⟨r139, σ140, hcr139, hf⟩ := zq_s hf
        refine xV (As := [.int (xs ((v3 + (1 : Int32))).toNatClampNeg), .int (xs ((v3 + (2 : Int32))).toNatClampNeg)]) (rest := [.int r134]) (st1 := [.int r139, .int r134]) E hR hS hl (C_X9_send hcr139) hk138 ok9 lb_X9_send lv_X9_send ml_L_67 ⟨Nat.le_of_ble_eq_true rfl, Nat.le_of_ble_eq_true rfl⟩ rfl rfl rfl (Nat.le_of_ble_eq_true rfl) dL_law_534 ⟨show cells + 0 + 0 ≤ 600000 by omega, show slots + 0 + 0 ≤ 7302250 by omega⟩ (fun H locs hR hS => ?_)
        refine lv_icmp_eq (tgt := 1007) hx hb dL_law_537 (by decide) (fun hq141 => ?_) (fun hq141 => ?_)
        · have hf := ite_p hq141 hf
          exact V_L_law_1007 _ (n * 101 + 101) (n * 404 + 404) ih _ _ _ _ _ hf (600000 - (cells + 0 + 0)) (7302250 - (slots + 0 + 0)) (by constructor <;> omega) p e s m below meth c _ _ _ _ _ EL hR hS (lv_sub hl [0, 1, 2, 3] rfl) (show cells + 0 + 0 + (600000 - (cells + 0 + 0)) ≤ 600000 by omega) (show slots + 0 + 0 + (7302250 - (slots + 0 + 0)) ≤ 7302250 by omega)
        · have hf := ite_n hq141 hf
          refine lv_iconst (v := (0 : Int32)) hx hb dL_law_540 rfl ?_
          obtain ⟨hr1, hs1⟩ := Prod.mk.inj (Option.some.inj hf)
          exact absurd hr1 (by decide)
      have hf := ite_n hq130 hf
      by_cases hq142 : x3 = (12 : Int32)
      · have hf := ite_p hq142 hf
        refine lv_tableIn (tgt := 542) (off := 510) hx hb dL_law_32 (by rw [hq142]; decide) (by rw [hq142]; decide) (by rw [hq142]; decide) (by decide) ?_
        refine lv_aload_n hx hb dL_law_542 rfl (lv_at hl 1 rfl) ?_
        refine lv_aload_n hx hb dL_law_543 rfl (lv_at hl 0 rfl) ?_
        refine lv_iload_n hx hb dL_law_544 rfl (lv_at hl 3 rfl) ?_
        refine lv_iconst (v := (1 : Int32)) hx hb dL_law_545 rfl ?_
        refine lv_iadd hx hb dL_law_546 ?_
        obtain ⟨hk143, hf⟩ := zc_s hf
        refine va_sld hx hb hX hbl hbA hS (kS_s hk143) dL_law_547 ?_
        obtain ⟨hk144, hf⟩ := zc_s hf
        obtain ⟨r145, σ146, hcr145, hf⟩ := zq_s hf
        refine xV (As := [.int (xs ((v3 + (1 : Int32))).toNatClampNeg)]) (rest := []) (st1 := [.int r145]) E hR hS hl (C_X8_tell hcr145) hk144 ok8 lb_X8_tell lv_X8_tell ml_L_68 ⟨Nat.le_of_ble_eq_true rfl, Nat.le_of_ble_eq_true rfl⟩ rfl rfl rfl (Nat.le_of_ble_eq_true rfl) dL_law_548 ⟨show cells + 0 ≤ 600000 by omega, show slots + 0 ≤ 7302250 by omega⟩ (fun H locs hR hS => ?_)
        refine lv_aload_n hx hb dL_law_551 rfl (lv_at hl 2 rfl) ?_
        refine lv_aload_n hx hb dL_law_552 rfl (lv_at hl 0 rfl) ?_
        refine lv_iload_n hx hb dL_law_553 rfl (lv_at hl 3 rfl) ?_
        refine lv_iconst (v := (1 : Int32)) hx hb dL_law_554 rfl ?_
        refine lv_iadd hx hb dL_law_555 ?_
        obtain ⟨hk147, hf⟩ := zc_s hf
        refine va_sld hx hb hX hbl hbA hS (kS_s hk147) dL_law_556 ?_
        obtain ⟨hk148, hf⟩ := zc_s hf
        obtain ⟨r149, σ150, hcr149, hf⟩ := zq_s hf
        refine xV (As := [.int (xs ((v3 + (1 : Int32))).toNatClampNeg)]) (rest := [.int r145]) (st1 := [.int r149, .int r145]) E hR hS hl (C_X9_tell hcr149) hk148 ok9 lb_X9_tell lv_X9_tell ml_L_71 ⟨Nat.le_of_ble_eq_true rfl, Nat.le_of_ble_eq_true rfl⟩ rfl rfl rfl (Nat.le_of_ble_eq_true rfl) dL_law_557 ⟨show cells + 0 + 0 ≤ 600000 by omega, show slots + 0 + 0 ≤ 7302250 by omega⟩ (fun H locs hR hS => ?_)
        refine lv_icmp_eq (tgt := 1007) hx hb dL_law_560 (by decide) (fun hq151 => ?_) (fun hq151 => ?_)
        · have hf := ite_p hq151 hf
          exact V_L_law_1007 _ (n * 101 + 101) (n * 404 + 404) ih _ _ _ _ _ hf (600000 - (cells + 0 + 0)) (7302250 - (slots + 0 + 0)) (by constructor <;> omega) p e s m below meth c _ _ _ _ _ EL hR hS (lv_sub hl [0, 1, 2, 3] rfl) (show cells + 0 + 0 + (600000 - (cells + 0 + 0)) ≤ 600000 by omega) (show slots + 0 + 0 + (7302250 - (slots + 0 + 0)) ≤ 7302250 by omega)
        · have hf := ite_n hq151 hf
          refine lv_iconst (v := (0 : Int32)) hx hb dL_law_563 rfl ?_
          obtain ⟨hr1, hs1⟩ := Prod.mk.inj (Option.some.inj hf)
          exact absurd hr1 (by decide)
      have hf := ite_n hq142 hf
      by_cases hq152 : x3 = (13 : Int32)
      · have hf := ite_p hq152 hf
        refine lv_tableIn (tgt := 565) (off := 533) hx hb dL_law_32 (by rw [hq152]; decide) (by rw [hq152]; decide) (by rw [hq152]; decide) (by decide) ?_
        refine lv_aload_n hx hb dL_law_565 rfl (lv_at hl 1 rfl) ?_
        refine lv_aload_n hx hb dL_law_566 rfl (lv_at hl 0 rfl) ?_
        refine lv_iload_n hx hb dL_law_567 rfl (lv_at hl 3 rfl) ?_
        refine lv_iconst (v := (1 : Int32)) hx hb dL_law_568 rfl ?_
        refine lv_iadd hx hb dL_law_569 ?_
        obtain ⟨hk153, hf⟩ := zc_s hf
        refine va_sld hx hb hX hbl hbA hS (kS_s hk153) dL_law_570 ?_
        refine lv_aload_n hx hb dL_law_571 rfl (lv_at hl 0 rfl) ?_
        refine lv_iload_n hx hb dL_law_572 rfl (lv_at hl 3 rfl) ?_
        refine lv_iconst (v := (2 : Int32)) hx hb dL_law_573 rfl ?_
        refine lv_iadd hx hb dL_law_574 ?_
        obtain ⟨hk154, hf⟩ := zc_s hf
        refine va_sld hx hb hX hbl hbA hS (kS_s hk154) dL_law_575 ?_
        obtain ⟨hk155, hf⟩ := zc_s hf
        obtain ⟨r156, σ157, hcr156, hf⟩ := zq_s hf
        refine xV (As := [.int (xs ((v3 + (1 : Int32))).toNatClampNeg), .int (xs ((v3 + (2 : Int32))).toNatClampNeg)]) (rest := []) (st1 := [.int r156]) E hR hS hl (C_X8_alter hcr156) hk155 ok8 lb_X8_alter lv_X8_alter ml_L_72 ⟨Nat.le_of_ble_eq_true rfl, Nat.le_of_ble_eq_true rfl⟩ rfl rfl rfl (Nat.le_of_ble_eq_true rfl) dL_law_576 ⟨show cells + 0 ≤ 600000 by omega, show slots + 0 ≤ 7302250 by omega⟩ (fun H locs hR hS => ?_)
        refine lv_aload_n hx hb dL_law_579 rfl (lv_at hl 2 rfl) ?_
        refine lv_aload_n hx hb dL_law_580 rfl (lv_at hl 0 rfl) ?_
        refine lv_iload_n hx hb dL_law_581 rfl (lv_at hl 3 rfl) ?_
        refine lv_iconst (v := (1 : Int32)) hx hb dL_law_582 rfl ?_
        refine lv_iadd hx hb dL_law_583 ?_
        obtain ⟨hk158, hf⟩ := zc_s hf
        refine va_sld hx hb hX hbl hbA hS (kS_s hk158) dL_law_584 ?_
        refine lv_aload_n hx hb dL_law_585 rfl (lv_at hl 0 rfl) ?_
        refine lv_iload_n hx hb dL_law_586 rfl (lv_at hl 3 rfl) ?_
        refine lv_iconst (v := (2 : Int32)) hx hb dL_law_587 rfl ?_
        refine lv_iadd hx hb dL_law_588 ?_
        obtain ⟨hk159, hf⟩ := zc_s hf
        refine va_sld hx hb hX hbl hbA hS (kS_s hk159) dL_law_589 ?_
        obtain ⟨hk160, hf⟩ := zc_s hf
        obtain ⟨r161, σ162, hcr161, hf⟩ := zq_s hf
        refine xV (As := [.int (xs ((v3 + (1 : Int32))).toNatClampNeg), .int (xs ((v3 + (2 : Int32))).toNatClampNeg)]) (rest := [.int r156]) (st1 := [.int r161, .int r156]) E hR hS hl (C_X9_alter hcr161) hk160 ok9 lb_X9_alter lv_X9_alter ml_L_75 ⟨Nat.le_of_ble_eq_true rfl, Nat.le_of_ble_eq_true rfl⟩ rfl rfl rfl (Nat.le_of_ble_eq_true rfl) dL_law_590 ⟨show cells + 0 + 0 ≤ 600000 by omega, show slots + 0 + 0 ≤ 7302250 by omega⟩ (fun H locs hR hS => ?_)
        refine lv_icmp_eq (tgt := 1007) hx hb dL_law_593 (by decide) (fun hq163 => ?_) (fun hq163 => ?_)
        · have hf := ite_p hq163 hf
          exact V_L_law_1007 _ (n * 101 + 101) (n * 404 + 404) ih _ _ _ _ _ hf (600000 - (cells + 0 + 0)) (7302250 - (slots + 0 + 0)) (by constructor <;> omega) p e s m below meth c _ _ _ _ _ EL hR hS (lv_sub hl [0, 1, 2, 3] rfl) (show cells + 0 + 0 + (600000 - (cells + 0 + 0)) ≤ 600000 by omega) (show slots + 0 + 0 + (7302250 - (slots + 0 + 0)) ≤ 7302250 by omega)
        · have hf := ite_n hq163 hf
          refine lv_iconst (v := (0 : Int32)) hx hb dL_law_596 rfl ?_
          obtain ⟨hr1, hs1⟩ := Prod.mk.inj (Option.some.inj hf)
          exact absurd hr1 (by decide)
      have hf := ite_n hq152 hf
      by_cases hq164 : x3 = (14 : Int32)
      · have hf := ite_p hq164 hf
        refine lv_tableIn (tgt := 598) (off := 566) hx hb dL_law_32 (by rw [hq164]; decide) (by rw [hq164]; decide) (by rw [hq164]; decide) (by decide) ?_
        refine lv_aload_n hx hb dL_law_598 rfl (lv_at hl 1 rfl) ?_
        refine lv_aload_n hx hb dL_law_599 rfl (lv_at hl 0 rfl) ?_
        refine lv_iload_n hx hb dL_law_600 rfl (lv_at hl 3 rfl) ?_
        refine lv_iconst (v := (1 : Int32)) hx hb dL_law_601 rfl ?_
        refine lv_iadd hx hb dL_law_602 ?_
        obtain ⟨hk165, hf⟩ := zc_s hf
        refine va_sld hx hb hX hbl hbA hS (kS_s hk165) dL_law_603 ?_
        obtain ⟨hk166, hf⟩ := zc_s hf
        obtain ⟨r167, σ168, hcr167, hf⟩ := zq_s hf
        refine xV (As := [.int (xs ((v3 + (1 : Int32))).toNatClampNeg)]) (rest := []) (st1 := [.int r167]) E hR hS hl (C_X8_cut hcr167) hk166 ok8 lb_X8_cut lv_X8_cut ml_L_76 ⟨Nat.le_of_ble_eq_true rfl, Nat.le_of_ble_eq_true rfl⟩ rfl rfl rfl (Nat.le_of_ble_eq_true rfl) dL_law_604 ⟨show cells + 0 ≤ 600000 by omega, show slots + 0 ≤ 7302250 by omega⟩ (fun H locs hR hS => ?_)
        refine lv_aload_n hx hb dL_law_607 rfl (lv_at hl 2 rfl) ?_
        refine lv_aload_n hx hb dL_law_608 rfl (lv_at hl 0 rfl) ?_
        refine lv_iload_n hx hb dL_law_609 rfl (lv_at hl 3 rfl) ?_
        refine lv_iconst (v := (1 : Int32)) hx hb dL_law_610 rfl ?_
        refine lv_iadd hx hb dL_law_611 ?_
        obtain ⟨hk169, hf⟩ := zc_s hf
        refine va_sld hx hb hX hbl hbA hS (kS_s hk169) dL_law_612 ?_
        obtain ⟨hk170, hf⟩ := zc_s hf
        obtain ⟨r171, σ172, hcr171, hf⟩ := zq_s hf
        refine xV (As := [.int (xs ((v3 + (1 : Int32))).toNatClampNeg)]) (rest := [.int r167]) (st1 := [.int r171, .int r167]) E hR hS hl (C_X9_cut hcr171) hk170 ok9 lb_X9_cut lv_X9_cut ml_L_79 ⟨Nat.le_of_ble_eq_true rfl, Nat.le_of_ble_eq_true rfl⟩ rfl rfl rfl (Nat.le_of_ble_eq_true rfl) dL_law_613 ⟨show cells + 0 + 0 ≤ 600000 by omega, show slots + 0 + 0 ≤ 7302250 by omega⟩ (fun H locs hR hS => ?_)
        refine lv_icmp_eq (tgt := 1007) hx hb dL_law_616 (by decide) (fun hq173 => ?_) (fun hq173 => ?_)
        · have hf := ite_p hq173 hf
          exact V_L_law_1007 _ (n * 101 + 101) (n * 404 + 404) ih _ _ _ _ _ hf (600000 - (cells + 0 + 0)) (7302250 - (slots + 0 + 0)) (by constructor <;> omega) p e s m below meth c _ _ _ _ _ EL hR hS (lv_sub hl [0, 1, 2, 3] rfl) (show cells + 0 + 0 + (600000 - (cells + 0 + 0)) ≤ 600000 by omega) (show slots + 0 + 0 + (7302250 - (slots + 0 + 0)) ≤ 7302250 by omega)
        · have hf := ite_n hq173 hf
          refine lv_iconst (v := (0 : Int32)) hx hb dL_law_619 rfl ?_
          obtain ⟨hr1, hs1⟩ := Prod.mk.inj (Option.some.inj hf)
          exact absurd hr1 (by decide)
      have hf := ite_n hq164 hf
      by_cases hq174 : x3 = (15 : Int32)
      · have hf := ite_p hq174 hf
        refine lv_tableIn (tgt := 621) (off := 589) hx hb dL_law_32 (by rw [hq174]; decide) (by rw [hq174]; decide) (by rw [hq174]; decide) (by decide) ?_
        refine lv_aload_n hx hb dL_law_621 rfl (lv_at hl 1 rfl) ?_
        obtain ⟨hk175, hf⟩ := zc_s hf
        obtain ⟨r176, σ177, hcr176, hf⟩ := zq_s hf
        refine xV (As := []) (rest := []) (st1 := [.int r176]) E hR hS hl (C_X8_trust hcr176) hk175 ok8 lb_X8_trust lv_X8_trust ml_L_80 ⟨Nat.le_of_ble_eq_true rfl, Nat.le_of_ble_eq_true rfl⟩ rfl rfl rfl (Nat.le_of_ble_eq_true rfl) dL_law_622 ⟨show cells + 0 ≤ 600000 by omega, show slots + 0 ≤ 7302250 by omega⟩ (fun H locs hR hS => ?_)
        refine lv_aload_n hx hb dL_law_625 rfl (lv_at hl 2 rfl) ?_
        obtain ⟨hk178, hf⟩ := zc_s hf
        obtain ⟨r179, σ180, hcr179, hf⟩ := zq_s hf
        refine xV (As := []) (rest := [.int r176]) (st1 := [.int r179, .int r176]) E hR hS hl (C_X9_trust hcr179) hk178 ok9 lb_X9_trust lv_X9_trust ml_L_83 ⟨Nat.le_of_ble_eq_true rfl, Nat.le_of_ble_eq_true rfl⟩ rfl rfl rfl (Nat.le_of_ble_eq_true rfl) dL_law_626 ⟨show cells + 0 + 0 ≤ 600000 by omega, show slots + 0 + 0 ≤ 7302250 by omega⟩ (fun H locs hR hS => ?_)
        refine lv_icmp_eq (tgt := 1007) hx hb dL_law_629 (by decide) (fun hq181 => ?_) (fun hq181 => ?_)
        · have hf := ite_p hq181 hf
          exact V_L_law_1007 _ (n * 101 + 101) (n * 404 + 404) ih _ _ _ _ _ hf (600000 - (cells + 0 + 0)) (7302250 - (slots + 0 + 0)) (by constructor <;> omega) p e s m below meth c _ _ _ _ _ EL hR hS (lv_sub hl [0, 1, 2, 3] rfl) (show cells + 0 + 0 + (600000 - (cells + 0 + 0)) ≤ 600000 by omega) (show slots + 0 + 0 + (7302250 - (slots + 0 + 0)) ≤ 7302250 by omega)
        · have hf := ite_n hq181 hf
          refine lv_iconst (v := (0 : Int32)) hx hb dL_law_632 rfl ?_
          obtain ⟨hr1, hs1⟩ := Prod.mk.inj (Option.some.inj hf)
          exact absurd hr1 (by decide)
      have hf := ite_n hq174 hf
      by_cases hq182 : x3 = (16 : Int32)
      · have hf := ite_p hq182 hf
        refine lv_tableIn (tgt := 634) (off := 602) hx hb dL_law_32 (by rw [hq182]; decide) (by rw [hq182]; decide) (by rw [hq182]; decide) (by decide) ?_
        refine lv_aload_n hx hb dL_law_634 rfl (lv_at hl 1 rfl) ?_
        refine lv_aload_n hx hb dL_law_635 rfl (lv_at hl 0 rfl) ?_
        refine lv_iload_n hx hb dL_law_636 rfl (lv_at hl 3 rfl) ?_
        refine lv_iconst (v := (1 : Int32)) hx hb dL_law_637 rfl ?_
        refine lv_iadd hx hb dL_law_638 ?_
        obtain ⟨hk183, hf⟩ := zc_s hf
        refine va_sld hx hb hX hbl hbA hS (kS_s hk183) dL_law_639 ?_
        obtain ⟨hk184, hf⟩ := zc_s hf
        obtain ⟨r185, σ186, hcr185, hf⟩ := zq_s hf
        refine xV (As := [.int (xs ((v3 + (1 : Int32))).toNatClampNeg)]) (rest := []) (st1 := [.int r185]) E hR hS hl (C_X8_believe hcr185) hk184 ok8 lb_X8_believe lv_X8_believe ml_L_84 ⟨Nat.le_of_ble_eq_true rfl, Nat.le_of_ble_eq_true rfl⟩ rfl rfl rfl (Nat.le_of_ble_eq_true rfl) dL_law_640 ⟨show cells + 0 ≤ 600000 by omega, show slots + 0 ≤ 7302250 by omega⟩ (fun H locs hR hS => ?_)
        refine lv_aload_n hx hb dL_law_643 rfl (lv_at hl 2 rfl) ?_
        refine lv_aload_n hx hb dL_law_644 rfl (lv_at hl 0 rfl) ?_
        refine lv_iload_n hx hb dL_law_645 rfl (lv_at hl 3 rfl) ?_
        refine lv_iconst (v := (1 : Int32)) hx hb dL_law_646 rfl ?_
        refine lv_iadd hx hb dL_law_647 ?_
        obtain ⟨hk187, hf⟩ := zc_s hf
        refine va_sld hx hb hX hbl hbA hS (kS_s hk187) dL_law_648 ?_
        obtain ⟨hk188, hf⟩ := zc_s hf
        obtain ⟨r189, σ190, hcr189, hf⟩ := zq_s hf
        refine xV (As := [.int (xs ((v3 + (1 : Int32))).toNatClampNeg)]) (rest := [.int r185]) (st1 := [.int r189, .int r185]) E hR hS hl (C_X9_believe hcr189) hk188 ok9 lb_X9_believe lv_X9_believe ml_L_87 ⟨Nat.le_of_ble_eq_true rfl, Nat.le_of_ble_eq_true rfl⟩ rfl rfl rfl (Nat.le_of_ble_eq_true rfl) dL_law_649 ⟨show cells + 0 + 0 ≤ 600000 by omega, show slots + 0 + 0 ≤ 7302250 by omega⟩ (fun H locs hR hS => ?_)
        refine lv_icmp_eq (tgt := 1007) hx hb dL_law_652 (by decide) (fun hq191 => ?_) (fun hq191 => ?_)
        · have hf := ite_p hq191 hf
          exact V_L_law_1007 _ (n * 101 + 101) (n * 404 + 404) ih _ _ _ _ _ hf (600000 - (cells + 0 + 0)) (7302250 - (slots + 0 + 0)) (by constructor <;> omega) p e s m below meth c _ _ _ _ _ EL hR hS (lv_sub hl [0, 1, 2, 3] rfl) (show cells + 0 + 0 + (600000 - (cells + 0 + 0)) ≤ 600000 by omega) (show slots + 0 + 0 + (7302250 - (slots + 0 + 0)) ≤ 7302250 by omega)
        · have hf := ite_n hq191 hf
          refine lv_iconst (v := (0 : Int32)) hx hb dL_law_655 rfl ?_
          obtain ⟨hr1, hs1⟩ := Prod.mk.inj (Option.some.inj hf)
          exact absurd hr1 (by decide)
      have hf := ite_n hq182 hf
      by_cases hq192 : x3 = (17 : Int32)
      · have hf := ite_p hq192 hf
        refine lv_tableIn (tgt := 657) (off := 625) hx hb dL_law_32 (by rw [hq192]; decide) (by rw [hq192]; decide) (by rw [hq192]; decide) (by decide) ?_
        refine lv_aload_n hx hb dL_law_657 rfl (lv_at hl 1 rfl) ?_
        refine lv_aload_n hx hb dL_law_658 rfl (lv_at hl 0 rfl) ?_
        refine lv_iload_n hx hb dL_law_659 rfl (lv_at hl 3 rfl) ?_
        refine lv_iconst (v := (1 : Int32)) hx hb dL_law_660 rfl ?_
        refine lv_iadd hx hb dL_law_661 ?_
        obtain ⟨hk193, hf⟩ := zc_s hf
        refine va_sld hx hb hX hbl hbA hS (kS_s hk193) dL_law_662 ?_
        refine lv_aload_n hx hb dL_law_663 rfl (lv_at hl 0 rfl) ?_
        refine lv_iload_n hx hb dL_law_664 rfl (lv_at hl 3 rfl) ?_
        refine lv_iconst (v := (2 : Int32)) hx hb dL_law_665 rfl ?_
        refine lv_iadd hx hb dL_law_666 ?_
        obtain ⟨hk194, hf⟩ := zc_s hf
        refine va_sld hx hb hX hbl hbA hS (kS_s hk194) dL_law_667 ?_
        obtain ⟨hk195, hf⟩ := zc_s hf
        obtain ⟨r196, σ197, hcr196, hf⟩ := zq_s hf
        refine xV (As := [.int (xs ((v3 + (1 : Int32))).toNatClampNeg), .int (xs ((v3 + (2 : Int32))).toNatClampNeg)]) (rest := []) (st1 := [.int r196]) E hR hS hl (C_X8_read hcr196) hk195 ok8 lb_X8_read lv_X8_read ml_L_88 ⟨Nat.le_of_ble_eq_true rfl, Nat.le_of_ble_eq_true rfl⟩ rfl rfl rfl (Nat.le_of_ble_eq_true rfl) dL_law_668 ⟨show cells + 0 ≤ 600000 by omega, show slots + 0 ≤ 7302250 by omega⟩ (fun H locs hR hS => ?_)
        refine lv_aload_n hx hb dL_law_671 rfl (lv_at hl 2 rfl) ?_
        refine lv_aload_n hx hb dL_law_672 rfl (lv_at hl 0 rfl) ?_
        refine lv_iload_n hx hb dL_law_673 rfl (lv_at hl 3 rfl) ?_
        refine lv_iconst (v := (1 : Int32)) hx hb dL_law_674 rfl ?_
        refine lv_iadd hx hb dL_law_675 ?_
        obtain ⟨hk198, hf⟩ := zc_s hf
        refine va_sld hx hb hX hbl hbA hS (kS_s hk198) dL_law_676 ?_
        refine lv_aload_n hx hb dL_law_677 rfl (lv_at hl 0 rfl) ?_
        refine lv_iload_n hx hb dL_law_678 rfl (lv_at hl 3 rfl) ?_
        refine lv_iconst (v := (2 : Int32)) hx hb dL_law_679 rfl ?_
        refine lv_iadd hx hb dL_law_680 ?_
        obtain ⟨hk199, hf⟩ := zc_s hf
        refine va_sld hx hb hX hbl hbA hS (kS_s hk199) dL_law_681 ?_
        obtain ⟨hk200, hf⟩ := zc_s hf
        obtain ⟨r201, σ202, hcr201, hf⟩ := zq_s hf
        refine xV (As := [.int (xs ((v3 + (1 : Int32))).toNatClampNeg), .int (xs ((v3 + (2 : Int32))).toNatClampNeg)]) (rest := [.int r196]) (st1 := [.int r201, .int r196]) E hR hS hl (C_X9_read hcr201) hk200 ok9 lb_X9_read lv_X9_read ml_L_91 ⟨Nat.le_of_ble_eq_true rfl, Nat.le_of_ble_eq_true rfl⟩ rfl rfl rfl (Nat.le_of_ble_eq_true rfl) dL_law_682 ⟨show cells + 0 + 0 ≤ 600000 by omega, show slots + 0 + 0 ≤ 7302250 by omega⟩ (fun H locs hR hS => ?_)
        refine lv_icmp_eq (tgt := 1007) hx hb dL_law_685 (by decide) (fun hq203 => ?_) (fun hq203 => ?_)
        · have hf := ite_p hq203 hf
          exact V_L_law_1007 _ (n * 101 + 101) (n * 404 + 404) ih _ _ _ _ _ hf (600000 - (cells + 0 + 0)) (7302250 - (slots + 0 + 0)) (by constructor <;> omega) p e s m below meth c _ _ _ _ _ EL hR hS (lv_sub hl [0, 1, 2, 3] rfl) (show cells + 0 + 0 + (600000 - (cells + 0 + 0)) ≤ 600000 by omega) (show slots + 0 + 0 + (7302250 - (slots + 0 + 0)) ≤ 7302250 by omega)
        · have hf := ite_n hq203 hf
          refine lv_iconst (v := (0 : Int32)) hx hb dL_law_688 rfl ?_
          obtain ⟨hr1, hs1⟩ := Prod.mk.inj (Option.some.inj hf)
          exact absurd hr1 (by decide)
      have hf := ite_n hq192 hf
      by_cases hq204 : x3 = (18 : Int32)
      · have hf := ite_p hq204 hf
        refine lv_tableIn (tgt := 690) (off := 658) hx hb dL_law_32 (by rw [hq204]; decide) (by rw [hq204]; decide) (by rw [hq204]; decide) (by decide) ?_
        refine lv_aload_n hx hb dL_law_690 rfl (lv_at hl 1 rfl) ?_
        refine lv_aload_n hx hb dL_law_691 rfl (lv_at hl 0 rfl) ?_
        refine lv_iload_n hx hb dL_law_692 rfl (lv_at hl 3 rfl) ?_
        refine lv_iconst (v := (1 : Int32)) hx hb dL_law_693 rfl ?_
        refine lv_iadd hx hb dL_law_694 ?_
        obtain ⟨hk205, hf⟩ := zc_s hf
        refine va_sld hx hb hX hbl hbA hS (kS_s hk205) dL_law_695 ?_
        refine lv_aload_n hx hb dL_law_696 rfl (lv_at hl 0 rfl) ?_
        refine lv_iload_n hx hb dL_law_697 rfl (lv_at hl 3 rfl) ?_
        refine lv_iconst (v := (2 : Int32)) hx hb dL_law_698 rfl ?_
        refine lv_iadd hx hb dL_law_699 ?_
        obtain ⟨hk206, hf⟩ := zc_s hf
        refine va_sld hx hb hX hbl hbA hS (kS_s hk206) dL_law_700 ?_
        refine lv_aload_n hx hb dL_law_701 rfl (lv_at hl 0 rfl) ?_
        refine lv_iload_n hx hb dL_law_702 rfl (lv_at hl 3 rfl) ?_
        refine lv_iconst (v := (3 : Int32)) hx hb dL_law_703 rfl ?_
        refine lv_iadd hx hb dL_law_704 ?_
        obtain ⟨hk207, hf⟩ := zc_s hf
        refine va_sld hx hb hX hbl hbA hS (kS_s hk207) dL_law_705 ?_
        obtain ⟨hk208, hf⟩ := zc_s hf
        obtain ⟨r209, σ210, hcr209, hf⟩ := zq_s hf
        refine xV (As := [.int (xs ((v3 + (1 : Int32))).toNatClampNeg), .int (xs ((v3 + (2 : Int32))).toNatClampNeg), .int (xs ((v3 + (3 : Int32))).toNatClampNeg)]) (rest := []) (st1 := [.int r209]) E hR hS hl (C_X8_learnt hcr209) hk208 ok8 lb_X8_learnt lv_X8_learnt ml_L_92 ⟨Nat.le_of_ble_eq_true rfl, Nat.le_of_ble_eq_true rfl⟩ rfl rfl rfl (Nat.le_of_ble_eq_true rfl) dL_law_706 ⟨show cells + 0 ≤ 600000 by omega, show slots + 0 ≤ 7302250 by omega⟩ (fun H locs hR hS => ?_)
        refine lv_aload_n hx hb dL_law_709 rfl (lv_at hl 2 rfl) ?_
        refine lv_aload_n hx hb dL_law_710 rfl (lv_at hl 0 rfl) ?_
        refine lv_iload_n hx hb dL_law_711 rfl (lv_at hl 3 rfl) ?_
        refine lv_iconst (v := (1 : Int32)) hx hb dL_law_712 rfl ?_
        refine lv_iadd hx hb dL_law_713 ?_
        obtain ⟨hk211, hf⟩ := zc_s hf
        refine va_sld hx hb hX hbl hbA hS (kS_s hk211) dL_law_714 ?_
        refine lv_aload_n hx hb dL_law_715 rfl (lv_at hl 0 rfl) ?_
        refine lv_iload_n hx hb dL_law_716 rfl (lv_at hl 3 rfl) ?_
        refine lv_iconst (v := (2 : Int32)) hx hb dL_law_717 rfl ?_
        refine lv_iadd hx hb dL_law_718 ?_
        obtain ⟨hk212, hf⟩ := zc_s hf
        refine va_sld hx hb hX hbl hbA hS (kS_s hk212) dL_law_719 ?_
        refine lv_aload_n hx hb dL_law_720 rfl (lv_at hl 0 rfl) ?_
        refine lv_iload_n hx hb dL_law_721 rfl (lv_at hl 3 rfl) ?_
        refine lv_iconst (v := (3 : Int32)) hx hb dL_law_722 rfl ?_
        refine lv_iadd hx hb dL_law_723 ?_
        obtain ⟨hk213, hf⟩ := zc_s hf
        refine va_sld hx hb hX hbl hbA hS (kS_s hk213) dL_law_724 ?_
        obtain ⟨hk214, hf⟩ := zc_s hf
        obtain ⟨r215, σ216, hcr215, hf⟩ := zq_s hf
        refine xV (As := [.int (xs ((v3 + (1 : Int32))).toNatClampNeg), .int (xs ((v3 + (2 : Int32))).toNatClampNeg), .int (xs ((v3 + (3 : Int32))).toNatClampNeg)]) (rest := [.int r209]) (st1 := [.int r215, .int r209]) E hR hS hl (C_X9_learnt hcr215) hk214 ok9 lb_X9_learnt lv_X9_learnt ml_L_95 ⟨Nat.le_of_ble_eq_true rfl, Nat.le_of_ble_eq_true rfl⟩ rfl rfl rfl (Nat.le_of_ble_eq_true rfl) dL_law_725 ⟨show cells + 0 + 0 ≤ 600000 by omega, show slots + 0 + 0 ≤ 7302250 by omega⟩ (fun H locs hR hS => ?_)
        refine lv_icmp_eq (tgt := 1007) hx hb dL_law_728 (by decide) (fun hq217 => ?_) (fun hq217 => ?_)
        · have hf := ite_p hq217 hf
          exact V_L_law_1007 _ (n * 101 + 101) (n * 404 + 404) ih _ _ _ _ _ hf (600000 - (cells + 0 + 0)) (7302250 - (slots + 0 + 0)) (by constructor <;> omega) p e s m below meth c _ _ _ _ _ EL hR hS (lv_sub hl [0, 1, 2, 3] rfl) (show cells + 0 + 0 + (600000 - (cells + 0 + 0)) ≤ 600000 by omega) (show slots + 0 + 0 + (7302250 - (slots + 0 + 0)) ≤ 7302250 by omega)
        · have hf := ite_n hq217 hf
          refine lv_iconst (v := (0 : Int32)) hx hb dL_law_731 rfl ?_
          obtain ⟨hr1, hs1⟩ := Prod.mk.inj (Option.some.inj hf)
          exact absurd hr1 (by decide)
      have hf := ite_n hq204 hf
      by_cases hq218 : x3 = (19 : Int32)
      · have hf := ite_p hq218 hf
        refine lv_tableIn (tgt := 733) (off := 701) hx hb dL_law_32 (by rw [hq218]; decide) (by rw [hq218]; decide) (by rw [hq218]; decide) (by decide) ?_
        refine lv_aload_n hx hb dL_law_733 rfl (lv_at hl 1 rfl) ?_
        refine lv_aload_n hx hb dL_law_734 rfl (lv_at hl 0 rfl) ?_
        refine lv_iload_n hx hb dL_law_735 rfl (lv_at hl 3 rfl) ?_
        refine lv_iconst (v := (1 : Int32)) hx hb dL_law_736 rfl ?_
        refine lv_iadd hx hb dL_law_737 ?_
        obtain ⟨hk219, hf⟩ := zc_s hf
        refine va_sld hx hb hX hbl hbA hS (kS_s hk219) dL_law_738 ?_
        refine lv_aload_n hx hb dL_law_739 rfl (lv_at hl 0 rfl) ?_
        refine lv_iload_n hx hb dL_law_740 rfl (lv_at hl 3 rfl) ?_
        refine lv_iconst (v := (2 : Int32)) hx hb dL_law_741 rfl ?_
        refine lv_iadd hx hb dL_law_742 ?_
        obtain ⟨hk220, hf⟩ := zc_s hf
        refine va_sld hx hb hX hbl hbA hS (kS_s hk220) dL_law_743 ?_
        refine lv_aload_n hx hb dL_law_744 rfl (lv_at hl 0 rfl) ?_
        refine lv_iload_n hx hb dL_law_745 rfl (lv_at hl 3 rfl) ?_
        refine lv_iconst (v := (3 : Int32)) hx hb dL_law_746 rfl ?_
        refine lv_iadd hx hb dL_law_747 ?_
        obtain ⟨hk221, hf⟩ := zc_s hf
        refine va_sld hx hb hX hbl hbA hS (kS_s hk221) dL_law_748 ?_
        obtain ⟨hk222, hf⟩ := zc_s hf
        obtain ⟨r223, σ224, hcr223, hf⟩ := zq_s hf
        refine xV (As := [.int (xs ((v3 + (1 : Int32))).toNatClampNeg), .int (xs ((v3 + (2 : Int32))).toNatClampNeg), .int (xs ((v3 + (3 : Int32))).toNatClampNeg)]) (rest := []) (st1 := [.int r223]) E hR hS hl (C_X8_found hcr223) hk222 ok8 lb_X8_found lv_X8_found ml_L_96 ⟨Nat.le_of_ble_eq_true rfl, Nat.le_of_ble_eq_true rfl⟩ rfl rfl rfl (Nat.le_of_ble_eq_true rfl) dL_law_749 ⟨show cells + 0 ≤ 600000 by omega, show slots + 0 ≤ 7302250 by omega⟩ (fun H locs hR hS => ?_)
        refine lv_aload_n hx hb dL_law_752 rfl (lv_at hl 2 rfl) ?_
        refine lv_aload_n hx hb dL_law_753 rfl (lv_at hl 0 rfl) ?_
        refine lv_iload_n hx hb dL_law_754 rfl (lv_at hl 3 rfl) ?_
        refine lv_iconst (v := (1 : Int32)) hx hb dL_law_755 rfl ?_
        refine lv_iadd hx hb dL_law_756 ?_
        obtain ⟨hk225, hf⟩ := zc_s hf
        refine va_sld hx hb hX hbl hbA hS (kS_s hk225) dL_law_757 ?_
        refine lv_aload_n hx hb dL_law_758 rfl (lv_at hl 0 rfl) ?_
        refine lv_iload_n hx hb dL_law_759 rfl (lv_at hl 3 rfl) ?_
        refine lv_iconst (v := (2 : Int32)) hx hb dL_law_760 rfl ?_
        refine lv_iadd hx hb dL_law_761 ?_
        obtain ⟨hk226, hf⟩ := zc_s hf
        refine va_sld hx hb hX hbl hbA hS (kS_s hk226) dL_law_762 ?_
        refine lv_aload_n hx hb dL_law_763 rfl (lv_at hl 0 rfl) ?_
        refine lv_iload_n hx hb dL_law_764 rfl (lv_at hl 3 rfl) ?_
        refine lv_iconst (v := (3 : Int32)) hx hb dL_law_765 rfl ?_
        refine lv_iadd hx hb dL_law_766 ?_
        obtain ⟨hk227, hf⟩ := zc_s hf
        refine va_sld hx hb hX hbl hbA hS (kS_s hk227) dL_law_767 ?_
        obtain ⟨hk228, hf⟩ := zc_s hf
        obtain ⟨r229, σ230, hcr229, hf⟩ := zq_s hf
        refine xV (As := [.int (xs ((v3 + (1 : Int32))).toNatClampNeg), .int (xs ((v3 + (2 : Int32))).toNatClampNeg), .int (xs ((v3 + (3 : Int32))).toNatClampNeg)]) (rest := [.int r223]) (st1 := [.int r229, .int r223]) E hR hS hl (C_X9_found hcr229) hk228 ok9 lb_X9_found lv_X9_found ml_L_99 ⟨Nat.le_of_ble_eq_true rfl, Nat.le_of_ble_eq_true rfl⟩ rfl rfl rfl (Nat.le_of_ble_eq_true rfl) dL_law_768 ⟨show cells + 0 + 0 ≤ 600000 by omega, show slots + 0 + 0 ≤ 7302250 by omega⟩ (fun H locs hR hS => ?_)
        refine lv_icmp_eq (tgt := 1007) hx hb dL_law_771 (by decide) (fun hq231 => ?_) (fun hq231 => ?_)
        · have hf := ite_p hq231 hf
          exact V_L_law_1007 _ (n * 101 + 101) (n * 404 + 404) ih _ _ _ _ _ hf (600000 - (cells + 0 + 0)) (7302250 - (slots + 0 + 0)) (by constructor <;> omega) p e s m below meth c _ _ _ _ _ EL hR hS (lv_sub hl [0, 1, 2, 3] rfl) (show cells + 0 + 0 + (600000 - (cells + 0 + 0)) ≤ 600000 by omega) (show slots + 0 + 0 + (7302250 - (slots + 0 + 0)) ≤ 7302250 by omega)
        · have hf := ite_n hq231 hf
          refine lv_iconst (v := (0 : Int32)) hx hb dL_law_774 rfl ?_
          obtain ⟨hr1, hs1⟩ := Prod.mk.inj (Option.some.inj hf)
          exact absurd hr1 (by decide)
      have hf := ite_n hq218 hf
      by_cases hq232 : x3 = (20 : Int32)
      · have hf := ite_p hq232 hf
        refine lv_tableIn (tgt := 776) (off := 744) hx hb dL_law_32 (by rw [hq232]; decide) (by rw [hq232]; decide) (by rw [hq232]; decide) (by decide) ?_
        refine lv_aload_n hx hb dL_law_776 rfl (lv_at hl 1 rfl) ?_
        refine lv_aload_n hx hb dL_law_777 rfl (lv_at hl 0 rfl) ?_
        refine lv_iload_n hx hb dL_law_778 rfl (lv_at hl 3 rfl) ?_
        refine lv_iconst (v := (1 : Int32)) hx hb dL_law_779 rfl ?_
        refine lv_iadd hx hb dL_law_780 ?_
        obtain ⟨hk233, hf⟩ := zc_s hf
        refine va_sld hx hb hX hbl hbA hS (kS_s hk233) dL_law_781 ?_
        refine lv_aload_n hx hb dL_law_782 rfl (lv_at hl 0 rfl) ?_
        refine lv_iload_n hx hb dL_law_783 rfl (lv_at hl 3 rfl) ?_
        refine lv_iconst (v := (2 : Int32)) hx hb dL_law_784 rfl ?_
        refine lv_iadd hx hb dL_law_785 ?_
        obtain ⟨hk234, hf⟩ := zc_s hf
        refine va_sld hx hb hX hbl hbA hS (kS_s hk234) dL_law_786 ?_
        obtain ⟨hk235, hf⟩ := zc_s hf
        obtain ⟨r236, σ237, hcr236, hf⟩ := zq_s hf
        refine xV (As := [.int (xs ((v3 + (1 : Int32))).toNatClampNeg), .int (xs ((v3 + (2 : Int32))).toNatClampNeg)]) (rest := []) (st1 := [.int r236]) E hR hS hl (C_X8_step hcr236) hk235 ok8 lb_X8_step lv_X8_step ml_L_100 ⟨Nat.le_of_ble_eq_true rfl, Nat.le_of_ble_eq_true rfl⟩ rfl rfl rfl (Nat.le_of_ble_eq_true rfl) dL_law_787 ⟨show cells + 0 ≤ 600000 by omega, show slots + 0 ≤ 7302250 by omega⟩ (fun H locs hR hS => ?_)
        refine lv_aload_n hx hb dL_law_790 rfl (lv_at hl 2 rfl) ?_
        refine lv_aload_n hx hb dL_law_791 rfl (lv_at hl 0 rfl) ?_
        refine lv_iload_n hx hb dL_law_792 rfl (lv_at hl 3 rfl) ?_
        refine lv_iconst (v := (1 : Int32)) hx hb dL_law_793 rfl ?_
        refine lv_iadd hx hb dL_law_794 ?_
        obtain ⟨hk238, hf⟩ := zc_s hf
        refine va_sld hx hb hX hbl hbA hS (kS_s hk238) dL_law_795 ?_
        refine lv_aload_n hx hb dL_law_796 rfl (lv_at hl 0 rfl) ?_
        refine lv_iload_n hx hb dL_law_797 rfl (lv_at hl 3 rfl) ?_
        refine lv_iconst (v := (2 : Int32)) hx hb dL_law_798 rfl ?_
        refine lv_iadd hx hb dL_law_799 ?_
        obtain ⟨hk239, hf⟩ := zc_s hf
        refine va_sld hx hb hX hbl hbA hS (kS_s hk239) dL_law_800 ?_
        obtain ⟨hk240, hf⟩ := zc_s hf
        obtain ⟨r241, σ242, hcr241, hf⟩ := zq_s hf
        refine xV (As := [.int (xs ((v3 + (1 : Int32))).toNatClampNeg), .int (xs ((v3 + (2 : Int32))).toNatClampNeg)]) (rest := [.int r236]) (st1 := [.int r241, .int r236]) E hR hS hl (C_X9_step hcr241) hk240 ok9 lb_X9_step lv_X9_step ml_L_103 ⟨Nat.le_of_ble_eq_true rfl, Nat.le_of_ble_eq_true rfl⟩ rfl rfl rfl (Nat.le_of_ble_eq_true rfl) dL_law_801 ⟨show cells + 0 + 0 ≤ 600000 by omega, show slots + 0 + 0 ≤ 7302250 by omega⟩ (fun H locs hR hS => ?_)
        refine lv_icmp_eq (tgt := 1007) hx hb dL_law_804 (by decide) (fun hq243 => ?_) (fun hq243 => ?_)
        · have hf := ite_p hq243 hf
          exact V_L_law_1007 _ (n * 101 + 101) (n * 404 + 404) ih _ _ _ _ _ hf (600000 - (cells + 0 + 0)) (7302250 - (slots + 0 + 0)) (by constructor <;> omega) p e s m below meth c _ _ _ _ _ EL hR hS (lv_sub hl [0, 1, 2, 3] rfl) (show cells + 0 + 0 + (600000 - (cells + 0 + 0)) ≤ 600000 by omega) (show slots + 0 + 0 + (7302250 - (slots + 0 + 0)) ≤ 7302250 by omega)
        · have hf := ite_n hq243 hf
          refine lv_iconst (v := (0 : Int32)) hx hb dL_law_807 rfl ?_
          obtain ⟨hr1, hs1⟩ := Prod.mk.inj (Option.some.inj hf)
          exact absurd hr1 (by decide)
      have hf := ite_n hq232 hf
      by_cases hq244 : x3 = (21 : Int32)
      · have hf := ite_p hq244 hf
        refine lv_tableIn (tgt := 809) (off := 777) hx hb dL_law_32 (by rw [hq244]; decide) (by rw [hq244]; decide) (by rw [hq244]; decide) (by decide) ?_
        refine lv_aload_n hx hb dL_law_809 rfl (lv_at hl 1 rfl) ?_
        refine lv_aload_n hx hb dL_law_810 rfl (lv_at hl 0 rfl) ?_
        refine lv_iload_n hx hb dL_law_811 rfl (lv_at hl 3 rfl) ?_
        refine lv_iconst (v := (1 : Int32)) hx hb dL_law_812 rfl ?_
        refine lv_iadd hx hb dL_law_813 ?_
        obtain ⟨hk245, hf⟩ := zc_s hf
        refine va_sld hx hb hX hbl hbA hS (kS_s hk245) dL_law_814 ?_
        refine lv_aload_n hx hb dL_law_815 rfl (lv_at hl 0 rfl) ?_
        refine lv_iload_n hx hb dL_law_816 rfl (lv_at hl 3 rfl) ?_
        refine lv_iconst (v := (2 : Int32)) hx hb dL_law_817 rfl ?_
        refine lv_iadd hx hb dL_law_818 ?_
        obtain ⟨hk246, hf⟩ := zc_s hf
        refine va_sld hx hb hX hbl hbA hS (kS_s hk246) dL_law_819 ?_
        obtain ⟨hk247, hf⟩ := zc_s hf
        obtain ⟨r248, σ249, hcr248, hf⟩ := zq_s hf
        refine xV (As := [.int (xs ((v3 + (1 : Int32))).toNatClampNeg), .int (xs ((v3 + (2 : Int32))).toNatClampNeg)]) (rest := []) (st1 := [.int r248]) E hR hS hl (C_X8_follow hcr248) hk247 ok8 lb_X8_follow lv_X8_follow ml_L_104 ⟨Nat.le_of_ble_eq_true rfl, Nat.le_of_ble_eq_true rfl⟩ rfl rfl rfl (Nat.le_of_ble_eq_true rfl) dL_law_820 ⟨show cells + 0 ≤ 600000 by omega, show slots + 0 ≤ 7302250 by omega⟩ (fun H locs hR hS => ?_)
        refine lv_aload_n hx hb dL_law_823 rfl (lv_at hl 2 rfl) ?_
        refine lv_aload_n hx hb dL_law_824 rfl (lv_at hl 0 rfl) ?_
        refine lv_iload_n hx hb dL_law_825 rfl (lv_at hl 3 rfl) ?_
        refine lv_iconst (v := (1 : Int32)) hx hb dL_law_826 rfl ?_
        refine lv_iadd hx hb dL_law_827 ?_
        obtain ⟨hk250, hf⟩ := zc_s hf
        refine va_sld hx hb hX hbl hbA hS (kS_s hk250) dL_law_828 ?_
        refine lv_aload_n hx hb dL_law_829 rfl (lv_at hl 0 rfl) ?_
        refine lv_iload_n hx hb dL_law_830 rfl (lv_at hl 3 rfl) ?_
        refine lv_iconst (v := (2 : Int32)) hx hb dL_law_831 rfl ?_
        refine lv_iadd hx hb dL_law_832 ?_
        obtain ⟨hk251, hf⟩ := zc_s hf
        refine va_sld hx hb hX hbl hbA hS (kS_s hk251) dL_law_833 ?_
        obtain ⟨hk252, hf⟩ := zc_s hf
        obtain ⟨r253, σ254, hcr253, hf⟩ := zq_s hf
        refine xV (As := [.int (xs ((v3 + (1 : Int32))).toNatClampNeg), .int (xs ((v3 + (2 : Int32))).toNatClampNeg)]) (rest := [.int r248]) (st1 := [.int r253, .int r248]) E hR hS hl (C_X9_follow hcr253) hk252 ok9 lb_X9_follow lv_X9_follow ml_L_107 ⟨Nat.le_of_ble_eq_true rfl, Nat.le_of_ble_eq_true rfl⟩ rfl rfl rfl (Nat.le_of_ble_eq_true rfl) dL_law_834 ⟨show cells + 0 + 0 ≤ 600000 by omega, show slots + 0 + 0 ≤ 7302250 by omega⟩ (fun H locs hR hS => ?_)
        refine lv_icmp_eq (tgt := 1007) hx hb dL_law_837 (by decide) (fun hq255 => ?_) (fun hq255 => ?_)
        · have hf := ite_p hq255 hf
          exact V_L_law_1007 _ (n * 101 + 101) (n * 404 + 404) ih _ _ _ _ _ hf (600000 - (cells + 0 + 0)) (7302250 - (slots + 0 + 0)) (by constructor <;> omega) p e s m below meth c _ _ _ _ _ EL hR hS (lv_sub hl [0, 1, 2, 3] rfl) (show cells + 0 + 0 + (600000 - (cells + 0 + 0)) ≤ 600000 by omega) (show slots + 0 + 0 + (7302250 - (slots + 0 + 0)) ≤ 7302250 by omega)
        · have hf := ite_n hq255 hf
          refine lv_iconst (v := (0 : Int32)) hx hb dL_law_840 rfl ?_
          obtain ⟨hr1, hs1⟩ := Prod.mk.inj (Option.some.inj hf)
          exact absurd hr1 (by decide)
      have hf := ite_n hq244 hf
      by_cases hq256 : x3 = (22 : Int32)
      · have hf := ite_p hq256 hf
        refine lv_tableIn (tgt := 842) (off := 810) hx hb dL_law_32 (by rw [hq256]; decide) (by rw [hq256]; decide) (by rw [hq256]; decide) (by decide) ?_
        refine lv_aload_n hx hb dL_law_842 rfl (lv_at hl 1 rfl) ?_
        refine lv_aload_n hx hb dL_law_843 rfl (lv_at hl 0 rfl) ?_
        refine lv_iload_n hx hb dL_law_844 rfl (lv_at hl 3 rfl) ?_
        refine lv_iconst (v := (1 : Int32)) hx hb dL_law_845 rfl ?_
        refine lv_iadd hx hb dL_law_846 ?_
        obtain ⟨hk257, hf⟩ := zc_s hf
        refine va_sld hx hb hX hbl hbA hS (kS_s hk257) dL_law_847 ?_
        obtain ⟨hk258, hf⟩ := zc_s hf
        obtain ⟨r259, σ260, hcr259, hf⟩ := zq_s hf
        refine xV (As := [.int (xs ((v3 + (1 : Int32))).toNatClampNeg)]) (rest := []) (st1 := [.int r259]) E hR hS hl (C_X8_former hcr259) hk258 ok8 lb_X8_former lv_X8_former ml_L_108 ⟨Nat.le_of_ble_eq_true rfl, Nat.le_of_ble_eq_true rfl⟩ rfl rfl rfl (Nat.le_of_ble_eq_true rfl) dL_law_848 ⟨show cells + 0 ≤ 600000 by omega, show slots + 0 ≤ 7302250 by omega⟩ (fun H locs hR hS => ?_)
        refine lv_aload_n hx hb dL_law_851 rfl (lv_at hl 2 rfl) ?_
        refine lv_aload_n hx hb dL_law_852 rfl (lv_at hl 0 rfl) ?_
        refine lv_iload_n hx hb dL_law_853 rfl (lv_at hl 3 rfl) ?_
        refine lv_iconst (v := (1 : Int32)) hx hb dL_law_854 rfl ?_
        refine lv_iadd hx hb dL_law_855 ?_
        obtain ⟨hk261, hf⟩ := zc_s hf
        refine va_sld hx hb hX hbl hbA hS (kS_s hk261) dL_law_856 ?_
        obtain ⟨hk262, hf⟩ := zc_s hf
        obtain ⟨r263, σ264, hcr263, hf⟩ := zq_s hf
        refine xV (As := [.int (xs ((v3 + (1 : Int32))).toNatClampNeg)]) (rest := [.int r259]) (st1 := [.int r263, .int r259]) E hR hS hl (C_X9_former hcr263) hk262 ok9 lb_X9_former lv_X9_former ml_L_111 ⟨Nat.le_of_ble_eq_true rfl, Nat.le_of_ble_eq_true rfl⟩ rfl rfl rfl (Nat.le_of_ble_eq_true rfl) dL_law_857 ⟨show cells + 0 + 0 ≤ 600000 by omega, show slots + 0 + 0 ≤ 7302250 by omega⟩ (fun H locs hR hS => ?_)
        refine lv_icmp_eq (tgt := 1007) hx hb dL_law_860 (by decide) (fun hq265 => ?_) (fun hq265 => ?_)
        · have hf := ite_p hq265 hf
          exact V_L_law_1007 _ (n * 101 + 101) (n * 404 + 404) ih _ _ _ _ _ hf (600000 - (cells + 0 + 0)) (7302250 - (slots + 0 + 0)) (by constructor <;> omega) p e s m below meth c _ _ _ _ _ EL hR hS (lv_sub hl [0, 1, 2, 3] rfl) (show cells + 0 + 0 + (600000 - (cells + 0 + 0)) ≤ 600000 by omega) (show slots + 0 + 0 + (7302250 - (slots + 0 + 0)) ≤ 7302250 by omega)
        · have hf := ite_n hq265 hf
          refine lv_iconst (v := (0 : Int32)) hx hb dL_law_863 rfl ?_
          obtain ⟨hr1, hs1⟩ := Prod.mk.inj (Option.some.inj hf)
          exact absurd hr1 (by decide)
      have hf := ite_n hq256 hf
      by_cases hq266 : x3 = (23 : Int32)
      · have hf := ite_p hq266 hf
        refine lv_tableIn (tgt := 865) (off := 833) hx hb dL_law_32 (by rw [hq266]; decide) (by rw [hq266]; decide) (by rw [hq266]; decide) (by decide) ?_
        refine lv_aload_n hx hb dL_law_865 rfl (lv_at hl 1 rfl) ?_
        refine lv_aload_n hx hb dL_law_866 rfl (lv_at hl 0 rfl) ?_
        refine lv_iload_n hx hb dL_law_867 rfl (lv_at hl 3 rfl) ?_
        refine lv_iconst (v := (1 : Int32)) hx hb dL_law_868 rfl ?_
        refine lv_iadd hx hb dL_law_869 ?_
        obtain ⟨hk267, hf⟩ := zc_s hf
        refine va_sld hx hb hX hbl hbA hS (kS_s hk267) dL_law_870 ?_
        refine lv_aload_n hx hb dL_law_871 rfl (lv_at hl 0 rfl) ?_
        refine lv_iload_n hx hb dL_law_872 rfl (lv_at hl 3 rfl) ?_
        refine lv_iconst (v := (2 : Int32)) hx hb dL_law_873 rfl ?_
        refine lv_iadd hx hb dL_law_874 ?_
        obtain ⟨hk268, hf⟩ := zc_s hf
        refine va_sld hx hb hX hbl hbA hS (kS_s hk268) dL_law_875 ?_
        refine lv_i2l (v := ((xs ((v3 + (2 : Int32))).toNatClampNeg)).toInt64) hx hb dL_law_876 rfl ?_
        refine lv_bipush (v := (32 : Int32)) hx hb dL_law_877 rfl ?_
        refine lv_lshl (v := ((((xs ((v3 + (2 : Int32))).toNatClampNeg)).toInt64) <<< ((32 : Int32).toInt64 &&& 63))) hx hb dL_law_879 rfl ?_
        refine lv_aload_n hx hb dL_law_880 rfl (lv_at hl 0 rfl) ?_
        refine lv_iload_n hx hb dL_law_881 rfl (lv_at hl 3 rfl) ?_
        refine lv_iconst (v := (3 : Int32)) hx hb dL_law_882 rfl ?_
        refine lv_iadd hx hb dL_law_883 ?_
        obtain ⟨hk269, hf⟩ := zc_s hf
        refine va_sld hx hb hX hbl hbA hS (kS_s hk269) dL_law_884 ?_
        refine lv_i2l (v := ((xs ((v3 + (3 : Int32))).toNatClampNeg)).toInt64) hx hb dL_law_885 rfl ?_
        refine lv_ldc2 (v := (4294967295 : Int64)) hx hb hown (hts _ kl_L_27) dL_law_886 ?_
        refine lv_land hx hb dL_law_889 ?_
        refine lv_lor hx hb dL_law_890 ?_
        obtain ⟨hk270, hf⟩ := zc_s hf
        obtain ⟨r271, σ272, hcr271, hf⟩ := zq_s hf
        refine xV (As := [.int (xs ((v3 + (1 : Int32))).toNatClampNeg), .long (((((xs ((v3 + (2 : Int32))).toNatClampNeg)).toInt64) <<< ((32 : Int32).toInt64 &&& 63)) ||| ((((xs ((v3 + (3 : Int32))).toNatClampNeg)).toInt64) &&& (4294967295 : Int64)))]) (rest := []) (st1 := [.int r271]) E hR hS hl (C_X8_judge hcr271) hk270 ok8 lb_X8_judge lv_X8_judge ml_L_112 ⟨Nat.le_of_ble_eq_true rfl, Nat.le_of_ble_eq_true rfl⟩ rfl rfl rfl (Nat.le_of_ble_eq_true rfl) dL_law_891 ⟨show cells + 5 ≤ 600000 by omega, show slots + 20 ≤ 7302250 by omega⟩ (fun H locs hR hS => ?_)
        refine lv_aload_n hx hb dL_law_894 rfl (lv_at hl 2 rfl) ?_
        refine lv_aload_n hx hb dL_law_895 rfl (lv_at hl 0 rfl) ?_
        refine lv_iload_n hx hb dL_law_896 rfl (lv_at hl 3 rfl) ?_
        refine lv_iconst (v := (1 : Int32)) hx hb dL_law_897 rfl ?_
        refine lv_iadd hx hb dL_law_898 ?_
        obtain ⟨hk273, hf⟩ := zc_s hf
        refine va_sld hx hb hX hbl hbA hS (kS_s hk273) dL_law_899 ?_
        refine lv_aload_n hx hb dL_law_900 rfl (lv_at hl 0 rfl) ?_
        refine lv_iload_n hx hb dL_law_901 rfl (lv_at hl 3 rfl) ?_
        refine lv_iconst (v := (2 : Int32)) hx hb dL_law_902 rfl ?_
        refine lv_iadd hx hb dL_law_903 ?_
        obtain ⟨hk274, hf⟩ := zc_s hf
        refine va_sld hx hb hX hbl hbA hS (kS_s hk274) dL_law_904 ?_
        refine lv_i2l (v := ((xs ((v3 + (2 : Int32))).toNatClampNeg)).toInt64) hx hb dL_law_905 rfl ?_
        refine lv_bipush (v := (32 : Int32)) hx hb dL_law_906 rfl ?_
        refine lv_lshl (v := ((((xs ((v3 + (2 : Int32))).toNatClampNeg)).toInt64) <<< ((32 : Int32).toInt64 &&& 63))) hx hb dL_law_908 rfl ?_
        refine lv_aload_n hx hb dL_law_909 rfl (lv_at hl 0 rfl) ?_
        refine lv_iload_n hx hb dL_law_910 rfl (lv_at hl 3 rfl) ?_
        refine lv_iconst (v := (3 : Int32)) hx hb dL_law_911 rfl ?_
        refine lv_iadd hx hb dL_law_912 ?_
        obtain ⟨hk275, hf⟩ := zc_s hf
        refine va_sld hx hb hX hbl hbA hS (kS_s hk275) dL_law_913 ?_
        refine lv_i2l (v := ((xs ((v3 + (3 : Int32))).toNatClampNeg)).toInt64) hx hb dL_law_914 rfl ?_
        refine lv_ldc2 (v := (4294967295 : Int64)) hx hb hown (hts _ kl_L_27) dL_law_915 ?_
        refine lv_land hx hb dL_law_918 ?_
        refine lv_lor hx hb dL_law_919 ?_
        obtain ⟨hk276, hf⟩ := zc_s hf
        obtain ⟨r277, σ278, hcr277, hf⟩ := zq_s hf
        refine xV (As := [.int (xs ((v3 + (1 : Int32))).toNatClampNeg), .long (((((xs ((v3 + (2 : Int32))).toNatClampNeg)).toInt64) <<< ((32 : Int32).toInt64 &&& 63)) ||| ((((xs ((v3 + (3 : Int32))).toNatClampNeg)).toInt64) &&& (4294967295 : Int64)))]) (rest := [.int r271]) (st1 := [.int r277, .int r271]) E hR hS hl (C_X9_judge hcr277) hk276 ok9 lb_X9_judge lv_X9_judge ml_L_115 ⟨Nat.le_of_ble_eq_true rfl, Nat.le_of_ble_eq_true rfl⟩ rfl rfl rfl (Nat.le_of_ble_eq_true rfl) dL_law_920 ⟨show cells + 5 + 0 ≤ 600000 by omega, show slots + 20 + 0 ≤ 7302250 by omega⟩ (fun H locs hR hS => ?_)
        refine lv_icmp_eq (tgt := 1007) hx hb dL_law_923 (by decide) (fun hq279 => ?_) (fun hq279 => ?_)
        · have hf := ite_p hq279 hf
          exact V_L_law_1007 _ (n * 101 + 101) (n * 404 + 404) ih _ _ _ _ _ hf (600000 - (cells + 5 + 0)) (7302250 - (slots + 20 + 0)) (by constructor <;> omega) p e s m below meth c _ _ _ _ _ EL hR hS (lv_sub hl [0, 1, 2, 3] rfl) (show cells + 5 + 0 + (600000 - (cells + 5 + 0)) ≤ 600000 by omega) (show slots + 20 + 0 + (7302250 - (slots + 20 + 0)) ≤ 7302250 by omega)
        · have hf := ite_n hq279 hf
          refine lv_iconst (v := (0 : Int32)) hx hb dL_law_926 rfl ?_
          obtain ⟨hr1, hs1⟩ := Prod.mk.inj (Option.some.inj hf)
          exact absurd hr1 (by decide)
      have hf := ite_n hq266 hf
      by_cases hq280 : x3 = (24 : Int32)
      · have hf := ite_p hq280 hf
        refine lv_tableIn (tgt := 928) (off := 896) hx hb dL_law_32 (by rw [hq280]; decide) (by rw [hq280]; decide) (by rw [hq280]; decide) (by decide) ?_
        refine lv_aload_n hx hb dL_law_928 rfl (lv_at hl 1 rfl) ?_
        refine lv_aload_n hx hb dL_law_929 rfl (lv_at hl 0 rfl) ?_
        refine lv_iload_n hx hb dL_law_930 rfl (lv_at hl 3 rfl) ?_
        refine lv_iconst (v := (1 : Int32)) hx hb dL_law_931 rfl ?_
        refine lv_iadd hx hb dL_law_932 ?_
        obtain ⟨hk281, hf⟩ := zc_s hf
        refine va_sld hx hb hX hbl hbA hS (kS_s hk281) dL_law_933 ?_
        obtain ⟨hk282, hf⟩ := zc_s hf
        obtain ⟨r283, σ284, hcr283, hf⟩ := zq_s hf
        refine xV (As := [.int (xs ((v3 + (1 : Int32))).toNatClampNeg)]) (rest := []) (st1 := [.int r283]) E hR hS hl (C_X8_keep hcr283) hk282 ok8 lb_X8_keep lv_X8_keep ml_L_116 ⟨Nat.le_of_ble_eq_true rfl, Nat.le_of_ble_eq_true rfl⟩ rfl rfl rfl (Nat.le_of_ble_eq_true rfl) dL_law_934 ⟨show cells + 0 ≤ 600000 by omega, show slots + 0 ≤ 7302250 by omega⟩ (fun H locs hR hS => ?_)
        refine lv_aload_n hx hb dL_law_937 rfl (lv_at hl 2 rfl) ?_
        refine lv_aload_n hx hb dL_law_938 rfl (lv_at hl 0 rfl) ?_
        refine lv_iload_n hx hb dL_law_939 rfl (lv_at hl 3 rfl) ?_
        refine lv_iconst (v := (1 : Int32)) hx hb dL_law_940 rfl ?_
        refine lv_iadd hx hb dL_law_941 ?_
        obtain ⟨hk285, hf⟩ := zc_s hf
        refine va_sld hx hb hX hbl hbA hS (kS_s hk285) dL_law_942 ?_
        obtain ⟨hk286, hf⟩ := zc_s hf
        obtain ⟨r287, σ288, hcr287, hf⟩ := zq_s hf
        refine xV (As := [.int (xs ((v3 + (1 : Int32))).toNatClampNeg)]) (rest := [.int r283]) (st1 := [.int r287, .int r283]) E hR hS hl (C_X9_keep hcr287) hk286 ok9 lb_X9_keep lv_X9_keep ml_L_119 ⟨Nat.le_of_ble_eq_true rfl, Nat.le_of_ble_eq_true rfl⟩ rfl rfl rfl (Nat.le_of_ble_eq_true rfl) dL_law_943 ⟨show cells + 0 + 0 ≤ 600000 by omega, show slots + 0 + 0 ≤ 7302250 by omega⟩ (fun H locs hR hS => ?_)
        refine lv_icmp_eq (tgt := 1007) hx hb dL_law_946 (by decide) (fun hq289 => ?_) (fun hq289 => ?_)
        · have hf := ite_p hq289 hf
          exact V_L_law_1007 _ (n * 101 + 101) (n * 404 + 404) ih _ _ _ _ _ hf (600000 - (cells + 0 + 0)) (7302250 - (slots + 0 + 0)) (by constructor <;> omega) p e s m below meth c _ _ _ _ _ EL hR hS (lv_sub hl [0, 1, 2, 3] rfl) (show cells + 0 + 0 + (600000 - (cells + 0 + 0)) ≤ 600000 by omega) (show slots + 0 + 0 + (7302250 - (slots + 0 + 0)) ≤ 7302250 by omega)
        · have hf := ite_n hq289 hf
          refine lv_iconst (v := (0 : Int32)) hx hb dL_law_949 rfl ?_
          obtain ⟨hr1, hs1⟩ := Prod.mk.inj (Option.some.inj hf)
          exact absurd hr1 (by decide)
      have hf := ite_n hq280 hf
      by_cases hq290 : x3 = (25 : Int32)
      · have hf := ite_p hq290 hf
        refine lv_tableIn (tgt := 951) (off := 919) hx hb dL_law_32 (by rw [hq290]; decide) (by rw [hq290]; decide) (by rw [hq290]; decide) (by decide) ?_
        refine lv_aload_n hx hb dL_law_951 rfl (lv_at hl 1 rfl) ?_
        refine lv_aload_n hx hb dL_law_952 rfl (lv_at hl 0 rfl) ?_
        refine lv_iload_n hx hb dL_law_953 rfl (lv_at hl 3 rfl) ?_
        refine lv_iconst (v := (1 : Int32)) hx hb dL_law_954 rfl ?_
        refine lv_iadd hx hb dL_law_955 ?_
        obtain ⟨hk291, hf⟩ := zc_s hf
        refine va_sld hx hb hX hbl hbA hS (kS_s hk291) dL_law_956 ?_
        obtain ⟨hk292, hf⟩ := zc_s hf
        obtain ⟨r293, σ294, hcr293, hf⟩ := zq_s hf
        refine xV (As := [.int (xs ((v3 + (1 : Int32))).toNatClampNeg)]) (rest := []) (st1 := [.int r293]) E hR hS hl (C_X8_again hcr293) hk292 ok8 lb_X8_again lv_X8_again ml_L_120 ⟨Nat.le_of_ble_eq_true rfl, Nat.le_of_ble_eq_true rfl⟩ rfl rfl rfl (Nat.le_of_ble_eq_true rfl) dL_law_957 ⟨show cells + 0 ≤ 600000 by omega, show slots + 0 ≤ 7302250 by omega⟩ (fun H locs hR hS => ?_)
        refine lv_aload_n hx hb dL_law_960 rfl (lv_at hl 2 rfl) ?_
        refine lv_aload_n hx hb dL_law_961 rfl (lv_at hl 0 rfl) ?_
        refine lv_iload_n hx hb dL_law_962 rfl (lv_at hl 3 rfl) ?_
        refine lv_iconst (v := (1 : Int32)) hx hb dL_law_963 rfl ?_
        refine lv_iadd hx hb dL_law_964 ?_
        obtain ⟨hk295, hf⟩ := zc_s hf
        refine va_sld hx hb hX hbl hbA hS (kS_s hk295) dL_law_965 ?_
        obtain ⟨hk296, hf⟩ := zc_s hf
        obtain ⟨r297, σ298, hcr297, hf⟩ := zq_s hf
        refine xV (As := [.int (xs ((v3 + (1 : Int32))).toNatClampNeg)]) (rest := [.int r293]) (st1 := [.int r297, .int r293]) E hR hS hl (C_X9_again hcr297) hk296 ok9 lb_X9_again lv_X9_again ml_L_123 ⟨Nat.le_of_ble_eq_true rfl, Nat.le_of_ble_eq_true rfl⟩ rfl rfl rfl (Nat.le_of_ble_eq_true rfl) dL_law_966 ⟨show cells + 0 + 0 ≤ 600000 by omega, show slots + 0 + 0 ≤ 7302250 by omega⟩ (fun H locs hR hS => ?_)
        refine lv_icmp_eq (tgt := 1007) hx hb dL_law_969 (by decide) (fun hq299 => ?_) (fun hq299 => ?_)
        · have hf := ite_p hq299 hf
          exact V_L_law_1007 _ (n * 101 + 101) (n * 404 + 404) ih _ _ _ _ _ hf (600000 - (cells + 0 + 0)) (7302250 - (slots + 0 + 0)) (by constructor <;> omega) p e s m below meth c _ _ _ _ _ EL hR hS (lv_sub hl [0, 1, 2, 3] rfl) (show cells + 0 + 0 + (600000 - (cells + 0 + 0)) ≤ 600000 by omega) (show slots + 0 + 0 + (7302250 - (slots + 0 + 0)) ≤ 7302250 by omega)
        · have hf := ite_n hq299 hf
          refine lv_iconst (v := (0 : Int32)) hx hb dL_law_972 rfl ?_
          obtain ⟨hr1, hs1⟩ := Prod.mk.inj (Option.some.inj hf)
          exact absurd hr1 (by decide)
      have hf := ite_n hq290 hf
      by_cases hq300 : x3 = (26 : Int32)
      · have hf := ite_p hq300 hf
        refine lv_tableIn (tgt := 974) (off := 942) hx hb dL_law_32 (by rw [hq300]; decide) (by rw [hq300]; decide) (by rw [hq300]; decide) (by decide) ?_
        refine lv_aload_n hx hb dL_law_974 rfl (lv_at hl 1 rfl) ?_
        refine lv_aload_n hx hb dL_law_975 rfl (lv_at hl 0 rfl) ?_
        refine lv_iload_n hx hb dL_law_976 rfl (lv_at hl 3 rfl) ?_
        refine lv_iconst (v := (1 : Int32)) hx hb dL_law_977 rfl ?_
        refine lv_iadd hx hb dL_law_978 ?_
        obtain ⟨hk301, hf⟩ := zc_s hf
        refine va_sld hx hb hX hbl hbA hS (kS_s hk301) dL_law_979 ?_
        refine lv_aload_n hx hb dL_law_980 rfl (lv_at hl 0 rfl) ?_
        refine lv_iload_n hx hb dL_law_981 rfl (lv_at hl 3 rfl) ?_
        refine lv_iconst (v := (2 : Int32)) hx hb dL_law_982 rfl ?_
        refine lv_iadd hx hb dL_law_983 ?_
        obtain ⟨hk302, hf⟩ := zc_s hf
        refine va_sld hx hb hX hbl hbA hS (kS_s hk302) dL_law_984 ?_
        obtain ⟨hk303, hf⟩ := zc_s hf
        obtain ⟨r304, σ305, hcr304, hf⟩ := zq_s hf
        refine xV (As := [.int (xs ((v3 + (1 : Int32))).toNatClampNeg), .int (xs ((v3 + (2 : Int32))).toNatClampNeg)]) (rest := []) (st1 := [.int r304]) E hR hS hl (C_X8_differ hcr304) hk303 ok8 lb_X8_differ lv_X8_differ ml_L_124 ⟨Nat.le_of_ble_eq_true rfl, Nat.le_of_ble_eq_true rfl⟩ rfl rfl rfl (Nat.le_of_ble_eq_true rfl) dL_law_985 ⟨show cells + 101 ≤ 600000 by omega, show slots + 404 ≤ 7302250 by omega⟩ (fun H locs hR hS => ?_)
        refine lv_aload_n hx hb dL_law_988 rfl (lv_at hl 2 rfl) ?_
        refine lv_aload_n hx hb dL_law_989 rfl (lv_at hl 0 rfl) ?_
        refine lv_iload_n hx hb dL_law_990 rfl (lv_at hl 3 rfl) ?_
        refine lv_iconst (v := (1 : Int32)) hx hb dL_law_991 rfl ?_
        refine lv_iadd hx hb dL_law_992 ?_
        obtain ⟨hk306, hf⟩ := zc_s hf
        refine va_sld hx hb hX hbl hbA hS (kS_s hk306) dL_law_993 ?_
        refine lv_aload_n hx hb dL_law_994 rfl (lv_at hl 0 rfl) ?_
        refine lv_iload_n hx hb dL_law_995 rfl (lv_at hl 3 rfl) ?_
        refine lv_iconst (v := (2 : Int32)) hx hb dL_law_996 rfl ?_
        refine lv_iadd hx hb dL_law_997 ?_
        obtain ⟨hk307, hf⟩ := zc_s hf
        refine va_sld hx hb hX hbl hbA hS (kS_s hk307) dL_law_998 ?_
        obtain ⟨hk308, hf⟩ := zc_s hf
        obtain ⟨r309, σ310, hcr309, hf⟩ := zq_s hf
        refine xV (As := [.int (xs ((v3 + (1 : Int32))).toNatClampNeg), .int (xs ((v3 + (2 : Int32))).toNatClampNeg)]) (rest := [.int r304]) (st1 := [.int r309, .int r304]) E hR hS hl (C_X9_differ hcr309) hk308 ok9 lb_X9_differ lv_X9_differ ml_L_127 ⟨Nat.le_of_ble_eq_true rfl, Nat.le_of_ble_eq_true rfl⟩ rfl rfl rfl (Nat.le_of_ble_eq_true rfl) dL_law_999 ⟨show cells + 101 + 0 ≤ 600000 by omega, show slots + 404 + 0 ≤ 7302250 by omega⟩ (fun H locs hR hS => ?_)
        refine lv_icmp_eq (tgt := 1007) hx hb dL_law_1002 (by decide) (fun hq311 => ?_) (fun hq311 => ?_)
        · have hf := ite_p hq311 hf
          exact V_L_law_1007 _ (n * 101 + 101) (n * 404 + 404) ih _ _ _ _ _ hf (600000 - (cells + 101 + 0)) (7302250 - (slots + 404 + 0)) (by constructor <;> omega) p e s m below meth c _ _ _ _ _ EL hR hS (lv_sub hl [0, 1, 2, 3] rfl) (show cells + 101 + 0 + (600000 - (cells + 101 + 0)) ≤ 600000 by omega) (show slots + 404 + 0 + (7302250 - (slots + 404 + 0)) ≤ 7302250 by omega)
        · have hf := ite_n hq311 hf
          refine lv_iconst (v := (0 : Int32)) hx hb dL_law_1005 rfl ?_
          obtain ⟨hr1, hs1⟩ := Prod.mk.inj (Option.some.inj hf)
          exact absurd hr1 (by decide)
      have hf := ite_n hq300 hf
      refine lv_tableOut (tgt := 1007) hx hb dL_law_32 (sw_out (fun j h1 h2 => by
          have hj : j = 0 ∨ j = 1 ∨ j = 2 ∨ j = 3 ∨ j = 4 ∨ j = 5 ∨ j = 6 ∨ j = 7 ∨ j = 8 ∨ j = 9 ∨ j = 10 ∨ j = 11 ∨ j = 12 ∨ j = 13 ∨ j = 14 ∨ j = 15 ∨ j = 16 ∨ j = 17 ∨ j = 18 ∨ j = 19 ∨ j = 20 ∨ j = 21 ∨ j = 22 ∨ j = 23 ∨ j = 24 ∨ j = 25 ∨ j = 26 := by omega
          rcases hj with rfl | rfl | rfl | rfl | rfl | rfl | rfl | rfl | rfl | rfl | rfl | rfl | rfl | rfl | rfl | rfl | rfl | rfl | rfl | rfl | rfl | rfl | rfl | rfl | rfl | rfl | rfl
          · exact hq4
          · exact hq16
          · exact hq26
          · exact hq36
          · exact hq50
          · exact hq58
          · exact hq68
          · exact hq80
          · exact hq90
          · exact hq104
          · exact hq118
          · exact hq130
          · exact hq142
          · exact hq152
          · exact hq164
          · exact hq174
          · exact hq182
          · exact hq192
          · exact hq204
          · exact hq218
          · exact hq232
          · exact hq244
          · exact hq256
          · exact hq266
          · exact hq280
          · exact hq290
          · exact hq300
          )) (by decide) ?_
      exact V_L_law_1007 _ (n * 101 + 101) (n * 404 + 404) ih _ _ _ _ _ hf (600000 - (cells)) (7302250 - (slots)) (by constructor <;> omega) p e s m below meth c _ _ _ _ _ EL hR hS (lv_sub hl [0, 1, 2, 3] rfl) (show cells + (600000 - (cells)) ≤ 600000 by omega) (show slots + (7302250 - (slots)) ≤ 7302250 by omega)
set_option maxRecDepth 100000 in
def f_L_law (L : Nat) (xs : Nat → Int32) (σ : Mm) : Option (Int32 × Mm) :=
  zlt (nw σ (0, 8)) (fun σ312 => zcb (f_X8_init (mN σ) σ312) (fun r313 σ314 => zlt (nw σ314 (0, 9)) (fun σ315 => zcb (f_X9_init (mN σ314) σ315) (fun r316 σ317 => f_L_law_18 L xs 513 (mN σ) (mN σ314) (0 : Int32) σ317))))
set_option maxRecDepth 100000 in
set_option maxHeartbeats 8000000 in
theorem V_L_law_0 {g : GG} {b L : Nat} {xs : Nat → Int32} (σ : Mm) (σ' : Mm) (hf : f_L_law L xs σ = some (1, σ')) (kc ks : Nat) (hqe : 52036 ≤ kc ∧ 218010 ≤ ks) : VL b L xs g (kc) (ks) 0 [(0, .ref b)] [] σ := by
  intro p e s m below meth c H locs cells slots ls EL hR hS hl hc hs
  have hc : cells + kc ≤ 600000 := hc
  have hs : slots + ks ≤ 7302250 := hs
  obtain ⟨E, hgB, hX, hbl⟩ := id EL
  obtain ⟨hx, hb, hml, hr, hlocks, hown, hts, hin, hT⟩ := id E
  have hbA : ¬ aA g b := by show ¬ gB g ≤ b; omega
  unfold f_L_law at hf
  obtain ⟨σ312, eσ312, hf⟩ := zl_s hf
  refine x_new E hR hS ok8 cd8 cl_L_7 cn8 ci8 (show cells + 1 ≤ 600000 by omega) (show slots + 8 ≤ 7302250 by omega) dL_law_0 (fun H hR hS => ?_)
  rw [← eσ312] at hR
  refine lv_dup hx hb dL_law_3 rfl ?_
  obtain ⟨r313, σ314, hcr313, hf⟩ := zq_s hf
  refine xI (As := []) (rest := [.ref (gB g + (mN σ))]) (st1 := [.ref (gB g + (mN σ))]) E hR hS hl (C_X8_init hcr313) lb_X8_init li_X8_init ml_L_9 ⟨Nat.le_of_ble_eq_true rfl, Nat.le_of_ble_eq_true rfl⟩ rfl rfl rfl (Nat.le_of_ble_eq_true rfl) dL_law_4 ⟨show cells + 1 + 84 ≤ 600000 by omega, show slots + 8 + 4733 ≤ 7302250 by omega⟩ (fun H locs hR hS => ?_)
  refine lv_astore_n (lv' := [(1, .ref (gB g + (mN σ))), (0, .ref b)]) hx hb dL_law_7 rfl hl (Nat.le_of_ble_eq_true rfl) rfl (fun ls hl => ?_)
  obtain ⟨σ315, eσ315, hf⟩ := zl_s hf
  refine x_new E hR hS ok9 cd9 cl_L_10 cn9 ci9 (show cells + 1 + 84 + 1 ≤ 600000 by omega) (show slots + 8 + 4733 + 46 ≤ 7302250 by omega) dL_law_8 (fun H hR hS => ?_)
  rw [← eσ315] at hR
  refine lv_dup hx hb dL_law_11 rfl ?_
  obtain ⟨r316, σ317, hcr316, hf⟩ := zq_s hf
  refine xI (As := []) (rest := [.ref (gB g + (mN σ314))]) (st1 := [.ref (gB g + (mN σ314))]) E hR hS hl (C_X9_init hcr316) lb_X9_init li_X9_init ml_L_12 ⟨Nat.le_of_ble_eq_true rfl, Nat.le_of_ble_eq_true rfl⟩ rfl rfl rfl (Nat.le_of_ble_eq_true rfl) dL_law_12 ⟨show cells + 1 + 84 + 1 + 36 ≤ 600000 by omega, show slots + 8 + 4733 + 46 + 5567 ≤ 7302250 by omega⟩ (fun H locs hR hS => ?_)
  refine lv_astore_n (lv' := [(2, .ref (gB g + (mN σ314))), (1, .ref (gB g + (mN σ))), (0, .ref b)]) hx hb dL_law_15 rfl hl (Nat.le_of_ble_eq_true rfl) rfl (fun ls hl => ?_)
  refine lv_iconst (v := (0 : Int32)) hx hb dL_law_16 rfl ?_
  refine lv_istore_n (lv' := [(3, .int (0 : Int32)), (2, .ref (gB g + (mN σ314))), (1, .ref (gB g + (mN σ))), (0, .ref b)]) hx hb dL_law_17 rfl hl (Nat.le_of_ble_eq_true rfl) rfl (fun ls hl => ?_)
  exact V_L_law_18  513 _ _ _ _ _ hf p e s m below meth c _ _ _ _ _ EL hR hS (lv_sub hl [3, 2, 1, 0] rfl) (show cells + 1 + 84 + 1 + 36 + (513 * 101 + 101) ≤ 600000 by omega) (show slots + 8 + 4733 + 46 + 5567 + (513 * 404 + 404) ≤ 7302250 by omega)
