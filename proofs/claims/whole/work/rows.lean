section
-- ===== PART A: goes FIRST, ahead of the names: the tables' words, and 'selects' of the private methods out of them =====
/-- a private method of a class that the tables say can be made, by its rows of tables_1 -/
def lw_okq (q : MethodName × Nat) : Prop := (q.1.cls ≠ "java/lang/invoke/MethodHandle" ∧ q.1.cls ≠ "java/lang/invoke/VarHandle") ∧ Cond.instantiable q.1.cls q.2 ∈ tables_1 ∧ Cond.privateMethod q.1 ∈ tables_1 ∧ Cond.instanceMethod q.1 ∈ tables_1
theorem lw_p0 : lw_okq (⟨"BorderProofs$Doings", "pairsAt", "(I)LBorderProofs$Pairs;"⟩, 3) := ⟨⟨by decide +kernel, by decide +kernel⟩, List.mem_of_getElem? (i := 93) (by decide +kernel), List.mem_of_getElem? (i := 227) (by decide +kernel), List.mem_of_getElem? (i := 228) (by decide +kernel)⟩
theorem lw_p1 : lw_okq (⟨"BorderProofs$Tree", "closeBefore", "(ILBorderProofs$Pairs;)I"⟩, 8) := ⟨⟨by decide +kernel, by decide +kernel⟩, List.mem_of_getElem? (i := 40) (by decide +kernel), List.mem_of_getElem? (i := 251) (by decide +kernel), List.mem_of_getElem? (i := 252) (by decide +kernel)⟩
theorem lw_p2 : lw_okq (⟨"BorderProofs$Tree", "digestOr", "(II)I"⟩, 8) := ⟨⟨by decide +kernel, by decide +kernel⟩, List.mem_of_getElem? (i := 40) (by decide +kernel), List.mem_of_getElem? (i := 266) (by decide +kernel), List.mem_of_getElem? (i := 267) (by decide +kernel)⟩
theorem lw_p3 : lw_okq (⟨"BorderProofs$Tree", "countNodesAround", "(I)I"⟩, 8) := ⟨⟨by decide +kernel, by decide +kernel⟩, List.mem_of_getElem? (i := 40) (by decide +kernel), List.mem_of_getElem? (i := 326) (by decide +kernel), List.mem_of_getElem? (i := 327) (by decide +kernel)⟩
theorem lw_p4 : lw_okq (⟨"BorderProofs$Tree", "childTowards", "(II)I"⟩, 8) := ⟨⟨by decide +kernel, by decide +kernel⟩, List.mem_of_getElem? (i := 40) (by decide +kernel), List.mem_of_getElem? (i := 330) (by decide +kernel), List.mem_of_getElem? (i := 331) (by decide +kernel)⟩
theorem lw_p5 : lw_okq (⟨"BorderProofs$Reader", "takeIn", "(II)I"⟩, 7) := ⟨⟨by decide +kernel, by decide +kernel⟩, List.mem_of_getElem? (i := 112) (by decide +kernel), List.mem_of_getElem? (i := 539) (by decide +kernel), List.mem_of_getElem? (i := 540) (by decide +kernel)⟩
theorem lw_p6 : lw_okq (⟨"BorderProofs$Reader", "isFormer", "(I)Z"⟩, 7) := ⟨⟨by decide +kernel, by decide +kernel⟩, List.mem_of_getElem? (i := 112) (by decide +kernel), List.mem_of_getElem? (i := 579) (by decide +kernel), List.mem_of_getElem? (i := 580) (by decide +kernel)⟩
theorem lw_p7 : lw_okq (⟨"BorderProofs", "canBe", "(I)Z"⟩, 8) := ⟨⟨by decide +kernel, by decide +kernel⟩, List.mem_of_getElem? (i := 15) (by decide +kernel), List.mem_of_getElem? (i := 644) (by decide +kernel), List.mem_of_getElem? (i := 645) (by decide +kernel)⟩
theorem lw_p8 : lw_okq (⟨"BorderProofs", "tryPut", "(II)Z"⟩, 8) := ⟨⟨by decide +kernel, by decide +kernel⟩, List.mem_of_getElem? (i := 15) (by decide +kernel), List.mem_of_getElem? (i := 648) (by decide +kernel), List.mem_of_getElem? (i := 649) (by decide +kernel)⟩
theorem lw_p9 : lw_okq (⟨"BorderProofs", "tryRemove", "(I)Z"⟩, 8) := ⟨⟨by decide +kernel, by decide +kernel⟩, List.mem_of_getElem? (i := 15) (by decide +kernel), List.mem_of_getElem? (i := 652) (by decide +kernel), List.mem_of_getElem? (i := 653) (by decide +kernel)⟩
theorem lw_p10 : lw_okq (⟨"BorderProofs", "trialTree", "()LBorderProofs$Tree;"⟩, 8) := ⟨⟨by decide +kernel, by decide +kernel⟩, List.mem_of_getElem? (i := 15) (by decide +kernel), List.mem_of_getElem? (i := 656) (by decide +kernel), List.mem_of_getElem? (i := 657) (by decide +kernel)⟩
theorem lw_p11 : lw_okq (⟨"BorderProofs", "countOtherwise", "(LBorderProofs$Pairs;)I"⟩, 8) := ⟨⟨by decide +kernel, by decide +kernel⟩, List.mem_of_getElem? (i := 15) (by decide +kernel), List.mem_of_getElem? (i := 692) (by decide +kernel), List.mem_of_getElem? (i := 693) (by decide +kernel)⟩
theorem lw_p12 : lw_okq (⟨"BorderProofs", "leastOtherwise", "(LBorderProofs$Pairs;)I"⟩, 8) := ⟨⟨by decide +kernel, by decide +kernel⟩, List.mem_of_getElem? (i := 15) (by decide +kernel), List.mem_of_getElem? (i := 696) (by decide +kernel), List.mem_of_getElem? (i := 697) (by decide +kernel)⟩
theorem lw_p13 : lw_okq (⟨"BorderProofs", "countPassedOver", "(LBorderProofs$Pairs;)I"⟩, 8) := ⟨⟨by decide +kernel, by decide +kernel⟩, List.mem_of_getElem? (i := 15) (by decide +kernel), List.mem_of_getElem? (i := 700) (by decide +kernel), List.mem_of_getElem? (i := 701) (by decide +kernel)⟩
theorem lw_p14 : lw_okq (⟨"BorderProofs$Tree", "isLike", "(ILBorderProofs$Tree;)Z"⟩, 8) := ⟨⟨by decide +kernel, by decide +kernel⟩, List.mem_of_getElem? (i := 40) (by decide +kernel), List.mem_of_getElem? (i := 708) (by decide +kernel), List.mem_of_getElem? (i := 709) (by decide +kernel)⟩
theorem lw_p15 : lw_okq (⟨"BorderProofs", "countNodesPassedOver", "(LBorderProofs$Pairs;)I"⟩, 8) := ⟨⟨by decide +kernel, by decide +kernel⟩, List.mem_of_getElem? (i := 15) (by decide +kernel), List.mem_of_getElem? (i := 712) (by decide +kernel), List.mem_of_getElem? (i := 713) (by decide +kernel)⟩
def lw_privs_1 : List (MethodName × Nat) := [(⟨"BorderProofs$Doings", "pairsAt", "(I)LBorderProofs$Pairs;"⟩, 3), (⟨"BorderProofs$Tree", "closeBefore", "(ILBorderProofs$Pairs;)I"⟩, 8), (⟨"BorderProofs$Tree", "digestOr", "(II)I"⟩, 8), (⟨"BorderProofs$Tree", "countNodesAround", "(I)I"⟩, 8), (⟨"BorderProofs$Tree", "childTowards", "(II)I"⟩, 8), (⟨"BorderProofs$Reader", "takeIn", "(II)I"⟩, 7), (⟨"BorderProofs$Reader", "isFormer", "(I)Z"⟩, 7), (⟨"BorderProofs", "canBe", "(I)Z"⟩, 8), (⟨"BorderProofs", "tryPut", "(II)Z"⟩, 8), (⟨"BorderProofs", "tryRemove", "(I)Z"⟩, 8), (⟨"BorderProofs", "trialTree", "()LBorderProofs$Tree;"⟩, 8), (⟨"BorderProofs", "countOtherwise", "(LBorderProofs$Pairs;)I"⟩, 8), (⟨"BorderProofs", "leastOtherwise", "(LBorderProofs$Pairs;)I"⟩, 8), (⟨"BorderProofs", "countPassedOver", "(LBorderProofs$Pairs;)I"⟩, 8), (⟨"BorderProofs$Tree", "isLike", "(ILBorderProofs$Tree;)Z"⟩, 8), (⟨"BorderProofs", "countNodesPassedOver", "(LBorderProofs$Pairs;)I"⟩, 8)]
theorem lw_r1 : ∀ q ∈ lw_privs_1, lw_okq q := List.forall_mem_cons.mpr ⟨lw_p0, List.forall_mem_cons.mpr ⟨lw_p1, List.forall_mem_cons.mpr ⟨lw_p2, List.forall_mem_cons.mpr ⟨lw_p3, List.forall_mem_cons.mpr ⟨lw_p4, List.forall_mem_cons.mpr ⟨lw_p5, List.forall_mem_cons.mpr ⟨lw_p6, List.forall_mem_cons.mpr ⟨lw_p7, List.forall_mem_cons.mpr ⟨lw_p8, List.forall_mem_cons.mpr ⟨lw_p9, List.forall_mem_cons.mpr ⟨lw_p10, List.forall_mem_cons.mpr ⟨lw_p11, List.forall_mem_cons.mpr ⟨lw_p12, List.forall_mem_cons.mpr ⟨lw_p13, List.forall_mem_cons.mpr ⟨lw_p14, List.forall_mem_cons.mpr ⟨lw_p15, fun _ h => absurd h List.not_mem_nil⟩⟩⟩⟩⟩⟩⟩⟩⟩⟩⟩⟩⟩⟩⟩⟩
theorem lw_p16 : lw_okq (⟨"BorderProofsModel", "note", "()V"⟩, 46) := ⟨⟨by decide +kernel, by decide +kernel⟩, List.mem_of_getElem? (i := 716) (by decide +kernel), List.mem_of_getElem? (i := 879) (by decide +kernel), List.mem_of_getElem? (i := 880) (by decide +kernel)⟩
theorem lw_p17 : lw_okq (⟨"BorderProofsModel", "rootOf", "([I)I"⟩, 46) := ⟨⟨by decide +kernel, by decide +kernel⟩, List.mem_of_getElem? (i := 716) (by decide +kernel), List.mem_of_getElem? (i := 906) (by decide +kernel), List.mem_of_getElem? (i := 907) (by decide +kernel)⟩
theorem lw_p18 : lw_okq (⟨"BorderProofsModel", "make", "([II)V"⟩, 46) := ⟨⟨by decide +kernel, by decide +kernel⟩, List.mem_of_getElem? (i := 716) (by decide +kernel), List.mem_of_getElem? (i := 910) (by decide +kernel), List.mem_of_getElem? (i := 911) (by decide +kernel)⟩
theorem lw_p19 : lw_okq (⟨"BorderProofsModel", "want", "(IIII)V"⟩, 46) := ⟨⟨by decide +kernel, by decide +kernel⟩, List.mem_of_getElem? (i := 716) (by decide +kernel), List.mem_of_getElem? (i := 914) (by decide +kernel), List.mem_of_getElem? (i := 915) (by decide +kernel)⟩
theorem lw_p20 : lw_okq (⟨"BorderProofsModel", "height", "()I"⟩, 46) := ⟨⟨by decide +kernel, by decide +kernel⟩, List.mem_of_getElem? (i := 716) (by decide +kernel), List.mem_of_getElem? (i := 936) (by decide +kernel), List.mem_of_getElem? (i := 937) (by decide +kernel)⟩
theorem lw_p21 : lw_okq (⟨"BorderProofsModel", "values", "()I"⟩, 46) := ⟨⟨by decide +kernel, by decide +kernel⟩, List.mem_of_getElem? (i := 716) (by decide +kernel), List.mem_of_getElem? (i := 940) (by decide +kernel), List.mem_of_getElem? (i := 941) (by decide +kernel)⟩
theorem lw_p22 : lw_okq (⟨"BorderProofsModel", "prove", "([III)V"⟩, 46) := ⟨⟨by decide +kernel, by decide +kernel⟩, List.mem_of_getElem? (i := 716) (by decide +kernel), List.mem_of_getElem? (i := 960) (by decide +kernel), List.mem_of_getElem? (i := 961) (by decide +kernel)⟩
theorem lw_p23 : lw_okq (⟨"BorderProofsModel", "takeTrust", "(I)I"⟩, 46) := ⟨⟨by decide +kernel, by decide +kernel⟩, List.mem_of_getElem? (i := 716) (by decide +kernel), List.mem_of_getElem? (i := 1000) (by decide +kernel), List.mem_of_getElem? (i := 1001) (by decide +kernel)⟩
theorem lw_p24 : lw_okq (⟨"BorderProofsModel", "reasonOf", "(II)I"⟩, 46) := ⟨⟨by decide +kernel, by decide +kernel⟩, List.mem_of_getElem? (i := 716) (by decide +kernel), List.mem_of_getElem? (i := 1016) (by decide +kernel), List.mem_of_getElem? (i := 1017) (by decide +kernel)⟩
theorem lw_p25 : lw_okq (⟨"BorderProofsModel", "takeItem", "(IIII)I"⟩, 46) := ⟨⟨by decide +kernel, by decide +kernel⟩, List.mem_of_getElem? (i := 716) (by decide +kernel), List.mem_of_getElem? (i := 1020) (by decide +kernel), List.mem_of_getElem? (i := 1021) (by decide +kernel)⟩
theorem lw_p26 : lw_okq (⟨"BorderProofsModel", "hang", "(IIII)V"⟩, 46) := ⟨⟨by decide +kernel, by decide +kernel⟩, List.mem_of_getElem? (i := 716) (by decide +kernel), List.mem_of_getElem? (i := 1024) (by decide +kernel), List.mem_of_getElem? (i := 1025) (by decide +kernel)⟩
theorem lw_p27 : lw_okq (⟨"BorderProofsModel", "shownDigest", "()I"⟩, 46) := ⟨⟨by decide +kernel, by decide +kernel⟩, List.mem_of_getElem? (i := 716) (by decide +kernel), List.mem_of_getElem? (i := 1028) (by decide +kernel), List.mem_of_getElem? (i := 1029) (by decide +kernel)⟩
theorem lw_p28 : lw_okq (⟨"BorderProofsModel", "layRow", "()V"⟩, 46) := ⟨⟨by decide +kernel, by decide +kernel⟩, List.mem_of_getElem? (i := 716) (by decide +kernel), List.mem_of_getElem? (i := 1041) (by decide +kernel), List.mem_of_getElem? (i := 1042) (by decide +kernel)⟩
theorem lw_p29 : lw_okq (⟨"BorderProofsModel", "placeOf", "(I)I"⟩, 46) := ⟨⟨by decide +kernel, by decide +kernel⟩, List.mem_of_getElem? (i := 716) (by decide +kernel), List.mem_of_getElem? (i := 1045) (by decide +kernel), List.mem_of_getElem? (i := 1046) (by decide +kernel)⟩
theorem lw_p30 : lw_okq (⟨"BorderProofsModel", "followed", "(II)I"⟩, 46) := ⟨⟨by decide +kernel, by decide +kernel⟩, List.mem_of_getElem? (i := 716) (by decide +kernel), List.mem_of_getElem? (i := 1053) (by decide +kernel), List.mem_of_getElem? (i := 1054) (by decide +kernel)⟩
theorem lw_p31 : lw_okq (⟨"BorderProofsModel", "takeOut", "(I)V"⟩, 46) := ⟨⟨by decide +kernel, by decide +kernel⟩, List.mem_of_getElem? (i := 716) (by decide +kernel), List.mem_of_getElem? (i := 1057) (by decide +kernel), List.mem_of_getElem? (i := 1058) (by decide +kernel)⟩
def lw_privs_2 : List (MethodName × Nat) := [(⟨"BorderProofsModel", "note", "()V"⟩, 46), (⟨"BorderProofsModel", "rootOf", "([I)I"⟩, 46), (⟨"BorderProofsModel", "make", "([II)V"⟩, 46), (⟨"BorderProofsModel", "want", "(IIII)V"⟩, 46), (⟨"BorderProofsModel", "height", "()I"⟩, 46), (⟨"BorderProofsModel", "values", "()I"⟩, 46), (⟨"BorderProofsModel", "prove", "([III)V"⟩, 46), (⟨"BorderProofsModel", "takeTrust", "(I)I"⟩, 46), (⟨"BorderProofsModel", "reasonOf", "(II)I"⟩, 46), (⟨"BorderProofsModel", "takeItem", "(IIII)I"⟩, 46), (⟨"BorderProofsModel", "hang", "(IIII)V"⟩, 46), (⟨"BorderProofsModel", "shownDigest", "()I"⟩, 46), (⟨"BorderProofsModel", "layRow", "()V"⟩, 46), (⟨"BorderProofsModel", "placeOf", "(I)I"⟩, 46), (⟨"BorderProofsModel", "followed", "(II)I"⟩, 46), (⟨"BorderProofsModel", "takeOut", "(I)V"⟩, 46)]
theorem lw_r2 : ∀ q ∈ lw_privs_2, lw_okq q := List.forall_mem_cons.mpr ⟨lw_p16, List.forall_mem_cons.mpr ⟨lw_p17, List.forall_mem_cons.mpr ⟨lw_p18, List.forall_mem_cons.mpr ⟨lw_p19, List.forall_mem_cons.mpr ⟨lw_p20, List.forall_mem_cons.mpr ⟨lw_p21, List.forall_mem_cons.mpr ⟨lw_p22, List.forall_mem_cons.mpr ⟨lw_p23, List.forall_mem_cons.mpr ⟨lw_p24, List.forall_mem_cons.mpr ⟨lw_p25, List.forall_mem_cons.mpr ⟨lw_p26, List.forall_mem_cons.mpr ⟨lw_p27, List.forall_mem_cons.mpr ⟨lw_p28, List.forall_mem_cons.mpr ⟨lw_p29, List.forall_mem_cons.mpr ⟨lw_p30, List.forall_mem_cons.mpr ⟨lw_p31, fun _ h => absurd h List.not_mem_nil⟩⟩⟩⟩⟩⟩⟩⟩⟩⟩⟩⟩⟩⟩⟩⟩
theorem lw_p32 : lw_okq (⟨"BorderProofsModel", "putIn", "(II)V"⟩, 46) := ⟨⟨by decide +kernel, by decide +kernel⟩, List.mem_of_getElem? (i := 716) (by decide +kernel), List.mem_of_getElem? (i := 1061) (by decide +kernel), List.mem_of_getElem? (i := 1062) (by decide +kernel)⟩
theorem lw_p33 : lw_okq (⟨"BorderProofsModel", "rowDigest", "()I"⟩, 46) := ⟨⟨by decide +kernel, by decide +kernel⟩, List.mem_of_getElem? (i := 716) (by decide +kernel), List.mem_of_getElem? (i := 1065) (by decide +kernel), List.mem_of_getElem? (i := 1066) (by decide +kernel)⟩
theorem lw_p34 : lw_okq (⟨"BorderProofsModel", "uppermostOf", "(II)I"⟩, 46) := ⟨⟨by decide +kernel, by decide +kernel⟩, List.mem_of_getElem? (i := 716) (by decide +kernel), List.mem_of_getElem? (i := 1069) (by decide +kernel), List.mem_of_getElem? (i := 1070) (by decide +kernel)⟩
theorem lw_p35 : lw_okq (⟨"BorderProofsModel", "hanging", "(I)I"⟩, 46) := ⟨⟨by decide +kernel, by decide +kernel⟩, List.mem_of_getElem? (i := 716) (by decide +kernel), List.mem_of_getElem? (i := 1073) (by decide +kernel), List.mem_of_getElem? (i := 1074) (by decide +kernel)⟩
theorem lw_p36 : lw_okq (⟨"BorderProofsModel", "judged", "(III)Z"⟩, 46) := ⟨⟨by decide +kernel, by decide +kernel⟩, List.mem_of_getElem? (i := 716) (by decide +kernel), List.mem_of_getElem? (i := 1089) (by decide +kernel), List.mem_of_getElem? (i := 1090) (by decide +kernel)⟩
theorem lw_p37 : lw_okq (⟨"BorderProofsModel", "isPassed", "(I)Z"⟩, 46) := ⟨⟨by decide +kernel, by decide +kernel⟩, List.mem_of_getElem? (i := 716) (by decide +kernel), List.mem_of_getElem? (i := 1105) (by decide +kernel), List.mem_of_getElem? (i := 1106) (by decide +kernel)⟩
theorem lw_p38 : lw_okq (⟨"BorderProofsModel", "isSame", "(I)Z"⟩, 46) := ⟨⟨by decide +kernel, by decide +kernel⟩, List.mem_of_getElem? (i := 716) (by decide +kernel), List.mem_of_getElem? (i := 1109) (by decide +kernel), List.mem_of_getElem? (i := 1110) (by decide +kernel)⟩
def lw_privs_3 : List (MethodName × Nat) := [(⟨"BorderProofsModel", "putIn", "(II)V"⟩, 46), (⟨"BorderProofsModel", "rowDigest", "()I"⟩, 46), (⟨"BorderProofsModel", "uppermostOf", "(II)I"⟩, 46), (⟨"BorderProofsModel", "hanging", "(I)I"⟩, 46), (⟨"BorderProofsModel", "judged", "(III)Z"⟩, 46), (⟨"BorderProofsModel", "isPassed", "(I)Z"⟩, 46), (⟨"BorderProofsModel", "isSame", "(I)Z"⟩, 46)]
theorem lw_r3 : ∀ q ∈ lw_privs_3, lw_okq q := List.forall_mem_cons.mpr ⟨lw_p32, List.forall_mem_cons.mpr ⟨lw_p33, List.forall_mem_cons.mpr ⟨lw_p34, List.forall_mem_cons.mpr ⟨lw_p35, List.forall_mem_cons.mpr ⟨lw_p36, List.forall_mem_cons.mpr ⟨lw_p37, List.forall_mem_cons.mpr ⟨lw_p38, fun _ h => absurd h List.not_mem_nil⟩⟩⟩⟩⟩⟩⟩
def lw_privs : List (MethodName × Nat) := lw_privs_1 ++ (lw_privs_2 ++ (lw_privs_3))
def lw_tbl : List Cond := k2_sels lw_privs ++ tables_1
theorem lw_privs_ok : ∀ q ∈ lw_privs, lw_okq q := by
  show ∀ q ∈ lw_privs_1 ++ (lw_privs_2 ++ (lw_privs_3)), lw_okq q
  exact List.forall_mem_append.mpr ⟨lw_r1, List.forall_mem_append.mpr ⟨lw_r2, lw_r3⟩⟩
end
section
def RX0 : String := "BorderProofs$Doings"
def TX0 : u_T := fun k => match k with
  | 0 => ("BorderProofs$Doings", "before", "[LBorderProofs$Pairs;", true)
  | 1 => ("BorderProofs$Doings", "first", "I", false)
  | _ => ("BorderProofs$Doings", "count", "I", false)
def tyX0 : Nat → FieldType := fun k => match k with
  | 0 => .array (.object "BorderProofs$Pairs")
  | 1 => .int
  | _ => .int
abbrev wsX00 : List Cond := u_ws RX0 TX0 3
theorem nmX0 : ∀ a, a < 3 → ∀ b, b < 3 → a ≠ b → (TX0 a).2.1 ≠ (TX0 b).2.1 := by decide +kernel
theorem tyX0_ok : ∀ k, k < 3 → parseFieldDescriptor (TX0 k).2.2.1 = some (tyX0 k) := by decide +kernel
abbrev cX0_init : ByteArray := prog_2_method_1_code
def yX0_init : MethodName := ⟨RX0, "<init>", "()V"⟩
abbrev cX0_count : ByteArray := prog_2_method_2_code
def yX0_count : MethodName := ⟨RX0, "count", "()I"⟩
abbrev cX0_note : ByteArray := prog_2_method_3_code
def yX0_note : MethodName := ⟨RX0, "note", "(LBorderProofs$Pairs;)V"⟩
abbrev cX0_takeBack : ByteArray := prog_2_method_4_code
def yX0_takeBack : MethodName := ⟨RX0, "takeBack", "(LBorderProofs$Pairs;)V"⟩
abbrev cX0_forgetAll : ByteArray := prog_2_method_5_code
def yX0_forgetAll : MethodName := ⟨RX0, "forgetAll", "()V"⟩
abbrev cX0_pairsAt : ByteArray := prog_2_method_6_code
def yX0_pairsAt : MethodName := ⟨RX0, "pairsAt", "(I)LBorderProofs$Pairs;"⟩
def RX1 : String := "BorderProofs$Items"
def TX1 : u_T := fun k => match k with
  | 0 => ("BorderProofs$Items", "items", "[I", true)
  | _ => ("BorderProofs$Items", "count", "I", false)
def tyX1 : Nat → FieldType := fun k => match k with
  | 0 => .array .int
  | _ => .int
abbrev wsX10 : List Cond := u_ws RX1 TX1 2
theorem nmX1 : ∀ a, a < 2 → ∀ b, b < 2 → a ≠ b → (TX1 a).2.1 ≠ (TX1 b).2.1 := by decide +kernel
theorem tyX1_ok : ∀ k, k < 2 → parseFieldDescriptor (TX1 k).2.2.1 = some (tyX1 k) := by decide +kernel
abbrev cX1_init : ByteArray := prog_3_method_1_code
def yX1_init : MethodName := ⟨RX1, "<init>", "()V"⟩
abbrev cX1_count : ByteArray := prog_3_method_2_code
def yX1_count : MethodName := ⟨RX1, "count", "()I"⟩
abbrev cX1_isFull : ByteArray := prog_3_method_3_code
def yX1_isFull : MethodName := ⟨RX1, "isFull", "()Z"⟩
abbrev cX1_hasPlace : ByteArray := prog_3_method_4_code
def yX1_hasPlace : MethodName := ⟨RX1, "hasPlace", "(I)Z"⟩
abbrev cX1_itemAt : ByteArray := prog_3_method_5_code
def yX1_itemAt : MethodName := ⟨RX1, "itemAt", "(I)I"⟩
abbrev cX1_add : ByteArray := prog_3_method_6_code
def yX1_add : MethodName := ⟨RX1, "add", "(I)V"⟩
abbrev cX1_replace : ByteArray := prog_3_method_7_code
def yX1_replace : MethodName := ⟨RX1, "replace", "(II)V"⟩
abbrev cX1_shorten : ByteArray := prog_3_method_8_code
def yX1_shorten : MethodName := ⟨RX1, "shorten", "(I)V"⟩
abbrev cX1_countDigests : ByteArray := prog_3_method_9_code
def yX1_countDigests : MethodName := ⟨RX1, "countDigests", "()I"⟩
abbrev cX1_countNodes : ByteArray := prog_3_method_10_code
def yX1_countNodes : MethodName := ⟨RX1, "countNodes", "()I"⟩
def RX2 : String := "BorderProofs$Pairs"
def TX2 : u_T := fun k => match k with
  | 0 => ("BorderProofs$Pairs", "values", "[I", true)
  | _ => ("BorderProofs$Pairs", "count", "I", false)
def tyX2 : Nat → FieldType := fun k => match k with
  | 0 => .array .int
  | _ => .int
abbrev wsX20 : List Cond := u_ws RX2 TX2 2
theorem nmX2 : ∀ a, a < 2 → ∀ b, b < 2 → a ≠ b → (TX2 a).2.1 ≠ (TX2 b).2.1 := by decide +kernel
theorem tyX2_ok : ∀ k, k < 2 → parseFieldDescriptor (TX2 k).2.2.1 = some (tyX2 k) := by decide +kernel
abbrev cX2_init : ByteArray := prog_4_method_1_code
def yX2_init : MethodName := ⟨RX2, "<init>", "()V"⟩
abbrev cX2_count : ByteArray := prog_4_method_2_code
def yX2_count : MethodName := ⟨RX2, "count", "()I"⟩
abbrev cX2_valueOf : ByteArray := prog_4_method_3_code
def yX2_valueOf : MethodName := ⟨RX2, "valueOf", "(I)I"⟩
abbrev cX2_has : ByteArray := prog_4_method_4_code
def yX2_has : MethodName := ⟨RX2, "has", "(I)Z"⟩
abbrev cX2_hasRoomFor : ByteArray := prog_4_method_5_code
def yX2_hasRoomFor : MethodName := ⟨RX2, "hasRoomFor", "(I)Z"⟩
abbrev cX2_give : ByteArray := prog_4_method_6_code
def yX2_give : MethodName := ⟨RX2, "give", "(II)V"⟩
abbrev cX2_drop : ByteArray := prog_4_method_7_code
def yX2_drop : MethodName := ⟨RX2, "drop", "(I)V"⟩
abbrev cX2_clear : ByteArray := prog_4_method_8_code
def yX2_clear : MethodName := ⟨RX2, "clear", "()V"⟩
abbrev cX2_become : ByteArray := prog_4_method_9_code
def yX2_become : MethodName := ⟨RX2, "become", "(LBorderProofs$Pairs;)V"⟩
abbrev cX2_countWithin : ByteArray := prog_4_method_10_code
def yX2_countWithin : MethodName := ⟨RX2, "countWithin", "(II)I"⟩
abbrev cX2_sumWithin : ByteArray := prog_4_method_11_code
def yX2_sumWithin : MethodName := ⟨RX2, "sumWithin", "(II)I"⟩
abbrev cX2_greatestBelow : ByteArray := prog_4_method_12_code
def yX2_greatestBelow : MethodName := ⟨RX2, "greatestBelow", "(I)I"⟩
abbrev cX2_leastAbove : ByteArray := prog_4_method_13_code
def yX2_leastAbove : MethodName := ⟨RX2, "leastAbove", "(I)I"⟩
abbrev cX2_keyOfPlace : ByteArray := prog_4_method_14_code
def yX2_keyOfPlace : MethodName := ⟨RX2, "keyOfPlace", "(III)I"⟩
def RX3 : String := "BorderProofs$Pending"
def TX3 : u_T := fun k => match k with
  | 0 => ("BorderProofs$Pending", "keys", "[I", true)
  | 1 => ("BorderProofs$Pending", "his", "[I", true)
  | 2 => ("BorderProofs$Pending", "count", "I", false)
  | 3 => ("BorderProofs$Pending", "key", "I", false)
  | _ => ("BorderProofs$Pending", "hi", "I", false)
def tyX3 : Nat → FieldType := fun k => match k with
  | 0 => .array .int
  | 1 => .array .int
  | 2 => .int
  | 3 => .int
  | _ => .int
abbrev wsX30 : List Cond := u_ws RX3 TX3 5
theorem nmX3 : ∀ a, a < 5 → ∀ b, b < 5 → a ≠ b → (TX3 a).2.1 ≠ (TX3 b).2.1 := by decide +kernel
theorem tyX3_ok : ∀ k, k < 5 → parseFieldDescriptor (TX3 k).2.2.1 = some (tyX3 k) := by decide +kernel
abbrev cX3_init : ByteArray := prog_5_method_1_code
def yX3_init : MethodName := ⟨RX3, "<init>", "()V"⟩
abbrev cX3_clear : ByteArray := prog_5_method_2_code
def yX3_clear : MethodName := ⟨RX3, "clear", "()V"⟩
abbrev cX3_push : ByteArray := prog_5_method_3_code
def yX3_push : MethodName := ⟨RX3, "push", "(II)V"⟩
abbrev cX3_pop : ByteArray := prog_5_method_4_code
def yX3_pop : MethodName := ⟨RX3, "pop", "()Z"⟩
abbrev cX3_key : ByteArray := prog_5_method_5_code
def yX3_key : MethodName := ⟨RX3, "key", "()I"⟩
abbrev cX3_hi : ByteArray := prog_5_method_6_code
def yX3_hi : MethodName := ⟨RX3, "hi", "()I"⟩
def RX4 : String := "BorderProofs$Place"
def TX4 : u_T := fun k => match k with
  | 0 => ("BorderProofs$Place", "above", "I", true)
  | 1 => ("BorderProofs$Place", "parent", "I", true)
  | 2 => ("BorderProofs$Place", "lo", "I", true)
  | _ => ("BorderProofs$Place", "hi", "I", true)
def tyX4 : Nat → FieldType := fun k => match k with
  | 0 => .int
  | 1 => .int
  | 2 => .int
  | _ => .int
abbrev wsX40 : List Cond := u_ws RX4 TX4 4
theorem nmX4 : ∀ a, a < 4 → ∀ b, b < 4 → a ≠ b → (TX4 a).2.1 ≠ (TX4 b).2.1 := by decide +kernel
theorem tyX4_ok : ∀ k, k < 4 → parseFieldDescriptor (TX4 k).2.2.1 = some (tyX4 k) := by decide +kernel
abbrev cX4_init : ByteArray := prog_6_method_1_code
def yX4_init : MethodName := ⟨RX4, "<init>", "(IIII)V"⟩
def RX5 : String := "BorderProofs$Reader"
def TX5 : u_T := fun k => match k with
  | 0 => ("BorderProofs$Reader", "row", "LBorderProofs$Items;", true)
  | 1 => ("BorderProofs$Reader", "trusted", "I", false)
  | 2 => ("BorderProofs$Reader", "former", "[I", true)
  | 3 => ("BorderProofs$Reader", "formerCount", "I", false)
  | 4 => ("BorderProofs$Reader", "shown", "LBorderProofs$Pairs;", true)
  | 5 => ("BorderProofs$Reader", "shownTree", "LBorderProofs$Tree;", true)
  | _ => ("BorderProofs$Reader", "pending", "LBorderProofs$Pending;", true)
def tyX5 : Nat → FieldType := fun k => match k with
  | 0 => .object "BorderProofs$Items"
  | 1 => .int
  | 2 => .array .int
  | 3 => .int
  | 4 => .object "BorderProofs$Pairs"
  | 5 => .object "BorderProofs$Tree"
  | _ => .object "BorderProofs$Pending"
abbrev wsX50 : List Cond := u_ws RX5 TX5 7
theorem nmX5 : ∀ a, a < 7 → ∀ b, b < 7 → a ≠ b → (TX5 a).2.1 ≠ (TX5 b).2.1 := by decide +kernel
theorem tyX5_ok : ∀ k, k < 7 → parseFieldDescriptor (TX5 k).2.2.1 = some (tyX5 k) := by decide +kernel
abbrev cX5_init : ByteArray := prog_7_method_1_code
def yX5_init : MethodName := ⟨RX5, "<init>", "()V"⟩
abbrev cX5_row : ByteArray := prog_7_method_2_code
def yX5_row : MethodName := ⟨RX5, "row", "()LBorderProofs$Items;"⟩
abbrev cX5_shown : ByteArray := prog_7_method_3_code
def yX5_shown : MethodName := ⟨RX5, "shown", "()LBorderProofs$Pairs;"⟩
abbrev cX5_trusted : ByteArray := prog_7_method_4_code
def yX5_trusted : MethodName := ⟨RX5, "trusted", "()I"⟩
abbrev cX5_formerCount : ByteArray := prog_7_method_5_code
def yX5_formerCount : MethodName := ⟨RX5, "formerCount", "()I"⟩
abbrev cX5_formerAt : ByteArray := prog_7_method_6_code
def yX5_formerAt : MethodName := ⟨RX5, "formerAt", "(I)I"⟩
abbrev cX5_nowTrust : ByteArray := prog_7_method_7_code
def yX5_nowTrust : MethodName := ⟨RX5, "nowTrust", "(I)I"⟩
abbrev cX5_isFormer : ByteArray := prog_7_method_8_code
def yX5_isFormer : MethodName := ⟨RX5, "isFormer", "(I)Z"⟩
abbrev cX5_reasonBy : ByteArray := prog_7_method_9_code
def yX5_reasonBy : MethodName := ⟨RX5, "reasonBy", "(II)I"⟩
abbrev cX5_takeIn : ByteArray := prog_7_method_10_code
def yX5_takeIn : MethodName := ⟨RX5, "takeIn", "(II)I"⟩
abbrev cX5_reasonOfNode : ByteArray := prog_7_method_11_code
def yX5_reasonOfNode : MethodName := ⟨RX5, "reasonOfNode", "(IIII)I"⟩
abbrev cX5_reasonOfLeaf : ByteArray := prog_7_method_12_code
def yX5_reasonOfLeaf : MethodName := ⟨RX5, "reasonOfLeaf", "(IIIZ)I"⟩
abbrev cX5_digestAfter : ByteArray := prog_7_method_13_code
def yX5_digestAfter : MethodName := ⟨RX5, "digestAfter", "(II)I"⟩
def RX6 : String := "BorderProofs$Slot"
def TX6 : u_T := fun k => match k with
  | 0 => ("BorderProofs$Slot", "pairs", "LBorderProofs$Pairs;", true)
  | _ => ("BorderProofs$Slot", "filled", "Z", false)
def tyX6 : Nat → FieldType := fun k => match k with
  | 0 => .object "BorderProofs$Pairs"
  | _ => .boolean
abbrev wsX60 : List Cond := u_ws RX6 TX6 2
theorem nmX6 : ∀ a, a < 2 → ∀ b, b < 2 → a ≠ b → (TX6 a).2.1 ≠ (TX6 b).2.1 := by decide +kernel
theorem tyX6_ok : ∀ k, k < 2 → parseFieldDescriptor (TX6 k).2.2.1 = some (tyX6 k) := by decide +kernel
abbrev cX6_init : ByteArray := prog_8_method_1_code
def yX6_init : MethodName := ⟨RX6, "<init>", "()V"⟩
abbrev cX6_pairs : ByteArray := prog_8_method_2_code
def yX6_pairs : MethodName := ⟨RX6, "pairs", "()LBorderProofs$Pairs;"⟩
abbrev cX6_isFilled : ByteArray := prog_8_method_3_code
def yX6_isFilled : MethodName := ⟨RX6, "isFilled", "()Z"⟩
abbrev cX6_fill : ByteArray := prog_8_method_4_code
def yX6_fill : MethodName := ⟨RX6, "fill", "(LBorderProofs$Pairs;)V"⟩
def RX7 : String := "BorderProofs$Tree"
def TX7 : u_T := fun k => match k with
  | 0 => ("BorderProofs$Tree", "lefts", "[I", true)
  | 1 => ("BorderProofs$Tree", "rights", "[I", true)
  | 2 => ("BorderProofs$Tree", "digests", "[I", true)
  | 3 => ("BorderProofs$Tree", "hidden", "[I", true)
  | 4 => ("BorderProofs$Tree", "open", "[I", true)
  | 5 => ("BorderProofs$Tree", "openCount", "I", false)
  | 6 => ("BorderProofs$Tree", "root", "I", false)
  | _ => ("BorderProofs$Tree", "pending", "LBorderProofs$Pending;", true)
def tyX7 : Nat → FieldType := fun k => match k with
  | 0 => .array .int
  | 1 => .array .int
  | 2 => .array .int
  | 3 => .array .int
  | 4 => .array .int
  | 5 => .int
  | 6 => .int
  | _ => .object "BorderProofs$Pending"
abbrev wsX70 : List Cond := u_ws RX7 TX7 8
theorem nmX7 : ∀ a, a < 8 → ∀ b, b < 8 → a ≠ b → (TX7 a).2.1 ≠ (TX7 b).2.1 := by decide +kernel
theorem tyX7_ok : ∀ k, k < 8 → parseFieldDescriptor (TX7 k).2.2.1 = some (tyX7 k) := by decide +kernel
abbrev cX7_init : ByteArray := prog_9_method_1_code
def yX7_init : MethodName := ⟨RX7, "<init>", "()V"⟩
abbrev cX7_rootDigest : ByteArray := prog_9_method_2_code
def yX7_rootDigest : MethodName := ⟨RX7, "rootDigest", "()I"⟩
abbrev cX7_leftOf : ByteArray := prog_9_method_3_code
def yX7_leftOf : MethodName := ⟨RX7, "leftOf", "(I)I"⟩
abbrev cX7_rightOf : ByteArray := prog_9_method_4_code
def yX7_rightOf : MethodName := ⟨RX7, "rightOf", "(I)I"⟩
abbrev cX7_digestOf : ByteArray := prog_9_method_5_code
def yX7_digestOf : MethodName := ⟨RX7, "digestOf", "(I)I"⟩
abbrev cX7_hideNothing : ByteArray := prog_9_method_6_code
def yX7_hideNothing : MethodName := ⟨RX7, "hideNothing", "()V"⟩
abbrev cX7_hide : ByteArray := prog_9_method_7_code
def yX7_hide : MethodName := ⟨RX7, "hide", "(II)V"⟩
abbrev cX7_grow : ByteArray := prog_9_method_8_code
def yX7_grow : MethodName := ⟨RX7, "grow", "(LBorderProofs$Pairs;)V"⟩
abbrev cX7_closeBefore : ByteArray := prog_9_method_9_code
def yX7_closeBefore : MethodName := ⟨RX7, "closeBefore", "(ILBorderProofs$Pairs;)I"⟩
abbrev cX7_digestOr : ByteArray := prog_9_method_10_code
def yX7_digestOr : MethodName := ⟨RX7, "digestOr", "(II)I"⟩
abbrev cX7_childTowards : ByteArray := prog_9_method_11_code
def yX7_childTowards : MethodName := ⟨RX7, "childTowards", "(II)I"⟩
abbrev cX7_countNodesAround : ByteArray := prog_9_method_12_code
def yX7_countNodesAround : MethodName := ⟨RX7, "countNodesAround", "(I)I"⟩
abbrev cX7_proofLengthOf : ByteArray := prog_9_method_13_code
def yX7_proofLengthOf : MethodName := ⟨RX7, "proofLengthOf", "(I)I"⟩
abbrev cX7_height : ByteArray := prog_9_method_14_code
def yX7_height : MethodName := ⟨RX7, "height", "()I"⟩
abbrev cX7_placeOf : ByteArray := prog_9_method_15_code
def yX7_placeOf : MethodName := ⟨RX7, "placeOf", "(I)LBorderProofs$Place;"⟩
abbrev cX7_isLike : ByteArray := prog_9_method_16_code
def yX7_isLike : MethodName := ⟨RX7, "isLike", "(ILBorderProofs$Tree;)Z"⟩
abbrev cX7_isFirstLike : ByteArray := prog_9_method_17_code
def yX7_isFirstLike : MethodName := ⟨RX7, "isFirstLike", "(ILBorderProofs$Tree;)Z"⟩
abbrev cX7_writeProof : ByteArray := prog_9_method_18_code
def yX7_writeProof : MethodName := ⟨RX7, "writeProof", "(LBorderProofs$Pairs;IILBorderProofs$Items;)V"⟩
def RX8 : String := "BorderProofs"
def TX8 : u_T := fun k => match k with
  | 0 => ("BorderProofs", "map", "LBorderProofs$Pairs;", true)
  | 1 => ("BorderProofs", "tree", "LBorderProofs$Tree;", true)
  | 2 => ("BorderProofs", "doings", "LBorderProofs$Doings;", true)
  | 3 => ("BorderProofs", "reader", "LBorderProofs$Reader;", true)
  | 4 => ("BorderProofs", "slots", "[LBorderProofs$Slot;", true)
  | 5 => ("BorderProofs", "trial", "LBorderProofs$Pairs;", true)
  | 6 => ("BorderProofs", "otherTree", "LBorderProofs$Tree;", true)
  | _ => ("BorderProofs", "written", "LBorderProofs$Items;", true)
def tyX8 : Nat → FieldType := fun k => match k with
  | 0 => .object "BorderProofs$Pairs"
  | 1 => .object "BorderProofs$Tree"
  | 2 => .object "BorderProofs$Doings"
  | 3 => .object "BorderProofs$Reader"
  | 4 => .array (.object "BorderProofs$Slot")
  | 5 => .object "BorderProofs$Pairs"
  | 6 => .object "BorderProofs$Tree"
  | _ => .object "BorderProofs$Items"
abbrev wsX80 : List Cond := u_ws RX8 TX8 8
theorem nmX8 : ∀ a, a < 8 → ∀ b, b < 8 → a ≠ b → (TX8 a).2.1 ≠ (TX8 b).2.1 := by decide +kernel
theorem tyX8_ok : ∀ k, k < 8 → parseFieldDescriptor (TX8 k).2.2.1 = some (tyX8 k) := by decide +kernel
abbrev cX8_init : ByteArray := prog_1_method_1_code
def yX8_init : MethodName := ⟨RX8, "<init>", "()V"⟩
abbrev cX8_put : ByteArray := prog_1_method_2_code
def yX8_put : MethodName := ⟨RX8, "put", "(II)I"⟩
abbrev cX8_remove : ByteArray := prog_1_method_3_code
def yX8_remove : MethodName := ⟨RX8, "remove", "(I)I"⟩
abbrev cX8_get : ByteArray := prog_1_method_4_code
def yX8_get : MethodName := ⟨RX8, "get", "(I)I"⟩
abbrev cX8_scatter : ByteArray := prog_1_method_5_code
def yX8_scatter : MethodName := ⟨RX8, "scatter", "(IJ)I"⟩
abbrev cX8_undo : ByteArray := prog_1_method_6_code
def yX8_undo : MethodName := ⟨RX8, "undo", "()I"⟩
abbrev cX8_about : ByteArray := prog_1_method_7_code
def yX8_about : MethodName := ⟨RX8, "about", "(I)I"⟩
abbrev cX8_node : ByteArray := prog_1_method_8_code
def yX8_node : MethodName := ⟨RX8, "node", "(II)I"⟩
abbrev cX8_rank : ByteArray := prog_1_method_9_code
def yX8_rank : MethodName := ⟨RX8, "rank", "(I)I"⟩
abbrev cX8_proof : ByteArray := prog_1_method_10_code
def yX8_proof : MethodName := ⟨RX8, "proof", "(III)I"⟩
abbrev cX8_item : ByteArray := prog_1_method_11_code
def yX8_item : MethodName := ⟨RX8, "item", "(III)I"⟩
abbrev cX8_lengths : ByteArray := prog_1_method_12_code
def yX8_lengths : MethodName := ⟨RX8, "lengths", "(II)I"⟩
abbrev cX8_send : ByteArray := prog_1_method_13_code
def yX8_send : MethodName := ⟨RX8, "send", "(II)I"⟩
abbrev cX8_tell : ByteArray := prog_1_method_14_code
def yX8_tell : MethodName := ⟨RX8, "tell", "(I)I"⟩
abbrev cX8_alter : ByteArray := prog_1_method_15_code
def yX8_alter : MethodName := ⟨RX8, "alter", "(II)I"⟩
abbrev cX8_cut : ByteArray := prog_1_method_16_code
def yX8_cut : MethodName := ⟨RX8, "cut", "(I)I"⟩
abbrev cX8_trust : ByteArray := prog_1_method_17_code
def yX8_trust : MethodName := ⟨RX8, "trust", "()I"⟩
abbrev cX8_believe : ByteArray := prog_1_method_18_code
def yX8_believe : MethodName := ⟨RX8, "believe", "(I)I"⟩
abbrev cX8_read : ByteArray := prog_1_method_19_code
def yX8_read : MethodName := ⟨RX8, "read", "(II)I"⟩
abbrev cX8_learnt : ByteArray := prog_1_method_20_code
def yX8_learnt : MethodName := ⟨RX8, "learnt", "(III)I"⟩
abbrev cX8_found : ByteArray := prog_1_method_21_code
def yX8_found : MethodName := ⟨RX8, "found", "(III)I"⟩
abbrev cX8_step : ByteArray := prog_1_method_22_code
def yX8_step : MethodName := ⟨RX8, "step", "(II)I"⟩
abbrev cX8_follow : ByteArray := prog_1_method_23_code
def yX8_follow : MethodName := ⟨RX8, "follow", "(II)I"⟩
abbrev cX8_former : ByteArray := prog_1_method_24_code
def yX8_former : MethodName := ⟨RX8, "former", "(I)I"⟩
abbrev cX8_judge : ByteArray := prog_1_method_25_code
def yX8_judge : MethodName := ⟨RX8, "judge", "(IJ)I"⟩
abbrev cX8_keep : ByteArray := prog_1_method_26_code
def yX8_keep : MethodName := ⟨RX8, "keep", "(I)I"⟩
abbrev cX8_again : ByteArray := prog_1_method_27_code
def yX8_again : MethodName := ⟨RX8, "again", "(I)I"⟩
abbrev cX8_differ : ByteArray := prog_1_method_28_code
def yX8_differ : MethodName := ⟨RX8, "differ", "(II)I"⟩
abbrev cX8_withoutLast : ByteArray := prog_1_method_29_code
def yX8_withoutLast : MethodName := ⟨RX8, "withoutLast", "(IJ)J"⟩
abbrev cX8_canBe : ByteArray := prog_1_method_30_code
def yX8_canBe : MethodName := ⟨RX8, "canBe", "(I)Z"⟩
abbrev cX8_tryPut : ByteArray := prog_1_method_31_code
def yX8_tryPut : MethodName := ⟨RX8, "tryPut", "(II)Z"⟩
abbrev cX8_tryRemove : ByteArray := prog_1_method_32_code
def yX8_tryRemove : MethodName := ⟨RX8, "tryRemove", "(I)Z"⟩
abbrev cX8_trialTree : ByteArray := prog_1_method_33_code
def yX8_trialTree : MethodName := ⟨RX8, "trialTree", "()LBorderProofs$Tree;"⟩
abbrev cX8_countOtherwise : ByteArray := prog_1_method_34_code
def yX8_countOtherwise : MethodName := ⟨RX8, "countOtherwise", "(LBorderProofs$Pairs;)I"⟩
abbrev cX8_leastOtherwise : ByteArray := prog_1_method_35_code
def yX8_leastOtherwise : MethodName := ⟨RX8, "leastOtherwise", "(LBorderProofs$Pairs;)I"⟩
abbrev cX8_countPassedOver : ByteArray := prog_1_method_36_code
def yX8_countPassedOver : MethodName := ⟨RX8, "countPassedOver", "(LBorderProofs$Pairs;)I"⟩
abbrev cX8_countNodesPassedOver : ByteArray := prog_1_method_37_code
def yX8_countNodesPassedOver : MethodName := ⟨RX8, "countNodesPassedOver", "(LBorderProofs$Pairs;)I"⟩
abbrev cX8_isNumber : ByteArray := prog_1_method_38_code
def yX8_isNumber : MethodName := ⟨RX8, "isNumber", "(I)Z"⟩
abbrev cX8_isRange : ByteArray := prog_1_method_39_code
def yX8_isRange : MethodName := ⟨RX8, "isRange", "(II)Z"⟩
abbrev cX8_isItem : ByteArray := prog_1_method_40_code
def yX8_isItem : MethodName := ⟨RX8, "isItem", "(I)Z"⟩
abbrev cX8_isNodeItem : ByteArray := prog_1_method_41_code
def yX8_isNodeItem : MethodName := ⟨RX8, "isNodeItem", "(I)Z"⟩
abbrev cX8_isStep : ByteArray := prog_1_method_42_code
def yX8_isStep : MethodName := ⟨RX8, "isStep", "(II)Z"⟩
abbrev cX8_isSlot : ByteArray := prog_1_method_43_code
def yX8_isSlot : MethodName := ⟨RX8, "isSlot", "(I)Z"⟩
abbrev cX8_rankOf : ByteArray := prog_1_method_44_code
def yX8_rankOf : MethodName := ⟨RX8, "rankOf", "(I)I"⟩
abbrev cX8_isAbove : ByteArray := prog_1_method_45_code
def yX8_isAbove : MethodName := ⟨RX8, "isAbove", "(II)Z"⟩
abbrev cX8_digestOfNode : ByteArray := prog_1_method_46_code
def yX8_digestOfNode : MethodName := ⟨RX8, "digestOfNode", "(IIII)I"⟩
abbrev cX8_mixed : ByteArray := prog_1_method_47_code
def yX8_mixed : MethodName := ⟨RX8, "mixed", "(JI)J"⟩
abbrev cX8_nodeItem : ByteArray := prog_1_method_48_code
def yX8_nodeItem : MethodName := ⟨RX8, "nodeItem", "(II)I"⟩
abbrev cX8_keyOfItem : ByteArray := prog_1_method_49_code
def yX8_keyOfItem : MethodName := ⟨RX8, "keyOfItem", "(I)I"⟩
abbrev cX8_valueOfItem : ByteArray := prog_1_method_50_code
def yX8_valueOfItem : MethodName := ⟨RX8, "valueOfItem", "(I)I"⟩
def RX9 : String := "BorderProofsModel"
def TX9 : u_T := fun k => match k with
  | 0 => ("BorderProofsModel", "now", "[I", true)
  | 1 => ("BorderProofsModel", "trial", "[I", true)
  | 2 => ("BorderProofsModel", "diary", "[I", true)
  | 3 => ("BorderProofsModel", "doings", "I", false)
  | 4 => ("BorderProofsModel", "next", "I", false)
  | 5 => ("BorderProofsModel", "kept", "[I", true)
  | 6 => ("BorderProofsModel", "isKept", "[Z", true)
  | 7 => ("BorderProofsModel", "above", "[I", true)
  | 8 => ("BorderProofsModel", "left", "[I", true)
  | 9 => ("BorderProofsModel", "right", "[I", true)
  | 10 => ("BorderProofsModel", "deep", "[I", true)
  | 11 => ("BorderProofsModel", "low", "[I", true)
  | 12 => ("BorderProofsModel", "high", "[I", true)
  | 13 => ("BorderProofsModel", "many", "[I", true)
  | 14 => ("BorderProofsModel", "digest", "[I", true)
  | 15 => ("BorderProofsModel", "top", "[I", true)
  | 16 => ("BorderProofsModel", "order", "[I", true)
  | 17 => ("BorderProofsModel", "wantLow", "[I", true)
  | 18 => ("BorderProofsModel", "wantHigh", "[I", true)
  | 19 => ("BorderProofsModel", "wantAbove", "[I", true)
  | 20 => ("BorderProofsModel", "wantSide", "[I", true)
  | 21 => ("BorderProofsModel", "wants", "I", false)
  | 22 => ("BorderProofsModel", "proof", "[I", true)
  | 23 => ("BorderProofsModel", "proofSize", "I", false)
  | 24 => ("BorderProofsModel", "row", "[I", true)
  | 25 => ("BorderProofsModel", "size", "I", false)
  | 26 => ("BorderProofsModel", "trusted", "I", false)
  | 27 => ("BorderProofsModel", "former", "[I", true)
  | 28 => ("BorderProofsModel", "formers", "I", false)
  | 29 => ("BorderProofsModel", "readKey", "[I", true)
  | 30 => ("BorderProofsModel", "readValue", "[I", true)
  | 31 => ("BorderProofsModel", "readLeft", "[I", true)
  | 32 => ("BorderProofsModel", "readRight", "[I", true)
  | 33 => ("BorderProofsModel", "leftLeaf", "[I", true)
  | 34 => ("BorderProofsModel", "rightLeaf", "[I", true)
  | 35 => ("BorderProofsModel", "readDigest", "[I", true)
  | 36 => ("BorderProofsModel", "readNodes", "I", false)
  | 37 => ("BorderProofsModel", "rootLeaf", "I", false)
  | 38 => ("BorderProofsModel", "rowKey", "[I", true)
  | 39 => ("BorderProofsModel", "rowValue", "[I", true)
  | 40 => ("BorderProofsModel", "gap", "[I", true)
  | 41 => ("BorderProofsModel", "rowKeys", "I", false)
  | 42 => ("BorderProofsModel", "bestAt", "[I", true)
  | 43 => ("BorderProofsModel", "bestLeft", "[I", true)
  | 44 => ("BorderProofsModel", "bestRight", "[I", true)
  | _ => ("BorderProofsModel", "bestDigest", "[I", true)
def tyX9 : Nat → FieldType := fun k => match k with
  | 0 => .array .int
  | 1 => .array .int
  | 2 => .array .int
  | 3 => .int
  | 4 => .int
  | 5 => .array .int
  | 6 => .array .boolean
  | 7 => .array .int
  | 8 => .array .int
  | 9 => .array .int
  | 10 => .array .int
  | 11 => .array .int
  | 12 => .array .int
  | 13 => .array .int
  | 14 => .array .int
  | 15 => .array .int
  | 16 => .array .int
  | 17 => .array .int
  | 18 => .array .int
  | 19 => .array .int
  | 20 => .array .int
  | 21 => .int
  | 22 => .array .int
  | 23 => .int
  | 24 => .array .int
  | 25 => .int
  | 26 => .int
  | 27 => .array .int
  | 28 => .int
  | 29 => .array .int
  | 30 => .array .int
  | 31 => .array .int
  | 32 => .array .int
  | 33 => .array .int
  | 34 => .array .int
  | 35 => .array .int
  | 36 => .int
  | 37 => .int
  | 38 => .array .int
  | 39 => .array .int
  | 40 => .array .int
  | 41 => .int
  | 42 => .array .int
  | 43 => .array .int
  | 44 => .array .int
  | _ => .array .int
abbrev wsX90 : List Cond := u_ws RX9 TX9 46
theorem nmX9 : ∀ a, a < 46 → ∀ b, b < 46 → a ≠ b → (TX9 a).2.1 ≠ (TX9 b).2.1 := by decide +kernel
theorem tyX9_ok : ∀ k, k < 46 → parseFieldDescriptor (TX9 k).2.2.1 = some (tyX9 k) := by decide +kernel
abbrev cX9_init : ByteArray := prog_11_method_1_code
def yX9_init : MethodName := ⟨RX9, "<init>", "()V"⟩
abbrev cX9_in : ByteArray := prog_11_method_3_code
def yX9_in : MethodName := ⟨RX9, "in", "(JJJ)Z"⟩
abbrev cX9_isNumber : ByteArray := prog_11_method_4_code
def yX9_isNumber : MethodName := ⟨RX9, "isNumber", "(I)Z"⟩
abbrev cX9_isRange : ByteArray := prog_11_method_5_code
def yX9_isRange : MethodName := ⟨RX9, "isRange", "(II)Z"⟩
abbrev cX9_rankOf : ByteArray := prog_11_method_6_code
def yX9_rankOf : MethodName := ⟨RX9, "rankOf", "(I)I"⟩
abbrev cX9_isAbove : ByteArray := prog_11_method_7_code
def yX9_isAbove : MethodName := ⟨RX9, "isAbove", "(II)Z"⟩
abbrev cX9_digestOf : ByteArray := prog_11_method_8_code
def yX9_digestOf : MethodName := ⟨RX9, "digestOf", "(IIII)I"⟩
abbrev cX9_manyOf : ByteArray := prog_11_method_9_code
def yX9_manyOf : MethodName := ⟨RX9, "manyOf", "([I)I"⟩
abbrev cX9_want : ByteArray := prog_11_method_10_code
def yX9_want : MethodName := ⟨RX9, "want", "(IIII)V"⟩
abbrev cX9_uppermost : ByteArray := prog_11_method_11_code
def yX9_uppermost : MethodName := ⟨RX9, "uppermost", "([III)I"⟩
abbrev cX9_make : ByteArray := prog_11_method_12_code
def yX9_make : MethodName := ⟨RX9, "make", "([II)V"⟩
abbrev cX9_rootOf : ByteArray := prog_11_method_13_code
def yX9_rootOf : MethodName := ⟨RX9, "rootOf", "([I)I"⟩
abbrev cX9_note : ByteArray := prog_11_method_14_code
def yX9_note : MethodName := ⟨RX9, "note", "()V"⟩
abbrev cX9_mayPut : ByteArray := prog_11_method_15_code
def yX9_mayPut : MethodName := ⟨RX9, "mayPut", "([II)Z"⟩
abbrev cX9_put : ByteArray := prog_11_method_16_code
def yX9_put : MethodName := ⟨RX9, "put", "(II)I"⟩
abbrev cX9_remove : ByteArray := prog_11_method_17_code
def yX9_remove : MethodName := ⟨RX9, "remove", "(I)I"⟩
abbrev cX9_get : ByteArray := prog_11_method_18_code
def yX9_get : MethodName := ⟨RX9, "get", "(I)I"⟩
abbrev cX9_scatter : ByteArray := prog_11_method_19_code
def yX9_scatter : MethodName := ⟨RX9, "scatter", "(IJ)I"⟩
abbrev cX9_undo : ByteArray := prog_11_method_20_code
def yX9_undo : MethodName := ⟨RX9, "undo", "()I"⟩
abbrev cX9_height : ByteArray := prog_11_method_21_code
def yX9_height : MethodName := ⟨RX9, "height", "()I"⟩
abbrev cX9_values : ByteArray := prog_11_method_22_code
def yX9_values : MethodName := ⟨RX9, "values", "()I"⟩
abbrev cX9_about : ByteArray := prog_11_method_23_code
def yX9_about : MethodName := ⟨RX9, "about", "(I)I"⟩
abbrev cX9_node : ByteArray := prog_11_method_24_code
def yX9_node : MethodName := ⟨RX9, "node", "(II)I"⟩
abbrev cX9_rank : ByteArray := prog_11_method_25_code
def yX9_rank : MethodName := ⟨RX9, "rank", "(I)I"⟩
abbrev cX9_itemOf : ByteArray := prog_11_method_26_code
def yX9_itemOf : MethodName := ⟨RX9, "itemOf", "(II)I"⟩
abbrev cX9_prove : ByteArray := prog_11_method_27_code
def yX9_prove : MethodName := ⟨RX9, "prove", "([III)V"⟩
abbrev cX9_proof : ByteArray := prog_11_method_28_code
def yX9_proof : MethodName := ⟨RX9, "proof", "(III)I"⟩
abbrev cX9_item : ByteArray := prog_11_method_29_code
def yX9_item : MethodName := ⟨RX9, "item", "(III)I"⟩
abbrev cX9_lengths : ByteArray := prog_11_method_30_code
def yX9_lengths : MethodName := ⟨RX9, "lengths", "(II)I"⟩
abbrev cX9_send : ByteArray := prog_11_method_31_code
def yX9_send : MethodName := ⟨RX9, "send", "(II)I"⟩
abbrev cX9_isItem : ByteArray := prog_11_method_32_code
def yX9_isItem : MethodName := ⟨RX9, "isItem", "(I)Z"⟩
abbrev cX9_tell : ByteArray := prog_11_method_33_code
def yX9_tell : MethodName := ⟨RX9, "tell", "(I)I"⟩
abbrev cX9_alter : ByteArray := prog_11_method_34_code
def yX9_alter : MethodName := ⟨RX9, "alter", "(II)I"⟩
abbrev cX9_cut : ByteArray := prog_11_method_35_code
def yX9_cut : MethodName := ⟨RX9, "cut", "(I)I"⟩
abbrev cX9_takeTrust : ByteArray := prog_11_method_36_code
def yX9_takeTrust : MethodName := ⟨RX9, "takeTrust", "(I)I"⟩
abbrev cX9_trust : ByteArray := prog_11_method_37_code
def yX9_trust : MethodName := ⟨RX9, "trust", "()I"⟩
abbrev cX9_believe : ByteArray := prog_11_method_38_code
def yX9_believe : MethodName := ⟨RX9, "believe", "(I)I"⟩
abbrev cX9_former : ByteArray := prog_11_method_39_code
def yX9_former : MethodName := ⟨RX9, "former", "(I)I"⟩
abbrev cX9_hang : ByteArray := prog_11_method_40_code
def yX9_hang : MethodName := ⟨RX9, "hang", "(IIII)V"⟩
abbrev cX9_takeItem : ByteArray := prog_11_method_41_code
def yX9_takeItem : MethodName := ⟨RX9, "takeItem", "(IIII)I"⟩
abbrev cX9_reasonOf : ByteArray := prog_11_method_42_code
def yX9_reasonOf : MethodName := ⟨RX9, "reasonOf", "(II)I"⟩
abbrev cX9_shownDigest : ByteArray := prog_11_method_43_code
def yX9_shownDigest : MethodName := ⟨RX9, "shownDigest", "()I"⟩
abbrev cX9_read : ByteArray := prog_11_method_44_code
def yX9_read : MethodName := ⟨RX9, "read", "(II)I"⟩
abbrev cX9_learnt : ByteArray := prog_11_method_45_code
def yX9_learnt : MethodName := ⟨RX9, "learnt", "(III)I"⟩
abbrev cX9_found : ByteArray := prog_11_method_46_code
def yX9_found : MethodName := ⟨RX9, "found", "(III)I"⟩
abbrev cX9_layRow : ByteArray := prog_11_method_47_code
def yX9_layRow : MethodName := ⟨RX9, "layRow", "()V"⟩
abbrev cX9_placeOf : ByteArray := prog_11_method_48_code
def yX9_placeOf : MethodName := ⟨RX9, "placeOf", "(I)I"⟩
abbrev cX9_takeOut : ByteArray := prog_11_method_49_code
def yX9_takeOut : MethodName := ⟨RX9, "takeOut", "(I)V"⟩
abbrev cX9_putIn : ByteArray := prog_11_method_50_code
def yX9_putIn : MethodName := ⟨RX9, "putIn", "(II)V"⟩
abbrev cX9_uppermostOf : ByteArray := prog_11_method_51_code
def yX9_uppermostOf : MethodName := ⟨RX9, "uppermostOf", "(II)I"⟩
abbrev cX9_rowDigest : ByteArray := prog_11_method_52_code
def yX9_rowDigest : MethodName := ⟨RX9, "rowDigest", "()I"⟩
abbrev cX9_hanging : ByteArray := prog_11_method_53_code
def yX9_hanging : MethodName := ⟨RX9, "hanging", "(I)I"⟩
abbrev cX9_followed : ByteArray := prog_11_method_54_code
def yX9_followed : MethodName := ⟨RX9, "followed", "(II)I"⟩
abbrev cX9_step : ByteArray := prog_11_method_55_code
def yX9_step : MethodName := ⟨RX9, "step", "(II)I"⟩
abbrev cX9_follow : ByteArray := prog_11_method_56_code
def yX9_follow : MethodName := ⟨RX9, "follow", "(II)I"⟩
abbrev cX9_judged : ByteArray := prog_11_method_57_code
def yX9_judged : MethodName := ⟨RX9, "judged", "(III)Z"⟩
abbrev cX9_hundredThousands : ByteArray := prog_11_method_58_code
def yX9_hundredThousands : MethodName := ⟨RX9, "hundredThousands", "(I)J"⟩
abbrev cX9_judge : ByteArray := prog_11_method_59_code
def yX9_judge : MethodName := ⟨RX9, "judge", "(IJ)I"⟩
abbrev cX9_keep : ByteArray := prog_11_method_60_code
def yX9_keep : MethodName := ⟨RX9, "keep", "(I)I"⟩
abbrev cX9_again : ByteArray := prog_11_method_61_code
def yX9_again : MethodName := ⟨RX9, "again", "(I)I"⟩
abbrev cX9_isSame : ByteArray := prog_11_method_62_code
def yX9_isSame : MethodName := ⟨RX9, "isSame", "(I)Z"⟩
abbrev cX9_isPassed : ByteArray := prog_11_method_63_code
def yX9_isPassed : MethodName := ⟨RX9, "isPassed", "(I)Z"⟩
abbrev cX9_differ : ByteArray := prog_11_method_64_code
def yX9_differ : MethodName := ⟨RX9, "differ", "(II)I"⟩
def RJ9 : String := "java/lang/Math"
def TJ9 : u_T := fun k => match k with
  | _ => ("", "", "", false)
def tyJ9 : Nat → FieldType := fun k => match k with
  | _ => .int
abbrev wsJ90 : List Cond := u_ws RJ9 TJ9 0
theorem nmJ9 : ∀ a, a < 0 → ∀ b, b < 0 → a ≠ b → (TJ9 a).2.1 ≠ (TJ9 b).2.1 := by decide +kernel
theorem tyJ9_ok : ∀ k, k < 0 → parseFieldDescriptor (TJ9 k).2.2.1 = some (tyJ9 k) := by decide +kernel
abbrev cJ9_floorMod_7cf53 : ByteArray := prog_12_method_50_code
def yJ9_floorMod_7cf53 : MethodName := ⟨RJ9, "floorMod", "(II)I"⟩
abbrev cJ9_max_7cf53 : ByteArray := prog_12_method_65_code
def yJ9_max_7cf53 : MethodName := ⟨RJ9, "max", "(II)I"⟩
abbrev cJ9_min_7cf53 : ByteArray := prog_12_method_69_code
def yJ9_min_7cf53 : MethodName := ⟨RJ9, "min", "(II)I"⟩
def RJ10 : String := "java/lang/System"
def TJ10 : u_T := fun k => match k with
  | _ => ("", "", "", false)
def tyJ10 : Nat → FieldType := fun k => match k with
  | _ => .int
abbrev wsJ100 : List Cond := u_ws RJ10 TJ10 0
theorem nmJ10 : ∀ a, a < 0 → ∀ b, b < 0 → a ≠ b → (TJ10 a).2.1 ≠ (TJ10 b).2.1 := by decide +kernel
theorem tyJ10_ok : ∀ k, k < 0 → parseFieldDescriptor (TJ10 k).2.2.1 = some (tyJ10 k) := by decide +kernel
def RJ7 : String := "java/util/Arrays"
def TJ7 : u_T := fun k => match k with
  | _ => ("", "", "", false)
def tyJ7 : Nat → FieldType := fun k => match k with
  | _ => .int
abbrev wsJ70 : List Cond := u_ws RJ7 TJ7 0
theorem nmJ7 : ∀ a, a < 0 → ∀ b, b < 0 → a ≠ b → (TJ7 a).2.1 ≠ (TJ7 b).2.1 := by decide +kernel
theorem tyJ7_ok : ∀ k, k < 0 → parseFieldDescriptor (TJ7 k).2.2.1 = some (tyJ7 k) := by decide +kernel
abbrev cJ7_fill_53178 : ByteArray := prog_14_method_103_code
def yJ7_fill_53178 : MethodName := ⟨RJ7, "fill", "([II)V"⟩
def RL : String := "BorderProofsLaw"
abbrev cL_law : ByteArray := code
def yL_law : MethodName := ⟨RL, "law", "([I)Z"⟩
abbrev vwCl : List vw_C := [(RX0, TX0, 3), (RX1, TX1, 2), (RX2, TX2, 2), (RX3, TX3, 5), (RX4, TX4, 4), (RX5, TX5, 7), (RX6, TX6, 2), (RX7, TX7, 8), (RX8, TX8, 8), (RX9, TX9, 46)]
end
section
theorem dX0_init_0 : decode cX0_init 0 = .ok (.aload_n 0, 1) := by decide +kernel
theorem dX0_init_1 : decode cX0_init 1 = .ok (.invokespecial 3, 3) := by decide +kernel
theorem dX0_init_4 : decode cX0_init 4 = .ok (.aload_n 0, 1) := by decide +kernel
theorem dX0_init_5 : decode cX0_init 5 = .ok (.bipush 14, 2) := by decide +kernel
theorem dX0_init_7 : decode cX0_init 7 = .ok (.anewarray 9, 3) := by decide +kernel
theorem dX0_init_10 : decode cX0_init 10 = .ok (.putfield 11, 3) := by decide +kernel
theorem dX0_init_13 : decode cX0_init 13 = .ok (.iconst 0, 1) := by decide +kernel
theorem dX0_init_14 : decode cX0_init 14 = .ok (.istore_n 1, 1) := by decide +kernel
theorem dX0_init_15 : decode cX0_init 15 = .ok (.iload_n 1, 1) := by decide +kernel
theorem dX0_init_16 : decode cX0_init 16 = .ok (.bipush 14, 2) := by decide +kernel
theorem dX0_init_18 : decode cX0_init 18 = .ok (.if_icmp .ge 22, 3) := by decide +kernel
theorem dX0_init_21 : decode cX0_init 21 = .ok (.aload_n 0, 1) := by decide +kernel
theorem dX0_init_22 : decode cX0_init 22 = .ok (.getfield 11, 3) := by decide +kernel
theorem dX0_init_25 : decode cX0_init 25 = .ok (.iload_n 1, 1) := by decide +kernel
theorem dX0_init_26 : decode cX0_init 26 = .ok (.new 9, 3) := by decide +kernel
theorem dX0_init_29 : decode cX0_init 29 = .ok (.dup, 1) := by decide +kernel
theorem dX0_init_30 : decode cX0_init 30 = .ok (.invokespecial 17, 3) := by decide +kernel
theorem dX0_init_33 : decode cX0_init 33 = .ok (.aastore, 1) := by decide +kernel
theorem dX0_init_34 : decode cX0_init 34 = .ok (.iinc 1 1, 3) := by decide +kernel
theorem dX0_init_37 : decode cX0_init 37 = .ok (.goto (-22), 3) := by decide +kernel
theorem dX0_init_40 : decode cX0_init 40 = .ok (.return_, 1) := by decide +kernel
theorem dX0_count_0 : decode cX0_count 0 = .ok (.aload_n 0, 1) := by decide +kernel
theorem dX0_count_1 : decode cX0_count 1 = .ok (.getfield 18, 3) := by decide +kernel
theorem dX0_count_4 : decode cX0_count 4 = .ok (.ireturn, 1) := by decide +kernel
theorem dX0_note_0 : decode cX0_note 0 = .ok (.aload_n 0, 1) := by decide +kernel
theorem dX0_note_1 : decode cX0_note 1 = .ok (.getfield 18, 3) := by decide +kernel
theorem dX0_note_4 : decode cX0_note 4 = .ok (.bipush 14, 2) := by decide +kernel
theorem dX0_note_6 : decode cX0_note 6 = .ok (.if_icmp .ne 26, 3) := by decide +kernel
theorem dX0_note_9 : decode cX0_note 9 = .ok (.aload_n 0, 1) := by decide +kernel
theorem dX0_note_10 : decode cX0_note 10 = .ok (.aload_n 0, 1) := by decide +kernel
theorem dX0_note_11 : decode cX0_note 11 = .ok (.getfield 22, 3) := by decide +kernel
theorem dX0_note_14 : decode cX0_note 14 = .ok (.iconst 1, 1) := by decide +kernel
theorem dX0_note_15 : decode cX0_note 15 = .ok (.iadd, 1) := by decide +kernel
theorem dX0_note_16 : decode cX0_note 16 = .ok (.bipush 14, 2) := by decide +kernel
theorem dX0_note_18 : decode cX0_note 18 = .ok (.irem, 1) := by decide +kernel
theorem dX0_note_19 : decode cX0_note 19 = .ok (.putfield 22, 3) := by decide +kernel
theorem dX0_note_22 : decode cX0_note 22 = .ok (.aload_n 0, 1) := by decide +kernel
theorem dX0_note_23 : decode cX0_note 23 = .ok (.dup, 1) := by decide +kernel
theorem dX0_note_24 : decode cX0_note 24 = .ok (.getfield 18, 3) := by decide +kernel
theorem dX0_note_27 : decode cX0_note 27 = .ok (.iconst 1, 1) := by decide +kernel
theorem dX0_note_28 : decode cX0_note 28 = .ok (.isub, 1) := by decide +kernel
theorem dX0_note_29 : decode cX0_note 29 = .ok (.putfield 18, 3) := by decide +kernel
theorem dX0_note_32 : decode cX0_note 32 = .ok (.aload_n 0, 1) := by decide +kernel
theorem dX0_note_33 : decode cX0_note 33 = .ok (.aload_n 0, 1) := by decide +kernel
theorem dX0_note_34 : decode cX0_note 34 = .ok (.getfield 18, 3) := by decide +kernel
theorem dX0_note_37 : decode cX0_note 37 = .ok (.invokevirtual 25, 3) := by decide +kernel
theorem dX0_note_40 : decode cX0_note 40 = .ok (.aload_n 1, 1) := by decide +kernel
theorem dX0_note_41 : decode cX0_note 41 = .ok (.invokevirtual 29, 3) := by decide +kernel
theorem dX0_note_44 : decode cX0_note 44 = .ok (.aload_n 0, 1) := by decide +kernel
theorem dX0_note_45 : decode cX0_note 45 = .ok (.dup, 1) := by decide +kernel
theorem dX0_note_46 : decode cX0_note 46 = .ok (.getfield 18, 3) := by decide +kernel
theorem dX0_note_49 : decode cX0_note 49 = .ok (.iconst 1, 1) := by decide +kernel
theorem dX0_note_50 : decode cX0_note 50 = .ok (.iadd, 1) := by decide +kernel
theorem dX0_note_51 : decode cX0_note 51 = .ok (.putfield 18, 3) := by decide +kernel
theorem dX0_note_54 : decode cX0_note 54 = .ok (.return_, 1) := by decide +kernel
theorem dX0_takeBack_0 : decode cX0_takeBack 0 = .ok (.aload_n 0, 1) := by decide +kernel
theorem dX0_takeBack_1 : decode cX0_takeBack 1 = .ok (.getfield 18, 3) := by decide +kernel
theorem dX0_takeBack_4 : decode cX0_takeBack 4 = .ok (.ifCond .le 25, 3) := by decide +kernel
theorem dX0_takeBack_7 : decode cX0_takeBack 7 = .ok (.aload_n 0, 1) := by decide +kernel
theorem dX0_takeBack_8 : decode cX0_takeBack 8 = .ok (.dup, 1) := by decide +kernel
theorem dX0_takeBack_9 : decode cX0_takeBack 9 = .ok (.getfield 18, 3) := by decide +kernel
theorem dX0_takeBack_12 : decode cX0_takeBack 12 = .ok (.iconst 1, 1) := by decide +kernel
theorem dX0_takeBack_13 : decode cX0_takeBack 13 = .ok (.isub, 1) := by decide +kernel
theorem dX0_takeBack_14 : decode cX0_takeBack 14 = .ok (.putfield 18, 3) := by decide +kernel
theorem dX0_takeBack_17 : decode cX0_takeBack 17 = .ok (.aload_n 1, 1) := by decide +kernel
theorem dX0_takeBack_18 : decode cX0_takeBack 18 = .ok (.aload_n 0, 1) := by decide +kernel
theorem dX0_takeBack_19 : decode cX0_takeBack 19 = .ok (.aload_n 0, 1) := by decide +kernel
theorem dX0_takeBack_20 : decode cX0_takeBack 20 = .ok (.getfield 18, 3) := by decide +kernel
theorem dX0_takeBack_23 : decode cX0_takeBack 23 = .ok (.invokevirtual 25, 3) := by decide +kernel
theorem dX0_takeBack_26 : decode cX0_takeBack 26 = .ok (.invokevirtual 29, 3) := by decide +kernel
theorem dX0_takeBack_29 : decode cX0_takeBack 29 = .ok (.return_, 1) := by decide +kernel
theorem dX0_forgetAll_0 : decode cX0_forgetAll 0 = .ok (.aload_n 0, 1) := by decide +kernel
theorem dX0_forgetAll_1 : decode cX0_forgetAll 1 = .ok (.iconst 0, 1) := by decide +kernel
theorem dX0_forgetAll_2 : decode cX0_forgetAll 2 = .ok (.putfield 18, 3) := by decide +kernel
theorem dX0_forgetAll_5 : decode cX0_forgetAll 5 = .ok (.return_, 1) := by decide +kernel
theorem dX0_pairsAt_0 : decode cX0_pairsAt 0 = .ok (.aload_n 0, 1) := by decide +kernel
theorem dX0_pairsAt_1 : decode cX0_pairsAt 1 = .ok (.getfield 11, 3) := by decide +kernel
theorem dX0_pairsAt_4 : decode cX0_pairsAt 4 = .ok (.aload_n 0, 1) := by decide +kernel
theorem dX0_pairsAt_5 : decode cX0_pairsAt 5 = .ok (.getfield 22, 3) := by decide +kernel
theorem dX0_pairsAt_8 : decode cX0_pairsAt 8 = .ok (.iload_n 1, 1) := by decide +kernel
theorem dX0_pairsAt_9 : decode cX0_pairsAt 9 = .ok (.iadd, 1) := by decide +kernel
theorem dX0_pairsAt_10 : decode cX0_pairsAt 10 = .ok (.bipush 14, 2) := by decide +kernel
theorem dX0_pairsAt_12 : decode cX0_pairsAt 12 = .ok (.invokestatic 33, 3) := by decide +kernel
theorem dX0_pairsAt_15 : decode cX0_pairsAt 15 = .ok (.aaload, 1) := by decide +kernel
theorem dX0_pairsAt_16 : decode cX0_pairsAt 16 = .ok (.areturn, 1) := by decide +kernel
theorem dX1_init_0 : decode cX1_init 0 = .ok (.aload_n 0, 1) := by decide +kernel
theorem dX1_init_1 : decode cX1_init 1 = .ok (.invokespecial 3, 3) := by decide +kernel
theorem dX1_init_4 : decode cX1_init 4 = .ok (.aload_n 0, 1) := by decide +kernel
theorem dX1_init_5 : decode cX1_init 5 = .ok (.bipush 100, 2) := by decide +kernel
theorem dX1_init_7 : decode cX1_init 7 = .ok (.newarray .int, 2) := by decide +kernel
theorem dX1_init_9 : decode cX1_init 9 = .ok (.putfield 9, 3) := by decide +kernel
theorem dX1_init_12 : decode cX1_init 12 = .ok (.return_, 1) := by decide +kernel
theorem dX1_count_0 : decode cX1_count 0 = .ok (.aload_n 0, 1) := by decide +kernel
theorem dX1_count_1 : decode cX1_count 1 = .ok (.getfield 15, 3) := by decide +kernel
theorem dX1_count_4 : decode cX1_count 4 = .ok (.ireturn, 1) := by decide +kernel
theorem dX1_isFull_0 : decode cX1_isFull 0 = .ok (.aload_n 0, 1) := by decide +kernel
theorem dX1_isFull_1 : decode cX1_isFull 1 = .ok (.getfield 15, 3) := by decide +kernel
theorem dX1_isFull_4 : decode cX1_isFull 4 = .ok (.bipush 100, 2) := by decide +kernel
theorem dX1_isFull_6 : decode cX1_isFull 6 = .ok (.if_icmp .lt 7, 3) := by decide +kernel
theorem dX1_isFull_9 : decode cX1_isFull 9 = .ok (.iconst 1, 1) := by decide +kernel
theorem dX1_isFull_10 : decode cX1_isFull 10 = .ok (.goto 4, 3) := by decide +kernel
theorem dX1_isFull_13 : decode cX1_isFull 13 = .ok (.iconst 0, 1) := by decide +kernel
theorem dX1_isFull_14 : decode cX1_isFull 14 = .ok (.ireturn, 1) := by decide +kernel
theorem dX1_hasPlace_0 : decode cX1_hasPlace 0 = .ok (.iload_n 1, 1) := by decide +kernel
theorem dX1_hasPlace_1 : decode cX1_hasPlace 1 = .ok (.ifCond .lt 15, 3) := by decide +kernel
theorem dX1_hasPlace_4 : decode cX1_hasPlace 4 = .ok (.iload_n 1, 1) := by decide +kernel
theorem dX1_hasPlace_5 : decode cX1_hasPlace 5 = .ok (.aload_n 0, 1) := by decide +kernel
theorem dX1_hasPlace_6 : decode cX1_hasPlace 6 = .ok (.getfield 15, 3) := by decide +kernel
theorem dX1_hasPlace_9 : decode cX1_hasPlace 9 = .ok (.if_icmp .ge 7, 3) := by decide +kernel
theorem dX1_hasPlace_12 : decode cX1_hasPlace 12 = .ok (.iconst 1, 1) := by decide +kernel
theorem dX1_hasPlace_13 : decode cX1_hasPlace 13 = .ok (.goto 4, 3) := by decide +kernel
theorem dX1_hasPlace_16 : decode cX1_hasPlace 16 = .ok (.iconst 0, 1) := by decide +kernel
theorem dX1_hasPlace_17 : decode cX1_hasPlace 17 = .ok (.ireturn, 1) := by decide +kernel
theorem dX1_itemAt_0 : decode cX1_itemAt 0 = .ok (.aload_n 0, 1) := by decide +kernel
theorem dX1_itemAt_1 : decode cX1_itemAt 1 = .ok (.iload_n 1, 1) := by decide +kernel
theorem dX1_itemAt_2 : decode cX1_itemAt 2 = .ok (.invokevirtual 19, 3) := by decide +kernel
theorem dX1_itemAt_5 : decode cX1_itemAt 5 = .ok (.ifCond .eq 12, 3) := by decide +kernel
theorem dX1_itemAt_8 : decode cX1_itemAt 8 = .ok (.aload_n 0, 1) := by decide +kernel
theorem dX1_itemAt_9 : decode cX1_itemAt 9 = .ok (.getfield 9, 3) := by decide +kernel
theorem dX1_itemAt_12 : decode cX1_itemAt 12 = .ok (.iload_n 1, 1) := by decide +kernel
theorem dX1_itemAt_13 : decode cX1_itemAt 13 = .ok (.iaload, 1) := by decide +kernel
theorem dX1_itemAt_14 : decode cX1_itemAt 14 = .ok (.goto 4, 3) := by decide +kernel
theorem dX1_itemAt_17 : decode cX1_itemAt 17 = .ok (.iconst 0, 1) := by decide +kernel
theorem dX1_itemAt_18 : decode cX1_itemAt 18 = .ok (.ireturn, 1) := by decide +kernel
theorem dX1_add_0 : decode cX1_add 0 = .ok (.aload_n 0, 1) := by decide +kernel
theorem dX1_add_1 : decode cX1_add 1 = .ok (.invokevirtual 23, 3) := by decide +kernel
theorem dX1_add_4 : decode cX1_add 4 = .ok (.ifCond .ne 23, 3) := by decide +kernel
theorem dX1_add_7 : decode cX1_add 7 = .ok (.aload_n 0, 1) := by decide +kernel
theorem dX1_add_8 : decode cX1_add 8 = .ok (.getfield 9, 3) := by decide +kernel
theorem dX1_add_11 : decode cX1_add 11 = .ok (.aload_n 0, 1) := by decide +kernel
theorem dX1_add_12 : decode cX1_add 12 = .ok (.getfield 15, 3) := by decide +kernel
theorem dX1_add_15 : decode cX1_add 15 = .ok (.iload_n 1, 1) := by decide +kernel
theorem dX1_add_16 : decode cX1_add 16 = .ok (.iastore, 1) := by decide +kernel
theorem dX1_add_17 : decode cX1_add 17 = .ok (.aload_n 0, 1) := by decide +kernel
theorem dX1_add_18 : decode cX1_add 18 = .ok (.dup, 1) := by decide +kernel
theorem dX1_add_19 : decode cX1_add 19 = .ok (.getfield 15, 3) := by decide +kernel
theorem dX1_add_22 : decode cX1_add 22 = .ok (.iconst 1, 1) := by decide +kernel
theorem dX1_add_23 : decode cX1_add 23 = .ok (.iadd, 1) := by decide +kernel
theorem dX1_add_24 : decode cX1_add 24 = .ok (.putfield 15, 3) := by decide +kernel
theorem dX1_add_27 : decode cX1_add 27 = .ok (.return_, 1) := by decide +kernel
theorem dX1_replace_0 : decode cX1_replace 0 = .ok (.aload_n 0, 1) := by decide +kernel
theorem dX1_replace_1 : decode cX1_replace 1 = .ok (.iload_n 1, 1) := by decide +kernel
theorem dX1_replace_2 : decode cX1_replace 2 = .ok (.invokevirtual 19, 3) := by decide +kernel
theorem dX1_replace_5 : decode cX1_replace 5 = .ok (.ifCond .eq 10, 3) := by decide +kernel
theorem dX1_replace_8 : decode cX1_replace 8 = .ok (.aload_n 0, 1) := by decide +kernel
theorem dX1_replace_9 : decode cX1_replace 9 = .ok (.getfield 9, 3) := by decide +kernel
theorem dX1_replace_12 : decode cX1_replace 12 = .ok (.iload_n 1, 1) := by decide +kernel
theorem dX1_replace_13 : decode cX1_replace 13 = .ok (.iload_n 2, 1) := by decide +kernel
theorem dX1_replace_14 : decode cX1_replace 14 = .ok (.iastore, 1) := by decide +kernel
theorem dX1_replace_15 : decode cX1_replace 15 = .ok (.return_, 1) := by decide +kernel
theorem dX1_shorten_0 : decode cX1_shorten 0 = .ok (.iload_n 1, 1) := by decide +kernel
theorem dX1_shorten_1 : decode cX1_shorten 1 = .ok (.ifCond .lt 16, 3) := by decide +kernel
theorem dX1_shorten_4 : decode cX1_shorten 4 = .ok (.iload_n 1, 1) := by decide +kernel
theorem dX1_shorten_5 : decode cX1_shorten 5 = .ok (.aload_n 0, 1) := by decide +kernel
theorem dX1_shorten_6 : decode cX1_shorten 6 = .ok (.getfield 15, 3) := by decide +kernel
theorem dX1_shorten_9 : decode cX1_shorten 9 = .ok (.if_icmp .ge 8, 3) := by decide +kernel
theorem dX1_shorten_12 : decode cX1_shorten 12 = .ok (.aload_n 0, 1) := by decide +kernel
theorem dX1_shorten_13 : decode cX1_shorten 13 = .ok (.iload_n 1, 1) := by decide +kernel
theorem dX1_shorten_14 : decode cX1_shorten 14 = .ok (.putfield 15, 3) := by decide +kernel
theorem dX1_shorten_17 : decode cX1_shorten 17 = .ok (.return_, 1) := by decide +kernel
theorem dX1_countDigests_0 : decode cX1_countDigests 0 = .ok (.iconst 0, 1) := by decide +kernel
theorem dX1_countDigests_1 : decode cX1_countDigests 1 = .ok (.istore_n 1, 1) := by decide +kernel
theorem dX1_countDigests_2 : decode cX1_countDigests 2 = .ok (.iconst 0, 1) := by decide +kernel
theorem dX1_countDigests_3 : decode cX1_countDigests 3 = .ok (.istore_n 2, 1) := by decide +kernel
theorem dX1_countDigests_4 : decode cX1_countDigests 4 = .ok (.iload_n 2, 1) := by decide +kernel
theorem dX1_countDigests_5 : decode cX1_countDigests 5 = .ok (.aload_n 0, 1) := by decide +kernel
theorem dX1_countDigests_6 : decode cX1_countDigests 6 = .ok (.getfield 15, 3) := by decide +kernel
theorem dX1_countDigests_9 : decode cX1_countDigests 9 = .ok (.if_icmp .ge 20, 3) := by decide +kernel
theorem dX1_countDigests_12 : decode cX1_countDigests 12 = .ok (.aload_n 0, 1) := by decide +kernel
theorem dX1_countDigests_13 : decode cX1_countDigests 13 = .ok (.iload_n 2, 1) := by decide +kernel
theorem dX1_countDigests_14 : decode cX1_countDigests 14 = .ok (.invokevirtual 27, 3) := by decide +kernel
theorem dX1_countDigests_17 : decode cX1_countDigests 17 = .ok (.ifCond .le 6, 3) := by decide +kernel
theorem dX1_countDigests_20 : decode cX1_countDigests 20 = .ok (.iinc 1 1, 3) := by decide +kernel
theorem dX1_countDigests_23 : decode cX1_countDigests 23 = .ok (.iinc 2 1, 3) := by decide +kernel
theorem dX1_countDigests_26 : decode cX1_countDigests 26 = .ok (.goto (-22), 3) := by decide +kernel
theorem dX1_countDigests_29 : decode cX1_countDigests 29 = .ok (.iload_n 1, 1) := by decide +kernel
theorem dX1_countDigests_30 : decode cX1_countDigests 30 = .ok (.ireturn, 1) := by decide +kernel
theorem dX1_countNodes_0 : decode cX1_countNodes 0 = .ok (.iconst 0, 1) := by decide +kernel
theorem dX1_countNodes_1 : decode cX1_countNodes 1 = .ok (.istore_n 1, 1) := by decide +kernel
theorem dX1_countNodes_2 : decode cX1_countNodes 2 = .ok (.iconst 0, 1) := by decide +kernel
theorem dX1_countNodes_3 : decode cX1_countNodes 3 = .ok (.istore_n 2, 1) := by decide +kernel
theorem dX1_countNodes_4 : decode cX1_countNodes 4 = .ok (.iload_n 2, 1) := by decide +kernel
theorem dX1_countNodes_5 : decode cX1_countNodes 5 = .ok (.aload_n 0, 1) := by decide +kernel
theorem dX1_countNodes_6 : decode cX1_countNodes 6 = .ok (.getfield 15, 3) := by decide +kernel
theorem dX1_countNodes_9 : decode cX1_countNodes 9 = .ok (.if_icmp .ge 20, 3) := by decide +kernel
theorem dX1_countNodes_12 : decode cX1_countNodes 12 = .ok (.aload_n 0, 1) := by decide +kernel
theorem dX1_countNodes_13 : decode cX1_countNodes 13 = .ok (.iload_n 2, 1) := by decide +kernel
theorem dX1_countNodes_14 : decode cX1_countNodes 14 = .ok (.invokevirtual 27, 3) := by decide +kernel
theorem dX1_countNodes_17 : decode cX1_countNodes 17 = .ok (.ifCond .ge 6, 3) := by decide +kernel
theorem dX1_countNodes_20 : decode cX1_countNodes 20 = .ok (.iinc 1 1, 3) := by decide +kernel
theorem dX1_countNodes_23 : decode cX1_countNodes 23 = .ok (.iinc 2 1, 3) := by decide +kernel
theorem dX1_countNodes_26 : decode cX1_countNodes 26 = .ok (.goto (-22), 3) := by decide +kernel
theorem dX1_countNodes_29 : decode cX1_countNodes 29 = .ok (.iload_n 1, 1) := by decide +kernel
theorem dX1_countNodes_30 : decode cX1_countNodes 30 = .ok (.ireturn, 1) := by decide +kernel
theorem dX2_init_0 : decode cX2_init 0 = .ok (.aload_n 0, 1) := by decide +kernel
theorem dX2_init_1 : decode cX2_init 1 = .ok (.invokespecial 3, 3) := by decide +kernel
theorem dX2_init_4 : decode cX2_init 4 = .ok (.aload_n 0, 1) := by decide +kernel
theorem dX2_init_5 : decode cX2_init 5 = .ok (.bipush 100, 2) := by decide +kernel
theorem dX2_init_7 : decode cX2_init 7 = .ok (.newarray .int, 2) := by decide +kernel
theorem dX2_init_9 : decode cX2_init 9 = .ok (.putfield 9, 3) := by decide +kernel
theorem dX2_init_12 : decode cX2_init 12 = .ok (.aload_n 0, 1) := by decide +kernel
theorem dX2_init_13 : decode cX2_init 13 = .ok (.getfield 9, 3) := by decide +kernel
theorem dX2_init_16 : decode cX2_init 16 = .ok (.bipush (-9), 2) := by decide +kernel
theorem dX2_init_18 : decode cX2_init 18 = .ok (.invokestatic 15, 3) := by decide +kernel
theorem dX2_init_21 : decode cX2_init 21 = .ok (.return_, 1) := by decide +kernel
theorem dX2_count_0 : decode cX2_count 0 = .ok (.aload_n 0, 1) := by decide +kernel
theorem dX2_count_1 : decode cX2_count 1 = .ok (.getfield 21, 3) := by decide +kernel
theorem dX2_count_4 : decode cX2_count 4 = .ok (.ireturn, 1) := by decide +kernel
theorem dX2_valueOf_0 : decode cX2_valueOf 0 = .ok (.iload_n 1, 1) := by decide +kernel
theorem dX2_valueOf_1 : decode cX2_valueOf 1 = .ok (.invokestatic 25, 3) := by decide +kernel
theorem dX2_valueOf_4 : decode cX2_valueOf 4 = .ok (.ifCond .eq 12, 3) := by decide +kernel
theorem dX2_valueOf_7 : decode cX2_valueOf 7 = .ok (.aload_n 0, 1) := by decide +kernel
theorem dX2_valueOf_8 : decode cX2_valueOf 8 = .ok (.getfield 9, 3) := by decide +kernel
theorem dX2_valueOf_11 : decode cX2_valueOf 11 = .ok (.iload_n 1, 1) := by decide +kernel
theorem dX2_valueOf_12 : decode cX2_valueOf 12 = .ok (.iaload, 1) := by decide +kernel
theorem dX2_valueOf_13 : decode cX2_valueOf 13 = .ok (.goto 5, 3) := by decide +kernel
theorem dX2_valueOf_16 : decode cX2_valueOf 16 = .ok (.bipush (-9), 2) := by decide +kernel
theorem dX2_valueOf_18 : decode cX2_valueOf 18 = .ok (.ireturn, 1) := by decide +kernel
theorem dX2_has_0 : decode cX2_has 0 = .ok (.aload_n 0, 1) := by decide +kernel
theorem dX2_has_1 : decode cX2_has 1 = .ok (.iload_n 1, 1) := by decide +kernel
theorem dX2_has_2 : decode cX2_has 2 = .ok (.invokevirtual 29, 3) := by decide +kernel
theorem dX2_has_5 : decode cX2_has 5 = .ok (.bipush (-9), 2) := by decide +kernel
theorem dX2_has_7 : decode cX2_has 7 = .ok (.if_icmp .eq 7, 3) := by decide +kernel
theorem dX2_has_10 : decode cX2_has 10 = .ok (.iconst 1, 1) := by decide +kernel
theorem dX2_has_11 : decode cX2_has 11 = .ok (.goto 4, 3) := by decide +kernel
theorem dX2_has_14 : decode cX2_has 14 = .ok (.iconst 0, 1) := by decide +kernel
theorem dX2_has_15 : decode cX2_has 15 = .ok (.ireturn, 1) := by decide +kernel
theorem dX2_hasRoomFor_0 : decode cX2_hasRoomFor 0 = .ok (.aload_n 0, 1) := by decide +kernel
theorem dX2_hasRoomFor_1 : decode cX2_hasRoomFor 1 = .ok (.iload_n 1, 1) := by decide +kernel
theorem dX2_hasRoomFor_2 : decode cX2_hasRoomFor 2 = .ok (.invokevirtual 33, 3) := by decide +kernel
theorem dX2_hasRoomFor_5 : decode cX2_hasRoomFor 5 = .ok (.ifCond .ne 12, 3) := by decide +kernel
theorem dX2_hasRoomFor_8 : decode cX2_hasRoomFor 8 = .ok (.aload_n 0, 1) := by decide +kernel
theorem dX2_hasRoomFor_9 : decode cX2_hasRoomFor 9 = .ok (.getfield 21, 3) := by decide +kernel
theorem dX2_hasRoomFor_12 : decode cX2_hasRoomFor 12 = .ok (.bipush 40, 2) := by decide +kernel
theorem dX2_hasRoomFor_14 : decode cX2_hasRoomFor 14 = .ok (.if_icmp .ge 7, 3) := by decide +kernel
theorem dX2_hasRoomFor_17 : decode cX2_hasRoomFor 17 = .ok (.iconst 1, 1) := by decide +kernel
theorem dX2_hasRoomFor_18 : decode cX2_hasRoomFor 18 = .ok (.goto 4, 3) := by decide +kernel
theorem dX2_hasRoomFor_21 : decode cX2_hasRoomFor 21 = .ok (.iconst 0, 1) := by decide +kernel
theorem dX2_hasRoomFor_22 : decode cX2_hasRoomFor 22 = .ok (.ireturn, 1) := by decide +kernel
theorem dX2_give_0 : decode cX2_give 0 = .ok (.iload_n 1, 1) := by decide +kernel
theorem dX2_give_1 : decode cX2_give 1 = .ok (.invokestatic 25, 3) := by decide +kernel
theorem dX2_give_4 : decode cX2_give 4 = .ok (.ifCond .eq 31, 3) := by decide +kernel
theorem dX2_give_7 : decode cX2_give 7 = .ok (.aload_n 0, 1) := by decide +kernel
theorem dX2_give_8 : decode cX2_give 8 = .ok (.getfield 9, 3) := by decide +kernel
theorem dX2_give_11 : decode cX2_give 11 = .ok (.iload_n 1, 1) := by decide +kernel
theorem dX2_give_12 : decode cX2_give 12 = .ok (.iaload, 1) := by decide +kernel
theorem dX2_give_13 : decode cX2_give 13 = .ok (.bipush (-9), 2) := by decide +kernel
theorem dX2_give_15 : decode cX2_give 15 = .ok (.if_icmp .ne 13, 3) := by decide +kernel
theorem dX2_give_18 : decode cX2_give 18 = .ok (.aload_n 0, 1) := by decide +kernel
theorem dX2_give_19 : decode cX2_give 19 = .ok (.dup, 1) := by decide +kernel
theorem dX2_give_20 : decode cX2_give 20 = .ok (.getfield 21, 3) := by decide +kernel
theorem dX2_give_23 : decode cX2_give 23 = .ok (.iconst 1, 1) := by decide +kernel
theorem dX2_give_24 : decode cX2_give 24 = .ok (.iadd, 1) := by decide +kernel
theorem dX2_give_25 : decode cX2_give 25 = .ok (.putfield 21, 3) := by decide +kernel
theorem dX2_give_28 : decode cX2_give 28 = .ok (.aload_n 0, 1) := by decide +kernel
theorem dX2_give_29 : decode cX2_give 29 = .ok (.getfield 9, 3) := by decide +kernel
theorem dX2_give_32 : decode cX2_give 32 = .ok (.iload_n 1, 1) := by decide +kernel
theorem dX2_give_33 : decode cX2_give 33 = .ok (.iload_n 2, 1) := by decide +kernel
theorem dX2_give_34 : decode cX2_give 34 = .ok (.iastore, 1) := by decide +kernel
theorem dX2_give_35 : decode cX2_give 35 = .ok (.return_, 1) := by decide +kernel
theorem dX2_drop_0 : decode cX2_drop 0 = .ok (.aload_n 0, 1) := by decide +kernel
theorem dX2_drop_1 : decode cX2_drop 1 = .ok (.iload_n 1, 1) := by decide +kernel
theorem dX2_drop_2 : decode cX2_drop 2 = .ok (.invokevirtual 33, 3) := by decide +kernel
theorem dX2_drop_5 : decode cX2_drop 5 = .ok (.ifCond .eq 21, 3) := by decide +kernel
theorem dX2_drop_8 : decode cX2_drop 8 = .ok (.aload_n 0, 1) := by decide +kernel
theorem dX2_drop_9 : decode cX2_drop 9 = .ok (.dup, 1) := by decide +kernel
theorem dX2_drop_10 : decode cX2_drop 10 = .ok (.getfield 21, 3) := by decide +kernel
theorem dX2_drop_13 : decode cX2_drop 13 = .ok (.iconst 1, 1) := by decide +kernel
theorem dX2_drop_14 : decode cX2_drop 14 = .ok (.isub, 1) := by decide +kernel
theorem dX2_drop_15 : decode cX2_drop 15 = .ok (.putfield 21, 3) := by decide +kernel
theorem dX2_drop_18 : decode cX2_drop 18 = .ok (.aload_n 0, 1) := by decide +kernel
theorem dX2_drop_19 : decode cX2_drop 19 = .ok (.getfield 9, 3) := by decide +kernel
theorem dX2_drop_22 : decode cX2_drop 22 = .ok (.iload_n 1, 1) := by decide +kernel
theorem dX2_drop_23 : decode cX2_drop 23 = .ok (.bipush (-9), 2) := by decide +kernel
theorem dX2_drop_25 : decode cX2_drop 25 = .ok (.iastore, 1) := by decide +kernel
theorem dX2_drop_26 : decode cX2_drop 26 = .ok (.return_, 1) := by decide +kernel
theorem dX2_clear_0 : decode cX2_clear 0 = .ok (.aload_n 0, 1) := by decide +kernel
theorem dX2_clear_1 : decode cX2_clear 1 = .ok (.getfield 9, 3) := by decide +kernel
theorem dX2_clear_4 : decode cX2_clear 4 = .ok (.bipush (-9), 2) := by decide +kernel
theorem dX2_clear_6 : decode cX2_clear 6 = .ok (.invokestatic 15, 3) := by decide +kernel
theorem dX2_clear_9 : decode cX2_clear 9 = .ok (.aload_n 0, 1) := by decide +kernel
theorem dX2_clear_10 : decode cX2_clear 10 = .ok (.iconst 0, 1) := by decide +kernel
theorem dX2_clear_11 : decode cX2_clear 11 = .ok (.putfield 21, 3) := by decide +kernel
theorem dX2_clear_14 : decode cX2_clear 14 = .ok (.return_, 1) := by decide +kernel
theorem dX2_become_0 : decode cX2_become 0 = .ok (.aload_n 1, 1) := by decide +kernel
theorem dX2_become_1 : decode cX2_become 1 = .ok (.getfield 9, 3) := by decide +kernel
theorem dX2_become_4 : decode cX2_become 4 = .ok (.iconst 0, 1) := by decide +kernel
theorem dX2_become_5 : decode cX2_become 5 = .ok (.aload_n 0, 1) := by decide +kernel
theorem dX2_become_6 : decode cX2_become 6 = .ok (.getfield 9, 3) := by decide +kernel
theorem dX2_become_9 : decode cX2_become 9 = .ok (.iconst 0, 1) := by decide +kernel
theorem dX2_become_10 : decode cX2_become 10 = .ok (.bipush 100, 2) := by decide +kernel
theorem dX2_become_12 : decode cX2_become 12 = .ok (.invokestatic 36, 3) := by decide +kernel
theorem dX2_become_15 : decode cX2_become 15 = .ok (.aload_n 0, 1) := by decide +kernel
theorem dX2_become_16 : decode cX2_become 16 = .ok (.aload_n 1, 1) := by decide +kernel
theorem dX2_become_17 : decode cX2_become 17 = .ok (.getfield 21, 3) := by decide +kernel
theorem dX2_become_20 : decode cX2_become 20 = .ok (.putfield 21, 3) := by decide +kernel
theorem dX2_become_23 : decode cX2_become 23 = .ok (.return_, 1) := by decide +kernel
theorem dX2_countWithin_0 : decode cX2_countWithin 0 = .ok (.iconst 0, 1) := by decide +kernel
theorem dX2_countWithin_1 : decode cX2_countWithin 1 = .ok (.istore_n 3, 1) := by decide +kernel
theorem dX2_countWithin_2 : decode cX2_countWithin 2 = .ok (.iconst 0, 1) := by decide +kernel
theorem dX2_countWithin_3 : decode cX2_countWithin 3 = .ok (.istore 4, 2) := by decide +kernel
theorem dX2_countWithin_5 : decode cX2_countWithin 5 = .ok (.iload 4, 2) := by decide +kernel
theorem dX2_countWithin_7 : decode cX2_countWithin 7 = .ok (.bipush 100, 2) := by decide +kernel
theorem dX2_countWithin_9 : decode cX2_countWithin 9 = .ok (.if_icmp .ge 33, 3) := by decide +kernel
theorem dX2_countWithin_12 : decode cX2_countWithin 12 = .ok (.iload_n 1, 1) := by decide +kernel
theorem dX2_countWithin_13 : decode cX2_countWithin 13 = .ok (.iload 4, 2) := by decide +kernel
theorem dX2_countWithin_15 : decode cX2_countWithin 15 = .ok (.if_icmp .gt 21, 3) := by decide +kernel
theorem dX2_countWithin_18 : decode cX2_countWithin 18 = .ok (.iload 4, 2) := by decide +kernel
theorem dX2_countWithin_20 : decode cX2_countWithin 20 = .ok (.iload_n 2, 1) := by decide +kernel
theorem dX2_countWithin_21 : decode cX2_countWithin 21 = .ok (.if_icmp .gt 15, 3) := by decide +kernel
theorem dX2_countWithin_24 : decode cX2_countWithin 24 = .ok (.aload_n 0, 1) := by decide +kernel
theorem dX2_countWithin_25 : decode cX2_countWithin 25 = .ok (.iload 4, 2) := by decide +kernel
theorem dX2_countWithin_27 : decode cX2_countWithin 27 = .ok (.invokevirtual 33, 3) := by decide +kernel
theorem dX2_countWithin_30 : decode cX2_countWithin 30 = .ok (.ifCond .eq 6, 3) := by decide +kernel
theorem dX2_countWithin_33 : decode cX2_countWithin 33 = .ok (.iinc 3 1, 3) := by decide +kernel
theorem dX2_countWithin_36 : decode cX2_countWithin 36 = .ok (.iinc 4 1, 3) := by decide +kernel
theorem dX2_countWithin_39 : decode cX2_countWithin 39 = .ok (.goto (-34), 3) := by decide +kernel
theorem dX2_countWithin_42 : decode cX2_countWithin 42 = .ok (.iload_n 3, 1) := by decide +kernel
theorem dX2_countWithin_43 : decode cX2_countWithin 43 = .ok (.ireturn, 1) := by decide +kernel
theorem dX2_sumWithin_0 : decode cX2_sumWithin 0 = .ok (.iconst 0, 1) := by decide +kernel
theorem dX2_sumWithin_1 : decode cX2_sumWithin 1 = .ok (.istore_n 3, 1) := by decide +kernel
theorem dX2_sumWithin_2 : decode cX2_sumWithin 2 = .ok (.iconst 0, 1) := by decide +kernel
theorem dX2_sumWithin_3 : decode cX2_sumWithin 3 = .ok (.istore 4, 2) := by decide +kernel
theorem dX2_sumWithin_5 : decode cX2_sumWithin 5 = .ok (.iload 4, 2) := by decide +kernel
theorem dX2_sumWithin_7 : decode cX2_sumWithin 7 = .ok (.bipush 100, 2) := by decide +kernel
theorem dX2_sumWithin_9 : decode cX2_sumWithin 9 = .ok (.if_icmp .ge 40, 3) := by decide +kernel
theorem dX2_sumWithin_12 : decode cX2_sumWithin 12 = .ok (.iload_n 1, 1) := by decide +kernel
theorem dX2_sumWithin_13 : decode cX2_sumWithin 13 = .ok (.iload 4, 2) := by decide +kernel
theorem dX2_sumWithin_15 : decode cX2_sumWithin 15 = .ok (.if_icmp .gt 28, 3) := by decide +kernel
theorem dX2_sumWithin_18 : decode cX2_sumWithin 18 = .ok (.iload 4, 2) := by decide +kernel
theorem dX2_sumWithin_20 : decode cX2_sumWithin 20 = .ok (.iload_n 2, 1) := by decide +kernel
theorem dX2_sumWithin_21 : decode cX2_sumWithin 21 = .ok (.if_icmp .gt 22, 3) := by decide +kernel
theorem dX2_sumWithin_24 : decode cX2_sumWithin 24 = .ok (.aload_n 0, 1) := by decide +kernel
theorem dX2_sumWithin_25 : decode cX2_sumWithin 25 = .ok (.iload 4, 2) := by decide +kernel
theorem dX2_sumWithin_27 : decode cX2_sumWithin 27 = .ok (.invokevirtual 33, 3) := by decide +kernel
theorem dX2_sumWithin_30 : decode cX2_sumWithin 30 = .ok (.ifCond .eq 13, 3) := by decide +kernel
theorem dX2_sumWithin_33 : decode cX2_sumWithin 33 = .ok (.iload_n 3, 1) := by decide +kernel
theorem dX2_sumWithin_34 : decode cX2_sumWithin 34 = .ok (.aload_n 0, 1) := by decide +kernel
theorem dX2_sumWithin_35 : decode cX2_sumWithin 35 = .ok (.getfield 9, 3) := by decide +kernel
theorem dX2_sumWithin_38 : decode cX2_sumWithin 38 = .ok (.iload 4, 2) := by decide +kernel
theorem dX2_sumWithin_40 : decode cX2_sumWithin 40 = .ok (.iaload, 1) := by decide +kernel
theorem dX2_sumWithin_41 : decode cX2_sumWithin 41 = .ok (.iadd, 1) := by decide +kernel
theorem dX2_sumWithin_42 : decode cX2_sumWithin 42 = .ok (.istore_n 3, 1) := by decide +kernel
theorem dX2_sumWithin_43 : decode cX2_sumWithin 43 = .ok (.iinc 4 1, 3) := by decide +kernel
theorem dX2_sumWithin_46 : decode cX2_sumWithin 46 = .ok (.goto (-41), 3) := by decide +kernel
theorem dX2_sumWithin_49 : decode cX2_sumWithin 49 = .ok (.iload_n 3, 1) := by decide +kernel
theorem dX2_sumWithin_50 : decode cX2_sumWithin 50 = .ok (.ireturn, 1) := by decide +kernel
theorem dX2_greatestBelow_0 : decode cX2_greatestBelow 0 = .ok (.bipush (-9), 2) := by decide +kernel
theorem dX2_greatestBelow_2 : decode cX2_greatestBelow 2 = .ok (.istore_n 2, 1) := by decide +kernel
theorem dX2_greatestBelow_3 : decode cX2_greatestBelow 3 = .ok (.iconst 0, 1) := by decide +kernel
theorem dX2_greatestBelow_4 : decode cX2_greatestBelow 4 = .ok (.istore_n 3, 1) := by decide +kernel
theorem dX2_greatestBelow_5 : decode cX2_greatestBelow 5 = .ok (.iload_n 3, 1) := by decide +kernel
theorem dX2_greatestBelow_6 : decode cX2_greatestBelow 6 = .ok (.bipush 100, 2) := by decide +kernel
theorem dX2_greatestBelow_8 : decode cX2_greatestBelow 8 = .ok (.if_icmp .ge 24, 3) := by decide +kernel
theorem dX2_greatestBelow_11 : decode cX2_greatestBelow 11 = .ok (.iload_n 3, 1) := by decide +kernel
theorem dX2_greatestBelow_12 : decode cX2_greatestBelow 12 = .ok (.iload_n 1, 1) := by decide +kernel
theorem dX2_greatestBelow_13 : decode cX2_greatestBelow 13 = .ok (.if_icmp .ge 13, 3) := by decide +kernel
theorem dX2_greatestBelow_16 : decode cX2_greatestBelow 16 = .ok (.aload_n 0, 1) := by decide +kernel
theorem dX2_greatestBelow_17 : decode cX2_greatestBelow 17 = .ok (.iload_n 3, 1) := by decide +kernel
theorem dX2_greatestBelow_18 : decode cX2_greatestBelow 18 = .ok (.invokevirtual 33, 3) := by decide +kernel
theorem dX2_greatestBelow_21 : decode cX2_greatestBelow 21 = .ok (.ifCond .eq 5, 3) := by decide +kernel
theorem dX2_greatestBelow_24 : decode cX2_greatestBelow 24 = .ok (.iload_n 3, 1) := by decide +kernel
theorem dX2_greatestBelow_25 : decode cX2_greatestBelow 25 = .ok (.istore_n 2, 1) := by decide +kernel
theorem dX2_greatestBelow_26 : decode cX2_greatestBelow 26 = .ok (.iinc 3 1, 3) := by decide +kernel
theorem dX2_greatestBelow_29 : decode cX2_greatestBelow 29 = .ok (.goto (-24), 3) := by decide +kernel
theorem dX2_greatestBelow_32 : decode cX2_greatestBelow 32 = .ok (.iload_n 2, 1) := by decide +kernel
theorem dX2_greatestBelow_33 : decode cX2_greatestBelow 33 = .ok (.ireturn, 1) := by decide +kernel
theorem dX2_leastAbove_0 : decode cX2_leastAbove 0 = .ok (.iconst 0, 1) := by decide +kernel
theorem dX2_leastAbove_1 : decode cX2_leastAbove 1 = .ok (.istore_n 2, 1) := by decide +kernel
theorem dX2_leastAbove_2 : decode cX2_leastAbove 2 = .ok (.iload_n 2, 1) := by decide +kernel
theorem dX2_leastAbove_3 : decode cX2_leastAbove 3 = .ok (.bipush 100, 2) := by decide +kernel
theorem dX2_leastAbove_5 : decode cX2_leastAbove 5 = .ok (.if_icmp .ge 24, 3) := by decide +kernel
theorem dX2_leastAbove_8 : decode cX2_leastAbove 8 = .ok (.iload_n 2, 1) := by decide +kernel
theorem dX2_leastAbove_9 : decode cX2_leastAbove 9 = .ok (.iload_n 1, 1) := by decide +kernel
theorem dX2_leastAbove_10 : decode cX2_leastAbove 10 = .ok (.if_icmp .le 13, 3) := by decide +kernel
theorem dX2_leastAbove_13 : decode cX2_leastAbove 13 = .ok (.aload_n 0, 1) := by decide +kernel
theorem dX2_leastAbove_14 : decode cX2_leastAbove 14 = .ok (.iload_n 2, 1) := by decide +kernel
theorem dX2_leastAbove_15 : decode cX2_leastAbove 15 = .ok (.invokevirtual 33, 3) := by decide +kernel
theorem dX2_leastAbove_18 : decode cX2_leastAbove 18 = .ok (.ifCond .eq 5, 3) := by decide +kernel
theorem dX2_leastAbove_21 : decode cX2_leastAbove 21 = .ok (.iload_n 2, 1) := by decide +kernel
theorem dX2_leastAbove_22 : decode cX2_leastAbove 22 = .ok (.ireturn, 1) := by decide +kernel
theorem dX2_leastAbove_23 : decode cX2_leastAbove 23 = .ok (.iinc 2 1, 3) := by decide +kernel
theorem dX2_leastAbove_26 : decode cX2_leastAbove 26 = .ok (.goto (-24), 3) := by decide +kernel
theorem dX2_leastAbove_29 : decode cX2_leastAbove 29 = .ok (.bipush (-9), 2) := by decide +kernel
theorem dX2_leastAbove_31 : decode cX2_leastAbove 31 = .ok (.ireturn, 1) := by decide +kernel
theorem dX2_keyOfPlace_0 : decode cX2_keyOfPlace 0 = .ok (.iconst 0, 1) := by decide +kernel
theorem dX2_keyOfPlace_1 : decode cX2_keyOfPlace 1 = .ok (.istore 4, 2) := by decide +kernel
theorem dX2_keyOfPlace_3 : decode cX2_keyOfPlace 3 = .ok (.iconst 0, 1) := by decide +kernel
theorem dX2_keyOfPlace_4 : decode cX2_keyOfPlace 4 = .ok (.istore 5, 2) := by decide +kernel
theorem dX2_keyOfPlace_6 : decode cX2_keyOfPlace 6 = .ok (.iload 5, 2) := by decide +kernel
theorem dX2_keyOfPlace_8 : decode cX2_keyOfPlace 8 = .ok (.bipush 100, 2) := by decide +kernel
theorem dX2_keyOfPlace_10 : decode cX2_keyOfPlace 10 = .ok (.if_icmp .ge 42, 3) := by decide +kernel
theorem dX2_keyOfPlace_13 : decode cX2_keyOfPlace 13 = .ok (.iload_n 1, 1) := by decide +kernel
theorem dX2_keyOfPlace_14 : decode cX2_keyOfPlace 14 = .ok (.iload 5, 2) := by decide +kernel
theorem dX2_keyOfPlace_16 : decode cX2_keyOfPlace 16 = .ok (.if_icmp .gt 30, 3) := by decide +kernel
theorem dX2_keyOfPlace_19 : decode cX2_keyOfPlace 19 = .ok (.iload 5, 2) := by decide +kernel
theorem dX2_keyOfPlace_21 : decode cX2_keyOfPlace 21 = .ok (.iload_n 2, 1) := by decide +kernel
theorem dX2_keyOfPlace_22 : decode cX2_keyOfPlace 22 = .ok (.if_icmp .gt 24, 3) := by decide +kernel
theorem dX2_keyOfPlace_25 : decode cX2_keyOfPlace 25 = .ok (.aload_n 0, 1) := by decide +kernel
theorem dX2_keyOfPlace_26 : decode cX2_keyOfPlace 26 = .ok (.iload 5, 2) := by decide +kernel
theorem dX2_keyOfPlace_28 : decode cX2_keyOfPlace 28 = .ok (.invokevirtual 33, 3) := by decide +kernel
theorem dX2_keyOfPlace_31 : decode cX2_keyOfPlace 31 = .ok (.ifCond .eq 15, 3) := by decide +kernel
theorem dX2_keyOfPlace_34 : decode cX2_keyOfPlace 34 = .ok (.iload 4, 2) := by decide +kernel
theorem dX2_keyOfPlace_36 : decode cX2_keyOfPlace 36 = .ok (.iload_n 3, 1) := by decide +kernel
theorem dX2_keyOfPlace_37 : decode cX2_keyOfPlace 37 = .ok (.if_icmp .ne 6, 3) := by decide +kernel
theorem dX2_keyOfPlace_40 : decode cX2_keyOfPlace 40 = .ok (.iload 5, 2) := by decide +kernel
theorem dX2_keyOfPlace_42 : decode cX2_keyOfPlace 42 = .ok (.ireturn, 1) := by decide +kernel
theorem dX2_keyOfPlace_43 : decode cX2_keyOfPlace 43 = .ok (.iinc 4 1, 3) := by decide +kernel
theorem dX2_keyOfPlace_46 : decode cX2_keyOfPlace 46 = .ok (.iinc 5 1, 3) := by decide +kernel
theorem dX2_keyOfPlace_49 : decode cX2_keyOfPlace 49 = .ok (.goto (-43), 3) := by decide +kernel
theorem dX2_keyOfPlace_52 : decode cX2_keyOfPlace 52 = .ok (.bipush (-9), 2) := by decide +kernel
theorem dX2_keyOfPlace_54 : decode cX2_keyOfPlace 54 = .ok (.ireturn, 1) := by decide +kernel
theorem dX3_init_0 : decode cX3_init 0 = .ok (.aload_n 0, 1) := by decide +kernel
theorem dX3_init_1 : decode cX3_init 1 = .ok (.invokespecial 3, 3) := by decide +kernel
theorem dX3_init_4 : decode cX3_init 4 = .ok (.aload_n 0, 1) := by decide +kernel
theorem dX3_init_5 : decode cX3_init 5 = .ok (.bipush 100, 2) := by decide +kernel
theorem dX3_init_7 : decode cX3_init 7 = .ok (.newarray .int, 2) := by decide +kernel
theorem dX3_init_9 : decode cX3_init 9 = .ok (.putfield 9, 3) := by decide +kernel
theorem dX3_init_12 : decode cX3_init 12 = .ok (.aload_n 0, 1) := by decide +kernel
theorem dX3_init_13 : decode cX3_init 13 = .ok (.bipush 100, 2) := by decide +kernel
theorem dX3_init_15 : decode cX3_init 15 = .ok (.newarray .int, 2) := by decide +kernel
theorem dX3_init_17 : decode cX3_init 17 = .ok (.putfield 15, 3) := by decide +kernel
theorem dX3_init_20 : decode cX3_init 20 = .ok (.return_, 1) := by decide +kernel
theorem dX3_clear_0 : decode cX3_clear 0 = .ok (.aload_n 0, 1) := by decide +kernel
theorem dX3_clear_1 : decode cX3_clear 1 = .ok (.iconst 0, 1) := by decide +kernel
theorem dX3_clear_2 : decode cX3_clear 2 = .ok (.putfield 18, 3) := by decide +kernel
theorem dX3_clear_5 : decode cX3_clear 5 = .ok (.return_, 1) := by decide +kernel
theorem dX3_push_0 : decode cX3_push 0 = .ok (.aload_n 0, 1) := by decide +kernel
theorem dX3_push_1 : decode cX3_push 1 = .ok (.getfield 18, 3) := by decide +kernel
theorem dX3_push_4 : decode cX3_push 4 = .ok (.bipush 100, 2) := by decide +kernel
theorem dX3_push_6 : decode cX3_push 6 = .ok (.if_icmp .ge 33, 3) := by decide +kernel
theorem dX3_push_9 : decode cX3_push 9 = .ok (.aload_n 0, 1) := by decide +kernel
theorem dX3_push_10 : decode cX3_push 10 = .ok (.getfield 9, 3) := by decide +kernel
theorem dX3_push_13 : decode cX3_push 13 = .ok (.aload_n 0, 1) := by decide +kernel
theorem dX3_push_14 : decode cX3_push 14 = .ok (.getfield 18, 3) := by decide +kernel
theorem dX3_push_17 : decode cX3_push 17 = .ok (.iload_n 1, 1) := by decide +kernel
theorem dX3_push_18 : decode cX3_push 18 = .ok (.iastore, 1) := by decide +kernel
theorem dX3_push_19 : decode cX3_push 19 = .ok (.aload_n 0, 1) := by decide +kernel
theorem dX3_push_20 : decode cX3_push 20 = .ok (.getfield 15, 3) := by decide +kernel
theorem dX3_push_23 : decode cX3_push 23 = .ok (.aload_n 0, 1) := by decide +kernel
theorem dX3_push_24 : decode cX3_push 24 = .ok (.getfield 18, 3) := by decide +kernel
theorem dX3_push_27 : decode cX3_push 27 = .ok (.iload_n 2, 1) := by decide +kernel
theorem dX3_push_28 : decode cX3_push 28 = .ok (.iastore, 1) := by decide +kernel
theorem dX3_push_29 : decode cX3_push 29 = .ok (.aload_n 0, 1) := by decide +kernel
theorem dX3_push_30 : decode cX3_push 30 = .ok (.dup, 1) := by decide +kernel
theorem dX3_push_31 : decode cX3_push 31 = .ok (.getfield 18, 3) := by decide +kernel
theorem dX3_push_34 : decode cX3_push 34 = .ok (.iconst 1, 1) := by decide +kernel
theorem dX3_push_35 : decode cX3_push 35 = .ok (.iadd, 1) := by decide +kernel
theorem dX3_push_36 : decode cX3_push 36 = .ok (.putfield 18, 3) := by decide +kernel
theorem dX3_push_39 : decode cX3_push 39 = .ok (.return_, 1) := by decide +kernel
theorem dX3_pop_0 : decode cX3_pop 0 = .ok (.aload_n 0, 1) := by decide +kernel
theorem dX3_pop_1 : decode cX3_pop 1 = .ok (.getfield 18, 3) := by decide +kernel
theorem dX3_pop_4 : decode cX3_pop 4 = .ok (.ifCond .gt 5, 3) := by decide +kernel
theorem dX3_pop_7 : decode cX3_pop 7 = .ok (.iconst 0, 1) := by decide +kernel
theorem dX3_pop_8 : decode cX3_pop 8 = .ok (.ireturn, 1) := by decide +kernel
theorem dX3_pop_9 : decode cX3_pop 9 = .ok (.aload_n 0, 1) := by decide +kernel
theorem dX3_pop_10 : decode cX3_pop 10 = .ok (.dup, 1) := by decide +kernel
theorem dX3_pop_11 : decode cX3_pop 11 = .ok (.getfield 18, 3) := by decide +kernel
theorem dX3_pop_14 : decode cX3_pop 14 = .ok (.iconst 1, 1) := by decide +kernel
theorem dX3_pop_15 : decode cX3_pop 15 = .ok (.isub, 1) := by decide +kernel
theorem dX3_pop_16 : decode cX3_pop 16 = .ok (.putfield 18, 3) := by decide +kernel
theorem dX3_pop_19 : decode cX3_pop 19 = .ok (.aload_n 0, 1) := by decide +kernel
theorem dX3_pop_20 : decode cX3_pop 20 = .ok (.aload_n 0, 1) := by decide +kernel
theorem dX3_pop_21 : decode cX3_pop 21 = .ok (.getfield 9, 3) := by decide +kernel
theorem dX3_pop_24 : decode cX3_pop 24 = .ok (.aload_n 0, 1) := by decide +kernel
theorem dX3_pop_25 : decode cX3_pop 25 = .ok (.getfield 18, 3) := by decide +kernel
theorem dX3_pop_28 : decode cX3_pop 28 = .ok (.iaload, 1) := by decide +kernel
theorem dX3_pop_29 : decode cX3_pop 29 = .ok (.putfield 22, 3) := by decide +kernel
theorem dX3_pop_32 : decode cX3_pop 32 = .ok (.aload_n 0, 1) := by decide +kernel
theorem dX3_pop_33 : decode cX3_pop 33 = .ok (.aload_n 0, 1) := by decide +kernel
theorem dX3_pop_34 : decode cX3_pop 34 = .ok (.getfield 15, 3) := by decide +kernel
theorem dX3_pop_37 : decode cX3_pop 37 = .ok (.aload_n 0, 1) := by decide +kernel
theorem dX3_pop_38 : decode cX3_pop 38 = .ok (.getfield 18, 3) := by decide +kernel
theorem dX3_pop_41 : decode cX3_pop 41 = .ok (.iaload, 1) := by decide +kernel
theorem dX3_pop_42 : decode cX3_pop 42 = .ok (.putfield 25, 3) := by decide +kernel
theorem dX3_pop_45 : decode cX3_pop 45 = .ok (.iconst 1, 1) := by decide +kernel
theorem dX3_pop_46 : decode cX3_pop 46 = .ok (.ireturn, 1) := by decide +kernel
theorem dX3_key_0 : decode cX3_key 0 = .ok (.aload_n 0, 1) := by decide +kernel
theorem dX3_key_1 : decode cX3_key 1 = .ok (.getfield 22, 3) := by decide +kernel
theorem dX3_key_4 : decode cX3_key 4 = .ok (.ireturn, 1) := by decide +kernel
theorem dX3_hi_0 : decode cX3_hi 0 = .ok (.aload_n 0, 1) := by decide +kernel
theorem dX3_hi_1 : decode cX3_hi 1 = .ok (.getfield 25, 3) := by decide +kernel
theorem dX3_hi_4 : decode cX3_hi 4 = .ok (.ireturn, 1) := by decide +kernel
theorem dX4_init_0 : decode cX4_init 0 = .ok (.aload_n 0, 1) := by decide +kernel
theorem dX4_init_1 : decode cX4_init 1 = .ok (.invokespecial 1, 3) := by decide +kernel
theorem dX4_init_4 : decode cX4_init 4 = .ok (.aload_n 0, 1) := by decide +kernel
theorem dX4_init_5 : decode cX4_init 5 = .ok (.iload_n 1, 1) := by decide +kernel
theorem dX4_init_6 : decode cX4_init 6 = .ok (.putfield 7, 3) := by decide +kernel
theorem dX4_init_9 : decode cX4_init 9 = .ok (.aload_n 0, 1) := by decide +kernel
theorem dX4_init_10 : decode cX4_init 10 = .ok (.iload_n 2, 1) := by decide +kernel
theorem dX4_init_11 : decode cX4_init 11 = .ok (.putfield 13, 3) := by decide +kernel
theorem dX4_init_14 : decode cX4_init 14 = .ok (.aload_n 0, 1) := by decide +kernel
theorem dX4_init_15 : decode cX4_init 15 = .ok (.iload_n 3, 1) := by decide +kernel
theorem dX4_init_16 : decode cX4_init 16 = .ok (.putfield 16, 3) := by decide +kernel
theorem dX4_init_19 : decode cX4_init 19 = .ok (.aload_n 0, 1) := by decide +kernel
theorem dX4_init_20 : decode cX4_init 20 = .ok (.iload 4, 2) := by decide +kernel
theorem dX4_init_22 : decode cX4_init 22 = .ok (.putfield 19, 3) := by decide +kernel
theorem dX4_init_25 : decode cX4_init 25 = .ok (.return_, 1) := by decide +kernel
theorem dX5_init_0 : decode cX5_init 0 = .ok (.aload_n 0, 1) := by decide +kernel
theorem dX5_init_1 : decode cX5_init 1 = .ok (.invokespecial 3, 3) := by decide +kernel
theorem dX5_init_4 : decode cX5_init 4 = .ok (.aload_n 0, 1) := by decide +kernel
theorem dX5_init_5 : decode cX5_init 5 = .ok (.new 9, 3) := by decide +kernel
theorem dX5_init_8 : decode cX5_init 8 = .ok (.dup, 1) := by decide +kernel
theorem dX5_init_9 : decode cX5_init 9 = .ok (.invokespecial 11, 3) := by decide +kernel
theorem dX5_init_12 : decode cX5_init 12 = .ok (.putfield 12, 3) := by decide +kernel
theorem dX5_init_15 : decode cX5_init 15 = .ok (.aload_n 0, 1) := by decide +kernel
theorem dX5_init_16 : decode cX5_init 16 = .ok (.bipush 8, 2) := by decide +kernel
theorem dX5_init_18 : decode cX5_init 18 = .ok (.newarray .int, 2) := by decide +kernel
theorem dX5_init_20 : decode cX5_init 20 = .ok (.putfield 18, 3) := by decide +kernel
theorem dX5_init_23 : decode cX5_init 23 = .ok (.aload_n 0, 1) := by decide +kernel
theorem dX5_init_24 : decode cX5_init 24 = .ok (.new 22, 3) := by decide +kernel
theorem dX5_init_27 : decode cX5_init 27 = .ok (.dup, 1) := by decide +kernel
theorem dX5_init_28 : decode cX5_init 28 = .ok (.invokespecial 24, 3) := by decide +kernel
theorem dX5_init_31 : decode cX5_init 31 = .ok (.putfield 25, 3) := by decide +kernel
theorem dX5_init_34 : decode cX5_init 34 = .ok (.aload_n 0, 1) := by decide +kernel
theorem dX5_init_35 : decode cX5_init 35 = .ok (.new 29, 3) := by decide +kernel
theorem dX5_init_38 : decode cX5_init 38 = .ok (.dup, 1) := by decide +kernel
theorem dX5_init_39 : decode cX5_init 39 = .ok (.invokespecial 31, 3) := by decide +kernel
theorem dX5_init_42 : decode cX5_init 42 = .ok (.putfield 32, 3) := by decide +kernel
theorem dX5_init_45 : decode cX5_init 45 = .ok (.aload_n 0, 1) := by decide +kernel
theorem dX5_init_46 : decode cX5_init 46 = .ok (.new 36, 3) := by decide +kernel
theorem dX5_init_49 : decode cX5_init 49 = .ok (.dup, 1) := by decide +kernel
theorem dX5_init_50 : decode cX5_init 50 = .ok (.invokespecial 38, 3) := by decide +kernel
theorem dX5_init_53 : decode cX5_init 53 = .ok (.putfield 39, 3) := by decide +kernel
theorem dX5_init_56 : decode cX5_init 56 = .ok (.return_, 1) := by decide +kernel
theorem dX5_row_0 : decode cX5_row 0 = .ok (.aload_n 0, 1) := by decide +kernel
theorem dX5_row_1 : decode cX5_row 1 = .ok (.getfield 12, 3) := by decide +kernel
theorem dX5_row_4 : decode cX5_row 4 = .ok (.areturn, 1) := by decide +kernel
theorem dX5_shown_0 : decode cX5_shown 0 = .ok (.aload_n 0, 1) := by decide +kernel
theorem dX5_shown_1 : decode cX5_shown 1 = .ok (.getfield 25, 3) := by decide +kernel
theorem dX5_shown_4 : decode cX5_shown 4 = .ok (.areturn, 1) := by decide +kernel
theorem dX5_trusted_0 : decode cX5_trusted 0 = .ok (.aload_n 0, 1) := by decide +kernel
theorem dX5_trusted_1 : decode cX5_trusted 1 = .ok (.getfield 43, 3) := by decide +kernel
theorem dX5_trusted_4 : decode cX5_trusted 4 = .ok (.ireturn, 1) := by decide +kernel
theorem dX5_formerCount_0 : decode cX5_formerCount 0 = .ok (.aload_n 0, 1) := by decide +kernel
theorem dX5_formerCount_1 : decode cX5_formerCount 1 = .ok (.getfield 47, 3) := by decide +kernel
theorem dX5_formerCount_4 : decode cX5_formerCount 4 = .ok (.ireturn, 1) := by decide +kernel
theorem dX5_formerAt_0 : decode cX5_formerAt 0 = .ok (.iload_n 1, 1) := by decide +kernel
theorem dX5_formerAt_1 : decode cX5_formerAt 1 = .ok (.ifCond .lt 20, 3) := by decide +kernel
theorem dX5_formerAt_4 : decode cX5_formerAt 4 = .ok (.iload_n 1, 1) := by decide +kernel
theorem dX5_formerAt_5 : decode cX5_formerAt 5 = .ok (.aload_n 0, 1) := by decide +kernel
theorem dX5_formerAt_6 : decode cX5_formerAt 6 = .ok (.getfield 47, 3) := by decide +kernel
theorem dX5_formerAt_9 : decode cX5_formerAt 9 = .ok (.if_icmp .ge 12, 3) := by decide +kernel
theorem dX5_formerAt_12 : decode cX5_formerAt 12 = .ok (.aload_n 0, 1) := by decide +kernel
theorem dX5_formerAt_13 : decode cX5_formerAt 13 = .ok (.getfield 18, 3) := by decide +kernel
theorem dX5_formerAt_16 : decode cX5_formerAt 16 = .ok (.iload_n 1, 1) := by decide +kernel
theorem dX5_formerAt_17 : decode cX5_formerAt 17 = .ok (.iaload, 1) := by decide +kernel
theorem dX5_formerAt_18 : decode cX5_formerAt 18 = .ok (.goto 4, 3) := by decide +kernel
theorem dX5_formerAt_21 : decode cX5_formerAt 21 = .ok (.iconst 0, 1) := by decide +kernel
theorem dX5_formerAt_22 : decode cX5_formerAt 22 = .ok (.ireturn, 1) := by decide +kernel
theorem dX5_nowTrust_0 : decode cX5_nowTrust 0 = .ok (.bipush 7, 2) := by decide +kernel
theorem dX5_nowTrust_2 : decode cX5_nowTrust 2 = .ok (.istore_n 2, 1) := by decide +kernel
theorem dX5_nowTrust_3 : decode cX5_nowTrust 3 = .ok (.iload_n 2, 1) := by decide +kernel
theorem dX5_nowTrust_4 : decode cX5_nowTrust 4 = .ok (.ifCond .le 23, 3) := by decide +kernel
theorem dX5_nowTrust_7 : decode cX5_nowTrust 7 = .ok (.aload_n 0, 1) := by decide +kernel
theorem dX5_nowTrust_8 : decode cX5_nowTrust 8 = .ok (.getfield 18, 3) := by decide +kernel
theorem dX5_nowTrust_11 : decode cX5_nowTrust 11 = .ok (.iload_n 2, 1) := by decide +kernel
theorem dX5_nowTrust_12 : decode cX5_nowTrust 12 = .ok (.aload_n 0, 1) := by decide +kernel
theorem dX5_nowTrust_13 : decode cX5_nowTrust 13 = .ok (.getfield 18, 3) := by decide +kernel
theorem dX5_nowTrust_16 : decode cX5_nowTrust 16 = .ok (.iload_n 2, 1) := by decide +kernel
theorem dX5_nowTrust_17 : decode cX5_nowTrust 17 = .ok (.iconst 1, 1) := by decide +kernel
theorem dX5_nowTrust_18 : decode cX5_nowTrust 18 = .ok (.isub, 1) := by decide +kernel
theorem dX5_nowTrust_19 : decode cX5_nowTrust 19 = .ok (.iaload, 1) := by decide +kernel
theorem dX5_nowTrust_20 : decode cX5_nowTrust 20 = .ok (.iastore, 1) := by decide +kernel
theorem dX5_nowTrust_21 : decode cX5_nowTrust 21 = .ok (.iinc 2 (-1), 3) := by decide +kernel
theorem dX5_nowTrust_24 : decode cX5_nowTrust 24 = .ok (.goto (-21), 3) := by decide +kernel
theorem dX5_nowTrust_27 : decode cX5_nowTrust 27 = .ok (.aload_n 0, 1) := by decide +kernel
theorem dX5_nowTrust_28 : decode cX5_nowTrust 28 = .ok (.getfield 18, 3) := by decide +kernel
theorem dX5_nowTrust_31 : decode cX5_nowTrust 31 = .ok (.iconst 0, 1) := by decide +kernel
theorem dX5_nowTrust_32 : decode cX5_nowTrust 32 = .ok (.aload_n 0, 1) := by decide +kernel
theorem dX5_nowTrust_33 : decode cX5_nowTrust 33 = .ok (.getfield 43, 3) := by decide +kernel
theorem dX5_nowTrust_36 : decode cX5_nowTrust 36 = .ok (.iastore, 1) := by decide +kernel
theorem dX5_nowTrust_37 : decode cX5_nowTrust 37 = .ok (.aload_n 0, 1) := by decide +kernel
theorem dX5_nowTrust_38 : decode cX5_nowTrust 38 = .ok (.aload_n 0, 1) := by decide +kernel
theorem dX5_nowTrust_39 : decode cX5_nowTrust 39 = .ok (.getfield 47, 3) := by decide +kernel
theorem dX5_nowTrust_42 : decode cX5_nowTrust 42 = .ok (.iconst 1, 1) := by decide +kernel
theorem dX5_nowTrust_43 : decode cX5_nowTrust 43 = .ok (.iadd, 1) := by decide +kernel
theorem dX5_nowTrust_44 : decode cX5_nowTrust 44 = .ok (.bipush 8, 2) := by decide +kernel
theorem dX5_nowTrust_46 : decode cX5_nowTrust 46 = .ok (.invokestatic 50, 3) := by decide +kernel
theorem dX5_nowTrust_49 : decode cX5_nowTrust 49 = .ok (.putfield 47, 3) := by decide +kernel
theorem dX5_nowTrust_52 : decode cX5_nowTrust 52 = .ok (.aload_n 0, 1) := by decide +kernel
theorem dX5_nowTrust_53 : decode cX5_nowTrust 53 = .ok (.iload_n 1, 1) := by decide +kernel
theorem dX5_nowTrust_54 : decode cX5_nowTrust 54 = .ok (.putfield 43, 3) := by decide +kernel
theorem dX5_nowTrust_57 : decode cX5_nowTrust 57 = .ok (.aload_n 0, 1) := by decide +kernel
theorem dX5_nowTrust_58 : decode cX5_nowTrust 58 = .ok (.getfield 47, 3) := by decide +kernel
theorem dX5_nowTrust_61 : decode cX5_nowTrust 61 = .ok (.ireturn, 1) := by decide +kernel
theorem dX5_isFormer_0 : decode cX5_isFormer 0 = .ok (.iconst 0, 1) := by decide +kernel
theorem dX5_isFormer_1 : decode cX5_isFormer 1 = .ok (.istore_n 2, 1) := by decide +kernel
theorem dX5_isFormer_2 : decode cX5_isFormer 2 = .ok (.iload_n 2, 1) := by decide +kernel
theorem dX5_isFormer_3 : decode cX5_isFormer 3 = .ok (.aload_n 0, 1) := by decide +kernel
theorem dX5_isFormer_4 : decode cX5_isFormer 4 = .ok (.getfield 47, 3) := by decide +kernel
theorem dX5_isFormer_7 : decode cX5_isFormer 7 = .ok (.if_icmp .ge 20, 3) := by decide +kernel
theorem dX5_isFormer_10 : decode cX5_isFormer 10 = .ok (.aload_n 0, 1) := by decide +kernel
theorem dX5_isFormer_11 : decode cX5_isFormer 11 = .ok (.iload_n 2, 1) := by decide +kernel
theorem dX5_isFormer_12 : decode cX5_isFormer 12 = .ok (.invokevirtual 56, 3) := by decide +kernel
theorem dX5_isFormer_15 : decode cX5_isFormer 15 = .ok (.iload_n 1, 1) := by decide +kernel
theorem dX5_isFormer_16 : decode cX5_isFormer 16 = .ok (.if_icmp .ne 5, 3) := by decide +kernel
theorem dX5_isFormer_19 : decode cX5_isFormer 19 = .ok (.iconst 1, 1) := by decide +kernel
theorem dX5_isFormer_20 : decode cX5_isFormer 20 = .ok (.ireturn, 1) := by decide +kernel
theorem dX5_isFormer_21 : decode cX5_isFormer 21 = .ok (.iinc 2 1, 3) := by decide +kernel
theorem dX5_isFormer_24 : decode cX5_isFormer 24 = .ok (.goto (-22), 3) := by decide +kernel
theorem dX5_isFormer_27 : decode cX5_isFormer 27 = .ok (.iconst 0, 1) := by decide +kernel
theorem dX5_isFormer_28 : decode cX5_isFormer 28 = .ok (.ireturn, 1) := by decide +kernel
theorem dX5_reasonBy_0 : decode cX5_reasonBy 0 = .ok (.aload_n 0, 1) := by decide +kernel
theorem dX5_reasonBy_1 : decode cX5_reasonBy 1 = .ok (.iload_n 1, 1) := by decide +kernel
theorem dX5_reasonBy_2 : decode cX5_reasonBy 2 = .ok (.iload_n 2, 1) := by decide +kernel
theorem dX5_reasonBy_3 : decode cX5_reasonBy 3 = .ok (.invokevirtual 60, 3) := by decide +kernel
theorem dX5_reasonBy_6 : decode cX5_reasonBy 6 = .ok (.istore_n 3, 1) := by decide +kernel
theorem dX5_reasonBy_7 : decode cX5_reasonBy 7 = .ok (.iload_n 3, 1) := by decide +kernel
theorem dX5_reasonBy_8 : decode cX5_reasonBy 8 = .ok (.ifCond .eq 5, 3) := by decide +kernel
theorem dX5_reasonBy_11 : decode cX5_reasonBy 11 = .ok (.iload_n 3, 1) := by decide +kernel
theorem dX5_reasonBy_12 : decode cX5_reasonBy 12 = .ok (.ireturn, 1) := by decide +kernel
theorem dX5_reasonBy_13 : decode cX5_reasonBy 13 = .ok (.aload_n 0, 1) := by decide +kernel
theorem dX5_reasonBy_14 : decode cX5_reasonBy 14 = .ok (.getfield 32, 3) := by decide +kernel
theorem dX5_reasonBy_17 : decode cX5_reasonBy 17 = .ok (.aload_n 0, 1) := by decide +kernel
theorem dX5_reasonBy_18 : decode cX5_reasonBy 18 = .ok (.getfield 25, 3) := by decide +kernel
theorem dX5_reasonBy_21 : decode cX5_reasonBy 21 = .ok (.invokevirtual 63, 3) := by decide +kernel
theorem dX5_reasonBy_24 : decode cX5_reasonBy 24 = .ok (.aload_n 0, 1) := by decide +kernel
theorem dX5_reasonBy_25 : decode cX5_reasonBy 25 = .ok (.getfield 32, 3) := by decide +kernel
theorem dX5_reasonBy_28 : decode cX5_reasonBy 28 = .ok (.invokevirtual 67, 3) := by decide +kernel
theorem dX5_reasonBy_31 : decode cX5_reasonBy 31 = .ok (.istore 4, 2) := by decide +kernel
theorem dX5_reasonBy_33 : decode cX5_reasonBy 33 = .ok (.iload 4, 2) := by decide +kernel
theorem dX5_reasonBy_35 : decode cX5_reasonBy 35 = .ok (.aload_n 0, 1) := by decide +kernel
theorem dX5_reasonBy_36 : decode cX5_reasonBy 36 = .ok (.getfield 43, 3) := by decide +kernel
theorem dX5_reasonBy_39 : decode cX5_reasonBy 39 = .ok (.if_icmp .ne 5, 3) := by decide +kernel
theorem dX5_reasonBy_42 : decode cX5_reasonBy 42 = .ok (.iconst 0, 1) := by decide +kernel
theorem dX5_reasonBy_43 : decode cX5_reasonBy 43 = .ok (.ireturn, 1) := by decide +kernel
theorem dX5_reasonBy_44 : decode cX5_reasonBy 44 = .ok (.aload_n 0, 1) := by decide +kernel
theorem dX5_reasonBy_45 : decode cX5_reasonBy 45 = .ok (.iload 4, 2) := by decide +kernel
theorem dX5_reasonBy_47 : decode cX5_reasonBy 47 = .ok (.invokevirtual 71, 3) := by decide +kernel
theorem dX5_reasonBy_50 : decode cX5_reasonBy 50 = .ok (.ifCond .eq 8, 3) := by decide +kernel
theorem dX5_reasonBy_53 : decode cX5_reasonBy 53 = .ok (.bipush 7, 2) := by decide +kernel
theorem dX5_reasonBy_55 : decode cX5_reasonBy 55 = .ok (.goto 5, 3) := by decide +kernel
theorem dX5_reasonBy_58 : decode cX5_reasonBy 58 = .ok (.bipush 6, 2) := by decide +kernel
theorem dX5_reasonBy_60 : decode cX5_reasonBy 60 = .ok (.ireturn, 1) := by decide +kernel
theorem dX5_takeIn_0 : decode cX5_takeIn 0 = .ok (.aload_n 0, 1) := by decide +kernel
theorem dX5_takeIn_1 : decode cX5_takeIn 1 = .ok (.getfield 25, 3) := by decide +kernel
theorem dX5_takeIn_4 : decode cX5_takeIn 4 = .ok (.invokevirtual 75, 3) := by decide +kernel
theorem dX5_takeIn_7 : decode cX5_takeIn 7 = .ok (.aload_n 0, 1) := by decide +kernel
theorem dX5_takeIn_8 : decode cX5_takeIn 8 = .ok (.getfield 32, 3) := by decide +kernel
theorem dX5_takeIn_11 : decode cX5_takeIn 11 = .ok (.invokevirtual 78, 3) := by decide +kernel
theorem dX5_takeIn_14 : decode cX5_takeIn 14 = .ok (.aload_n 0, 1) := by decide +kernel
theorem dX5_takeIn_15 : decode cX5_takeIn 15 = .ok (.getfield 39, 3) := by decide +kernel
theorem dX5_takeIn_18 : decode cX5_takeIn 18 = .ok (.invokevirtual 81, 3) := by decide +kernel
theorem dX5_takeIn_21 : decode cX5_takeIn 21 = .ok (.bipush (-9), 2) := by decide +kernel
theorem dX5_takeIn_23 : decode cX5_takeIn 23 = .ok (.istore_n 3, 1) := by decide +kernel
theorem dX5_takeIn_24 : decode cX5_takeIn 24 = .ok (.iconst 0, 1) := by decide +kernel
theorem dX5_takeIn_25 : decode cX5_takeIn 25 = .ok (.istore 4, 2) := by decide +kernel
theorem dX5_takeIn_27 : decode cX5_takeIn 27 = .ok (.bipush 99, 2) := by decide +kernel
theorem dX5_takeIn_29 : decode cX5_takeIn 29 = .ok (.istore 5, 2) := by decide +kernel
theorem dX5_takeIn_31 : decode cX5_takeIn 31 = .ok (.iconst 0, 1) := by decide +kernel
theorem dX5_takeIn_32 : decode cX5_takeIn 32 = .ok (.istore 6, 2) := by decide +kernel
theorem dX5_takeIn_34 : decode cX5_takeIn 34 = .ok (.iload 6, 2) := by decide +kernel
theorem dX5_takeIn_36 : decode cX5_takeIn 36 = .ok (.aload_n 0, 1) := by decide +kernel
theorem dX5_takeIn_37 : decode cX5_takeIn 37 = .ok (.getfield 12, 3) := by decide +kernel
theorem dX5_takeIn_40 : decode cX5_takeIn 40 = .ok (.invokevirtual 82, 3) := by decide +kernel
theorem dX5_takeIn_43 : decode cX5_takeIn 43 = .ok (.if_icmp .ge 184, 3) := by decide +kernel
theorem dX5_takeIn_46 : decode cX5_takeIn 46 = .ok (.aload_n 0, 1) := by decide +kernel
theorem dX5_takeIn_47 : decode cX5_takeIn 47 = .ok (.getfield 12, 3) := by decide +kernel
theorem dX5_takeIn_50 : decode cX5_takeIn 50 = .ok (.iload 6, 2) := by decide +kernel
theorem dX5_takeIn_52 : decode cX5_takeIn 52 = .ok (.invokevirtual 85, 3) := by decide +kernel
theorem dX5_takeIn_55 : decode cX5_takeIn 55 = .ok (.istore 7, 2) := by decide +kernel
theorem dX5_takeIn_57 : decode cX5_takeIn 57 = .ok (.iload 7, 2) := by decide +kernel
theorem dX5_takeIn_59 : decode cX5_takeIn 59 = .ok (.ifCond .ge 19, 3) := by decide +kernel
theorem dX5_takeIn_62 : decode cX5_takeIn 62 = .ok (.iload 7, 2) := by decide +kernel
theorem dX5_takeIn_64 : decode cX5_takeIn 64 = .ok (.invokestatic 88, 3) := by decide +kernel
theorem dX5_takeIn_67 : decode cX5_takeIn 67 = .ok (.iload_n 3, 1) := by decide +kernel
theorem dX5_takeIn_68 : decode cX5_takeIn 68 = .ok (.iload 4, 2) := by decide +kernel
theorem dX5_takeIn_70 : decode cX5_takeIn 70 = .ok (.iload 5, 2) := by decide +kernel
theorem dX5_takeIn_72 : decode cX5_takeIn 72 = .ok (.invokestatic 91, 3) := by decide +kernel
theorem dX5_takeIn_75 : decode cX5_takeIn 75 = .ok (.goto 29, 3) := by decide +kernel
theorem dX5_takeIn_78 : decode cX5_takeIn 78 = .ok (.iload 7, 2) := by decide +kernel
theorem dX5_takeIn_80 : decode cX5_takeIn 80 = .ok (.iload 4, 2) := by decide +kernel
theorem dX5_takeIn_82 : decode cX5_takeIn 82 = .ok (.iload 5, 2) := by decide +kernel
theorem dX5_takeIn_84 : decode cX5_takeIn 84 = .ok (.iload 4, 2) := by decide +kernel
theorem dX5_takeIn_86 : decode cX5_takeIn 86 = .ok (.iload_n 2, 1) := by decide +kernel
theorem dX5_takeIn_87 : decode cX5_takeIn 87 = .ok (.if_icmp .gt 13, 3) := by decide +kernel
theorem dX5_takeIn_90 : decode cX5_takeIn 90 = .ok (.iload_n 1, 1) := by decide +kernel
theorem dX5_takeIn_91 : decode cX5_takeIn 91 = .ok (.iload 5, 2) := by decide +kernel
theorem dX5_takeIn_93 : decode cX5_takeIn 93 = .ok (.if_icmp .gt 7, 3) := by decide +kernel
theorem dX5_takeIn_96 : decode cX5_takeIn 96 = .ok (.iconst 1, 1) := by decide +kernel
theorem dX5_takeIn_97 : decode cX5_takeIn 97 = .ok (.goto 4, 3) := by decide +kernel
theorem dX5_takeIn_100 : decode cX5_takeIn 100 = .ok (.iconst 0, 1) := by decide +kernel
theorem dX5_takeIn_101 : decode cX5_takeIn 101 = .ok (.invokestatic 95, 3) := by decide +kernel
theorem dX5_takeIn_104 : decode cX5_takeIn 104 = .ok (.istore 8, 2) := by decide +kernel
theorem dX5_takeIn_106 : decode cX5_takeIn 106 = .ok (.iload 8, 2) := by decide +kernel
theorem dX5_takeIn_108 : decode cX5_takeIn 108 = .ok (.ifCond .eq 6, 3) := by decide +kernel
theorem dX5_takeIn_111 : decode cX5_takeIn 111 = .ok (.iload 8, 2) := by decide +kernel
theorem dX5_takeIn_113 : decode cX5_takeIn 113 = .ok (.ireturn, 1) := by decide +kernel
theorem dX5_takeIn_114 : decode cX5_takeIn 114 = .ok (.iload 7, 2) := by decide +kernel
theorem dX5_takeIn_116 : decode cX5_takeIn 116 = .ok (.ifCond .ge 40, 3) := by decide +kernel
theorem dX5_takeIn_119 : decode cX5_takeIn 119 = .ok (.iload 7, 2) := by decide +kernel
theorem dX5_takeIn_121 : decode cX5_takeIn 121 = .ok (.invokestatic 88, 3) := by decide +kernel
theorem dX5_takeIn_124 : decode cX5_takeIn 124 = .ok (.istore_n 3, 1) := by decide +kernel
theorem dX5_takeIn_125 : decode cX5_takeIn 125 = .ok (.aload_n 0, 1) := by decide +kernel
theorem dX5_takeIn_126 : decode cX5_takeIn 126 = .ok (.getfield 25, 3) := by decide +kernel
theorem dX5_takeIn_129 : decode cX5_takeIn 129 = .ok (.iload_n 3, 1) := by decide +kernel
theorem dX5_takeIn_130 : decode cX5_takeIn 130 = .ok (.iload 7, 2) := by decide +kernel
theorem dX5_takeIn_132 : decode cX5_takeIn 132 = .ok (.invokestatic 99, 3) := by decide +kernel
theorem dX5_takeIn_135 : decode cX5_takeIn 135 = .ok (.invokevirtual 102, 3) := by decide +kernel
theorem dX5_takeIn_138 : decode cX5_takeIn 138 = .ok (.aload_n 0, 1) := by decide +kernel
theorem dX5_takeIn_139 : decode cX5_takeIn 139 = .ok (.getfield 39, 3) := by decide +kernel
theorem dX5_takeIn_142 : decode cX5_takeIn 142 = .ok (.iload_n 3, 1) := by decide +kernel
theorem dX5_takeIn_143 : decode cX5_takeIn 143 = .ok (.iload 5, 2) := by decide +kernel
theorem dX5_takeIn_145 : decode cX5_takeIn 145 = .ok (.invokevirtual 106, 3) := by decide +kernel
theorem dX5_takeIn_148 : decode cX5_takeIn 148 = .ok (.iload_n 3, 1) := by decide +kernel
theorem dX5_takeIn_149 : decode cX5_takeIn 149 = .ok (.iconst 1, 1) := by decide +kernel
theorem dX5_takeIn_150 : decode cX5_takeIn 150 = .ok (.isub, 1) := by decide +kernel
theorem dX5_takeIn_151 : decode cX5_takeIn 151 = .ok (.istore 5, 2) := by decide +kernel
theorem dX5_takeIn_153 : decode cX5_takeIn 153 = .ok (.goto 68, 3) := by decide +kernel
theorem dX5_takeIn_156 : decode cX5_takeIn 156 = .ok (.aload_n 0, 1) := by decide +kernel
theorem dX5_takeIn_157 : decode cX5_takeIn 157 = .ok (.getfield 32, 3) := by decide +kernel
theorem dX5_takeIn_160 : decode cX5_takeIn 160 = .ok (.iload 5, 2) := by decide +kernel
theorem dX5_takeIn_162 : decode cX5_takeIn 162 = .ok (.iconst 1, 1) := by decide +kernel
theorem dX5_takeIn_163 : decode cX5_takeIn 163 = .ok (.iadd, 1) := by decide +kernel
theorem dX5_takeIn_164 : decode cX5_takeIn 164 = .ok (.iload 7, 2) := by decide +kernel
theorem dX5_takeIn_166 : decode cX5_takeIn 166 = .ok (.invokevirtual 109, 3) := by decide +kernel
theorem dX5_takeIn_169 : decode cX5_takeIn 169 = .ok (.aload_n 0, 1) := by decide +kernel
theorem dX5_takeIn_170 : decode cX5_takeIn 170 = .ok (.getfield 39, 3) := by decide +kernel
theorem dX5_takeIn_173 : decode cX5_takeIn 173 = .ok (.invokevirtual 112, 3) := by decide +kernel
theorem dX5_takeIn_176 : decode cX5_takeIn 176 = .ok (.ifCond .ne 23, 3) := by decide +kernel
theorem dX5_takeIn_179 : decode cX5_takeIn 179 = .ok (.iload 6, 2) := by decide +kernel
theorem dX5_takeIn_181 : decode cX5_takeIn 181 = .ok (.iconst 1, 1) := by decide +kernel
theorem dX5_takeIn_182 : decode cX5_takeIn 182 = .ok (.iadd, 1) := by decide +kernel
theorem dX5_takeIn_183 : decode cX5_takeIn 183 = .ok (.aload_n 0, 1) := by decide +kernel
theorem dX5_takeIn_184 : decode cX5_takeIn 184 = .ok (.getfield 12, 3) := by decide +kernel
theorem dX5_takeIn_187 : decode cX5_takeIn 187 = .ok (.invokevirtual 82, 3) := by decide +kernel
theorem dX5_takeIn_190 : decode cX5_takeIn 190 = .ok (.if_icmp .ge 7, 3) := by decide +kernel
theorem dX5_takeIn_193 : decode cX5_takeIn 193 = .ok (.iconst 2, 1) := by decide +kernel
theorem dX5_takeIn_194 : decode cX5_takeIn 194 = .ok (.goto 4, 3) := by decide +kernel
theorem dX5_takeIn_197 : decode cX5_takeIn 197 = .ok (.iconst 0, 1) := by decide +kernel
theorem dX5_takeIn_198 : decode cX5_takeIn 198 = .ok (.ireturn, 1) := by decide +kernel
theorem dX5_takeIn_199 : decode cX5_takeIn 199 = .ok (.aload_n 0, 1) := by decide +kernel
theorem dX5_takeIn_200 : decode cX5_takeIn 200 = .ok (.getfield 39, 3) := by decide +kernel
theorem dX5_takeIn_203 : decode cX5_takeIn 203 = .ok (.invokevirtual 116, 3) := by decide +kernel
theorem dX5_takeIn_206 : decode cX5_takeIn 206 = .ok (.istore_n 3, 1) := by decide +kernel
theorem dX5_takeIn_207 : decode cX5_takeIn 207 = .ok (.iload_n 3, 1) := by decide +kernel
theorem dX5_takeIn_208 : decode cX5_takeIn 208 = .ok (.iconst 1, 1) := by decide +kernel
theorem dX5_takeIn_209 : decode cX5_takeIn 209 = .ok (.iadd, 1) := by decide +kernel
theorem dX5_takeIn_210 : decode cX5_takeIn 210 = .ok (.istore 4, 2) := by decide +kernel
theorem dX5_takeIn_212 : decode cX5_takeIn 212 = .ok (.aload_n 0, 1) := by decide +kernel
theorem dX5_takeIn_213 : decode cX5_takeIn 213 = .ok (.getfield 39, 3) := by decide +kernel
theorem dX5_takeIn_216 : decode cX5_takeIn 216 = .ok (.invokevirtual 119, 3) := by decide +kernel
theorem dX5_takeIn_219 : decode cX5_takeIn 219 = .ok (.istore 5, 2) := by decide +kernel
theorem dX5_takeIn_221 : decode cX5_takeIn 221 = .ok (.iinc 6 1, 3) := by decide +kernel
theorem dX5_takeIn_224 : decode cX5_takeIn 224 = .ok (.goto (-190), 3) := by decide +kernel
theorem dX5_takeIn_227 : decode cX5_takeIn 227 = .ok (.iconst 1, 1) := by decide +kernel
theorem dX5_takeIn_228 : decode cX5_takeIn 228 = .ok (.ireturn, 1) := by decide +kernel
end
section
theorem dX5_reasonOfNode_0 : decode cX5_reasonOfNode 0 = .ok (.iload_n 0, 1) := by decide +kernel
theorem dX5_reasonOfNode_1 : decode cX5_reasonOfNode 1 = .ok (.iload_n 2, 1) := by decide +kernel
theorem dX5_reasonOfNode_2 : decode cX5_reasonOfNode 2 = .ok (.if_icmp .lt 8, 3) := by decide +kernel
theorem dX5_reasonOfNode_5 : decode cX5_reasonOfNode 5 = .ok (.iload_n 0, 1) := by decide +kernel
theorem dX5_reasonOfNode_6 : decode cX5_reasonOfNode 6 = .ok (.iload_n 3, 1) := by decide +kernel
theorem dX5_reasonOfNode_7 : decode cX5_reasonOfNode 7 = .ok (.if_icmp .le 5, 3) := by decide +kernel
theorem dX5_reasonOfNode_10 : decode cX5_reasonOfNode 10 = .ok (.iconst 3, 1) := by decide +kernel
theorem dX5_reasonOfNode_11 : decode cX5_reasonOfNode 11 = .ok (.ireturn, 1) := by decide +kernel
theorem dX5_reasonOfNode_12 : decode cX5_reasonOfNode 12 = .ok (.iload_n 1, 1) := by decide +kernel
theorem dX5_reasonOfNode_13 : decode cX5_reasonOfNode 13 = .ok (.invokestatic 122, 3) := by decide +kernel
theorem dX5_reasonOfNode_16 : decode cX5_reasonOfNode 16 = .ok (.ifCond .eq 15, 3) := by decide +kernel
theorem dX5_reasonOfNode_19 : decode cX5_reasonOfNode 19 = .ok (.iload_n 1, 1) := by decide +kernel
theorem dX5_reasonOfNode_20 : decode cX5_reasonOfNode 20 = .ok (.iload_n 0, 1) := by decide +kernel
theorem dX5_reasonOfNode_21 : decode cX5_reasonOfNode 21 = .ok (.invokestatic 125, 3) := by decide +kernel
theorem dX5_reasonOfNode_24 : decode cX5_reasonOfNode 24 = .ok (.ifCond .ne 7, 3) := by decide +kernel
theorem dX5_reasonOfNode_27 : decode cX5_reasonOfNode 27 = .ok (.iconst 4, 1) := by decide +kernel
theorem dX5_reasonOfNode_28 : decode cX5_reasonOfNode 28 = .ok (.goto 4, 3) := by decide +kernel
theorem dX5_reasonOfNode_31 : decode cX5_reasonOfNode 31 = .ok (.iconst 0, 1) := by decide +kernel
theorem dX5_reasonOfNode_32 : decode cX5_reasonOfNode 32 = .ok (.ireturn, 1) := by decide +kernel
theorem dX5_reasonOfLeaf_0 : decode cX5_reasonOfLeaf 0 = .ok (.iload_n 0, 1) := by decide +kernel
theorem dX5_reasonOfLeaf_1 : decode cX5_reasonOfLeaf 1 = .ok (.ifCond .ne 5, 3) := by decide +kernel
theorem dX5_reasonOfLeaf_4 : decode cX5_reasonOfLeaf 4 = .ok (.iconst 0, 1) := by decide +kernel
theorem dX5_reasonOfLeaf_5 : decode cX5_reasonOfLeaf 5 = .ok (.ireturn, 1) := by decide +kernel
theorem dX5_reasonOfLeaf_6 : decode cX5_reasonOfLeaf 6 = .ok (.iload_n 1, 1) := by decide +kernel
theorem dX5_reasonOfLeaf_7 : decode cX5_reasonOfLeaf 7 = .ok (.iload_n 2, 1) := by decide +kernel
theorem dX5_reasonOfLeaf_8 : decode cX5_reasonOfLeaf 8 = .ok (.if_icmp .le 5, 3) := by decide +kernel
theorem dX5_reasonOfLeaf_11 : decode cX5_reasonOfLeaf 11 = .ok (.iconst 3, 1) := by decide +kernel
theorem dX5_reasonOfLeaf_12 : decode cX5_reasonOfLeaf 12 = .ok (.ireturn, 1) := by decide +kernel
theorem dX5_reasonOfLeaf_13 : decode cX5_reasonOfLeaf 13 = .ok (.iload_n 3, 1) := by decide +kernel
theorem dX5_reasonOfLeaf_14 : decode cX5_reasonOfLeaf 14 = .ok (.ifCond .eq 7, 3) := by decide +kernel
theorem dX5_reasonOfLeaf_17 : decode cX5_reasonOfLeaf 17 = .ok (.iconst 5, 1) := by decide +kernel
theorem dX5_reasonOfLeaf_18 : decode cX5_reasonOfLeaf 18 = .ok (.goto 4, 3) := by decide +kernel
theorem dX5_reasonOfLeaf_21 : decode cX5_reasonOfLeaf 21 = .ok (.iconst 0, 1) := by decide +kernel
theorem dX5_reasonOfLeaf_22 : decode cX5_reasonOfLeaf 22 = .ok (.ireturn, 1) := by decide +kernel
theorem dX5_digestAfter_0 : decode cX5_digestAfter 0 = .ok (.iload_n 1, 1) := by decide +kernel
theorem dX5_digestAfter_1 : decode cX5_digestAfter 1 = .ok (.iconst 1, 1) := by decide +kernel
theorem dX5_digestAfter_2 : decode cX5_digestAfter 2 = .ok (.isub, 1) := by decide +kernel
theorem dX5_digestAfter_3 : decode cX5_digestAfter 3 = .ok (.iconst 0, 1) := by decide +kernel
theorem dX5_digestAfter_4 : decode cX5_digestAfter 4 = .ok (.invokestatic 129, 3) := by decide +kernel
theorem dX5_digestAfter_7 : decode cX5_digestAfter 7 = .ok (.istore_n 3, 1) := by decide +kernel
theorem dX5_digestAfter_8 : decode cX5_digestAfter 8 = .ok (.iload_n 1, 1) := by decide +kernel
theorem dX5_digestAfter_9 : decode cX5_digestAfter 9 = .ok (.iconst 1, 1) := by decide +kernel
theorem dX5_digestAfter_10 : decode cX5_digestAfter 10 = .ok (.iadd, 1) := by decide +kernel
theorem dX5_digestAfter_11 : decode cX5_digestAfter 11 = .ok (.bipush 99, 2) := by decide +kernel
theorem dX5_digestAfter_13 : decode cX5_digestAfter 13 = .ok (.invokestatic 50, 3) := by decide +kernel
theorem dX5_digestAfter_16 : decode cX5_digestAfter 16 = .ok (.istore 4, 2) := by decide +kernel
theorem dX5_digestAfter_18 : decode cX5_digestAfter 18 = .ok (.aload_n 0, 1) := by decide +kernel
theorem dX5_digestAfter_19 : decode cX5_digestAfter 19 = .ok (.iload_n 3, 1) := by decide +kernel
theorem dX5_digestAfter_20 : decode cX5_digestAfter 20 = .ok (.iload 4, 2) := by decide +kernel
theorem dX5_digestAfter_22 : decode cX5_digestAfter 22 = .ok (.invokevirtual 132, 3) := by decide +kernel
theorem dX5_digestAfter_25 : decode cX5_digestAfter 25 = .ok (.ifCond .eq 6, 3) := by decide +kernel
theorem dX5_digestAfter_28 : decode cX5_digestAfter 28 = .ok (.bipush (-3), 2) := by decide +kernel
theorem dX5_digestAfter_30 : decode cX5_digestAfter 30 = .ok (.ireturn, 1) := by decide +kernel
theorem dX5_digestAfter_31 : decode cX5_digestAfter 31 = .ok (.iload_n 2, 1) := by decide +kernel
theorem dX5_digestAfter_32 : decode cX5_digestAfter 32 = .ok (.bipush (-9), 2) := by decide +kernel
theorem dX5_digestAfter_34 : decode cX5_digestAfter 34 = .ok (.if_icmp .eq 15, 3) := by decide +kernel
theorem dX5_digestAfter_37 : decode cX5_digestAfter 37 = .ok (.aload_n 0, 1) := by decide +kernel
theorem dX5_digestAfter_38 : decode cX5_digestAfter 38 = .ok (.getfield 25, 3) := by decide +kernel
theorem dX5_digestAfter_41 : decode cX5_digestAfter 41 = .ok (.iload_n 1, 1) := by decide +kernel
theorem dX5_digestAfter_42 : decode cX5_digestAfter 42 = .ok (.iload_n 2, 1) := by decide +kernel
theorem dX5_digestAfter_43 : decode cX5_digestAfter 43 = .ok (.invokevirtual 102, 3) := by decide +kernel
theorem dX5_digestAfter_46 : decode cX5_digestAfter 46 = .ok (.goto 27, 3) := by decide +kernel
theorem dX5_digestAfter_49 : decode cX5_digestAfter 49 = .ok (.aload_n 0, 1) := by decide +kernel
theorem dX5_digestAfter_50 : decode cX5_digestAfter 50 = .ok (.getfield 25, 3) := by decide +kernel
theorem dX5_digestAfter_53 : decode cX5_digestAfter 53 = .ok (.iload_n 1, 1) := by decide +kernel
theorem dX5_digestAfter_54 : decode cX5_digestAfter 54 = .ok (.invokevirtual 135, 3) := by decide +kernel
theorem dX5_digestAfter_57 : decode cX5_digestAfter 57 = .ok (.ifCond .eq 14, 3) := by decide +kernel
theorem dX5_digestAfter_60 : decode cX5_digestAfter 60 = .ok (.aload_n 0, 1) := by decide +kernel
theorem dX5_digestAfter_61 : decode cX5_digestAfter 61 = .ok (.getfield 25, 3) := by decide +kernel
theorem dX5_digestAfter_64 : decode cX5_digestAfter 64 = .ok (.iload_n 1, 1) := by decide +kernel
theorem dX5_digestAfter_65 : decode cX5_digestAfter 65 = .ok (.invokevirtual 138, 3) := by decide +kernel
theorem dX5_digestAfter_68 : decode cX5_digestAfter 68 = .ok (.goto 5, 3) := by decide +kernel
theorem dX5_digestAfter_71 : decode cX5_digestAfter 71 = .ok (.iconst (-1), 1) := by decide +kernel
theorem dX5_digestAfter_72 : decode cX5_digestAfter 72 = .ok (.ireturn, 1) := by decide +kernel
theorem dX5_digestAfter_73 : decode cX5_digestAfter 73 = .ok (.aload_n 0, 1) := by decide +kernel
theorem dX5_digestAfter_74 : decode cX5_digestAfter 74 = .ok (.getfield 32, 3) := by decide +kernel
theorem dX5_digestAfter_77 : decode cX5_digestAfter 77 = .ok (.aload_n 0, 1) := by decide +kernel
theorem dX5_digestAfter_78 : decode cX5_digestAfter 78 = .ok (.getfield 25, 3) := by decide +kernel
theorem dX5_digestAfter_81 : decode cX5_digestAfter 81 = .ok (.invokevirtual 63, 3) := by decide +kernel
theorem dX5_digestAfter_84 : decode cX5_digestAfter 84 = .ok (.aload_n 0, 1) := by decide +kernel
theorem dX5_digestAfter_85 : decode cX5_digestAfter 85 = .ok (.getfield 32, 3) := by decide +kernel
theorem dX5_digestAfter_88 : decode cX5_digestAfter 88 = .ok (.invokevirtual 67, 3) := by decide +kernel
theorem dX5_digestAfter_91 : decode cX5_digestAfter 91 = .ok (.ireturn, 1) := by decide +kernel
theorem dX6_init_0 : decode cX6_init 0 = .ok (.aload_n 0, 1) := by decide +kernel
theorem dX6_init_1 : decode cX6_init 1 = .ok (.invokespecial 1, 3) := by decide +kernel
theorem dX6_init_4 : decode cX6_init 4 = .ok (.aload_n 0, 1) := by decide +kernel
theorem dX6_init_5 : decode cX6_init 5 = .ok (.new 7, 3) := by decide +kernel
theorem dX6_init_8 : decode cX6_init 8 = .ok (.dup, 1) := by decide +kernel
theorem dX6_init_9 : decode cX6_init 9 = .ok (.invokespecial 9, 3) := by decide +kernel
theorem dX6_init_12 : decode cX6_init 12 = .ok (.putfield 10, 3) := by decide +kernel
theorem dX6_init_15 : decode cX6_init 15 = .ok (.return_, 1) := by decide +kernel
theorem dX6_pairs_0 : decode cX6_pairs 0 = .ok (.aload_n 0, 1) := by decide +kernel
theorem dX6_pairs_1 : decode cX6_pairs 1 = .ok (.getfield 10, 3) := by decide +kernel
theorem dX6_pairs_4 : decode cX6_pairs 4 = .ok (.areturn, 1) := by decide +kernel
theorem dX6_isFilled_0 : decode cX6_isFilled 0 = .ok (.aload_n 0, 1) := by decide +kernel
theorem dX6_isFilled_1 : decode cX6_isFilled 1 = .ok (.getfield 16, 3) := by decide +kernel
theorem dX6_isFilled_4 : decode cX6_isFilled 4 = .ok (.ireturn, 1) := by decide +kernel
theorem dX6_fill_0 : decode cX6_fill 0 = .ok (.aload_n 0, 1) := by decide +kernel
theorem dX6_fill_1 : decode cX6_fill 1 = .ok (.getfield 10, 3) := by decide +kernel
theorem dX6_fill_4 : decode cX6_fill 4 = .ok (.aload_n 1, 1) := by decide +kernel
theorem dX6_fill_5 : decode cX6_fill 5 = .ok (.invokevirtual 20, 3) := by decide +kernel
theorem dX6_fill_8 : decode cX6_fill 8 = .ok (.aload_n 0, 1) := by decide +kernel
theorem dX6_fill_9 : decode cX6_fill 9 = .ok (.iconst 1, 1) := by decide +kernel
theorem dX6_fill_10 : decode cX6_fill 10 = .ok (.putfield 16, 3) := by decide +kernel
theorem dX6_fill_13 : decode cX6_fill 13 = .ok (.return_, 1) := by decide +kernel
theorem dX7_init_0 : decode cX7_init 0 = .ok (.aload_n 0, 1) := by decide +kernel
theorem dX7_init_1 : decode cX7_init 1 = .ok (.invokespecial 3, 3) := by decide +kernel
theorem dX7_init_4 : decode cX7_init 4 = .ok (.aload_n 0, 1) := by decide +kernel
theorem dX7_init_5 : decode cX7_init 5 = .ok (.bipush 100, 2) := by decide +kernel
theorem dX7_init_7 : decode cX7_init 7 = .ok (.newarray .int, 2) := by decide +kernel
theorem dX7_init_9 : decode cX7_init 9 = .ok (.putfield 9, 3) := by decide +kernel
theorem dX7_init_12 : decode cX7_init 12 = .ok (.aload_n 0, 1) := by decide +kernel
theorem dX7_init_13 : decode cX7_init 13 = .ok (.bipush 100, 2) := by decide +kernel
theorem dX7_init_15 : decode cX7_init 15 = .ok (.newarray .int, 2) := by decide +kernel
theorem dX7_init_17 : decode cX7_init 17 = .ok (.putfield 15, 3) := by decide +kernel
theorem dX7_init_20 : decode cX7_init 20 = .ok (.aload_n 0, 1) := by decide +kernel
theorem dX7_init_21 : decode cX7_init 21 = .ok (.bipush 100, 2) := by decide +kernel
theorem dX7_init_23 : decode cX7_init 23 = .ok (.newarray .int, 2) := by decide +kernel
theorem dX7_init_25 : decode cX7_init 25 = .ok (.putfield 18, 3) := by decide +kernel
theorem dX7_init_28 : decode cX7_init 28 = .ok (.aload_n 0, 1) := by decide +kernel
theorem dX7_init_29 : decode cX7_init 29 = .ok (.bipush 101, 2) := by decide +kernel
theorem dX7_init_31 : decode cX7_init 31 = .ok (.newarray .int, 2) := by decide +kernel
theorem dX7_init_33 : decode cX7_init 33 = .ok (.putfield 21, 3) := by decide +kernel
theorem dX7_init_36 : decode cX7_init 36 = .ok (.aload_n 0, 1) := by decide +kernel
theorem dX7_init_37 : decode cX7_init 37 = .ok (.bipush 100, 2) := by decide +kernel
theorem dX7_init_39 : decode cX7_init 39 = .ok (.newarray .int, 2) := by decide +kernel
theorem dX7_init_41 : decode cX7_init 41 = .ok (.putfield 24, 3) := by decide +kernel
theorem dX7_init_44 : decode cX7_init 44 = .ok (.aload_n 0, 1) := by decide +kernel
theorem dX7_init_45 : decode cX7_init 45 = .ok (.bipush (-9), 2) := by decide +kernel
theorem dX7_init_47 : decode cX7_init 47 = .ok (.putfield 27, 3) := by decide +kernel
theorem dX7_init_50 : decode cX7_init 50 = .ok (.aload_n 0, 1) := by decide +kernel
theorem dX7_init_51 : decode cX7_init 51 = .ok (.new 31, 3) := by decide +kernel
theorem dX7_init_54 : decode cX7_init 54 = .ok (.dup, 1) := by decide +kernel
theorem dX7_init_55 : decode cX7_init 55 = .ok (.invokespecial 33, 3) := by decide +kernel
theorem dX7_init_58 : decode cX7_init 58 = .ok (.putfield 34, 3) := by decide +kernel
theorem dX7_init_61 : decode cX7_init 61 = .ok (.return_, 1) := by decide +kernel
theorem dX7_rootDigest_0 : decode cX7_rootDigest 0 = .ok (.aload_n 0, 1) := by decide +kernel
theorem dX7_rootDigest_1 : decode cX7_rootDigest 1 = .ok (.aload_n 0, 1) := by decide +kernel
theorem dX7_rootDigest_2 : decode cX7_rootDigest 2 = .ok (.getfield 27, 3) := by decide +kernel
theorem dX7_rootDigest_5 : decode cX7_rootDigest 5 = .ok (.bipush 100, 2) := by decide +kernel
theorem dX7_rootDigest_7 : decode cX7_rootDigest 7 = .ok (.invokevirtual 38, 3) := by decide +kernel
theorem dX7_rootDigest_10 : decode cX7_rootDigest 10 = .ok (.ireturn, 1) := by decide +kernel
theorem dX7_leftOf_0 : decode cX7_leftOf 0 = .ok (.iload_n 1, 1) := by decide +kernel
theorem dX7_leftOf_1 : decode cX7_leftOf 1 = .ok (.invokestatic 42, 3) := by decide +kernel
theorem dX7_leftOf_4 : decode cX7_leftOf 4 = .ok (.ifCond .eq 12, 3) := by decide +kernel
theorem dX7_leftOf_7 : decode cX7_leftOf 7 = .ok (.aload_n 0, 1) := by decide +kernel
theorem dX7_leftOf_8 : decode cX7_leftOf 8 = .ok (.getfield 9, 3) := by decide +kernel
theorem dX7_leftOf_11 : decode cX7_leftOf 11 = .ok (.iload_n 1, 1) := by decide +kernel
theorem dX7_leftOf_12 : decode cX7_leftOf 12 = .ok (.iaload, 1) := by decide +kernel
theorem dX7_leftOf_13 : decode cX7_leftOf 13 = .ok (.goto 5, 3) := by decide +kernel
theorem dX7_leftOf_16 : decode cX7_leftOf 16 = .ok (.bipush (-9), 2) := by decide +kernel
theorem dX7_leftOf_18 : decode cX7_leftOf 18 = .ok (.ireturn, 1) := by decide +kernel
theorem dX7_rightOf_0 : decode cX7_rightOf 0 = .ok (.iload_n 1, 1) := by decide +kernel
theorem dX7_rightOf_1 : decode cX7_rightOf 1 = .ok (.invokestatic 42, 3) := by decide +kernel
theorem dX7_rightOf_4 : decode cX7_rightOf 4 = .ok (.ifCond .eq 12, 3) := by decide +kernel
theorem dX7_rightOf_7 : decode cX7_rightOf 7 = .ok (.aload_n 0, 1) := by decide +kernel
theorem dX7_rightOf_8 : decode cX7_rightOf 8 = .ok (.getfield 15, 3) := by decide +kernel
theorem dX7_rightOf_11 : decode cX7_rightOf 11 = .ok (.iload_n 1, 1) := by decide +kernel
theorem dX7_rightOf_12 : decode cX7_rightOf 12 = .ok (.iaload, 1) := by decide +kernel
theorem dX7_rightOf_13 : decode cX7_rightOf 13 = .ok (.goto 5, 3) := by decide +kernel
theorem dX7_rightOf_16 : decode cX7_rightOf 16 = .ok (.bipush (-9), 2) := by decide +kernel
theorem dX7_rightOf_18 : decode cX7_rightOf 18 = .ok (.ireturn, 1) := by decide +kernel
theorem dX7_digestOf_0 : decode cX7_digestOf 0 = .ok (.iload_n 1, 1) := by decide +kernel
theorem dX7_digestOf_1 : decode cX7_digestOf 1 = .ok (.invokestatic 42, 3) := by decide +kernel
theorem dX7_digestOf_4 : decode cX7_digestOf 4 = .ok (.ifCond .eq 12, 3) := by decide +kernel
theorem dX7_digestOf_7 : decode cX7_digestOf 7 = .ok (.aload_n 0, 1) := by decide +kernel
theorem dX7_digestOf_8 : decode cX7_digestOf 8 = .ok (.getfield 18, 3) := by decide +kernel
theorem dX7_digestOf_11 : decode cX7_digestOf 11 = .ok (.iload_n 1, 1) := by decide +kernel
theorem dX7_digestOf_12 : decode cX7_digestOf 12 = .ok (.iaload, 1) := by decide +kernel
theorem dX7_digestOf_13 : decode cX7_digestOf 13 = .ok (.goto 4, 3) := by decide +kernel
theorem dX7_digestOf_16 : decode cX7_digestOf 16 = .ok (.iconst 0, 1) := by decide +kernel
theorem dX7_digestOf_17 : decode cX7_digestOf 17 = .ok (.ireturn, 1) := by decide +kernel
theorem dX7_hideNothing_0 : decode cX7_hideNothing 0 = .ok (.aload_n 0, 1) := by decide +kernel
theorem dX7_hideNothing_1 : decode cX7_hideNothing 1 = .ok (.getfield 21, 3) := by decide +kernel
theorem dX7_hideNothing_4 : decode cX7_hideNothing 4 = .ok (.iconst 0, 1) := by decide +kernel
theorem dX7_hideNothing_5 : decode cX7_hideNothing 5 = .ok (.invokestatic 46, 3) := by decide +kernel
theorem dX7_hideNothing_8 : decode cX7_hideNothing 8 = .ok (.return_, 1) := by decide +kernel
theorem dX7_hide_0 : decode cX7_hide 0 = .ok (.iload_n 1, 1) := by decide +kernel
theorem dX7_hide_1 : decode cX7_hide 1 = .ok (.ifCond .lt 16, 3) := by decide +kernel
theorem dX7_hide_4 : decode cX7_hide 4 = .ok (.iload_n 1, 1) := by decide +kernel
theorem dX7_hide_5 : decode cX7_hide 5 = .ok (.bipush 100, 2) := by decide +kernel
theorem dX7_hide_7 : decode cX7_hide 7 = .ok (.if_icmp .gt 10, 3) := by decide +kernel
theorem dX7_hide_10 : decode cX7_hide 10 = .ok (.aload_n 0, 1) := by decide +kernel
theorem dX7_hide_11 : decode cX7_hide 11 = .ok (.getfield 21, 3) := by decide +kernel
theorem dX7_hide_14 : decode cX7_hide 14 = .ok (.iload_n 1, 1) := by decide +kernel
theorem dX7_hide_15 : decode cX7_hide 15 = .ok (.iload_n 2, 1) := by decide +kernel
theorem dX7_hide_16 : decode cX7_hide 16 = .ok (.iastore, 1) := by decide +kernel
theorem dX7_hide_17 : decode cX7_hide 17 = .ok (.return_, 1) := by decide +kernel
theorem dX7_grow_0 : decode cX7_grow 0 = .ok (.aload_n 0, 1) := by decide +kernel
theorem dX7_grow_1 : decode cX7_grow 1 = .ok (.getfield 18, 3) := by decide +kernel
theorem dX7_grow_4 : decode cX7_grow 4 = .ok (.iconst 0, 1) := by decide +kernel
theorem dX7_grow_5 : decode cX7_grow 5 = .ok (.invokestatic 46, 3) := by decide +kernel
theorem dX7_grow_8 : decode cX7_grow 8 = .ok (.aload_n 0, 1) := by decide +kernel
theorem dX7_grow_9 : decode cX7_grow 9 = .ok (.iconst 0, 1) := by decide +kernel
theorem dX7_grow_10 : decode cX7_grow 10 = .ok (.putfield 52, 3) := by decide +kernel
theorem dX7_grow_13 : decode cX7_grow 13 = .ok (.iconst 0, 1) := by decide +kernel
theorem dX7_grow_14 : decode cX7_grow 14 = .ok (.istore_n 2, 1) := by decide +kernel
theorem dX7_grow_15 : decode cX7_grow 15 = .ok (.iload_n 2, 1) := by decide +kernel
theorem dX7_grow_16 : decode cX7_grow 16 = .ok (.bipush 100, 2) := by decide +kernel
theorem dX7_grow_18 : decode cX7_grow 18 = .ok (.if_icmp .ge 58, 3) := by decide +kernel
theorem dX7_grow_21 : decode cX7_grow 21 = .ok (.aload_n 1, 1) := by decide +kernel
theorem dX7_grow_22 : decode cX7_grow 22 = .ok (.iload_n 2, 1) := by decide +kernel
theorem dX7_grow_23 : decode cX7_grow 23 = .ok (.invokevirtual 55, 3) := by decide +kernel
theorem dX7_grow_26 : decode cX7_grow 26 = .ok (.ifCond .eq 44, 3) := by decide +kernel
theorem dX7_grow_29 : decode cX7_grow 29 = .ok (.aload_n 0, 1) := by decide +kernel
theorem dX7_grow_30 : decode cX7_grow 30 = .ok (.getfield 9, 3) := by decide +kernel
theorem dX7_grow_33 : decode cX7_grow 33 = .ok (.iload_n 2, 1) := by decide +kernel
theorem dX7_grow_34 : decode cX7_grow 34 = .ok (.aload_n 0, 1) := by decide +kernel
theorem dX7_grow_35 : decode cX7_grow 35 = .ok (.iload_n 2, 1) := by decide +kernel
theorem dX7_grow_36 : decode cX7_grow 36 = .ok (.aload_n 1, 1) := by decide +kernel
theorem dX7_grow_37 : decode cX7_grow 37 = .ok (.invokevirtual 60, 3) := by decide +kernel
theorem dX7_grow_40 : decode cX7_grow 40 = .ok (.iastore, 1) := by decide +kernel
theorem dX7_grow_41 : decode cX7_grow 41 = .ok (.aload_n 0, 1) := by decide +kernel
theorem dX7_grow_42 : decode cX7_grow 42 = .ok (.getfield 52, 3) := by decide +kernel
theorem dX7_grow_45 : decode cX7_grow 45 = .ok (.bipush 100, 2) := by decide +kernel
theorem dX7_grow_47 : decode cX7_grow 47 = .ok (.if_icmp .ge 23, 3) := by decide +kernel
theorem dX7_grow_50 : decode cX7_grow 50 = .ok (.aload_n 0, 1) := by decide +kernel
theorem dX7_grow_51 : decode cX7_grow 51 = .ok (.getfield 24, 3) := by decide +kernel
theorem dX7_grow_54 : decode cX7_grow 54 = .ok (.aload_n 0, 1) := by decide +kernel
theorem dX7_grow_55 : decode cX7_grow 55 = .ok (.getfield 52, 3) := by decide +kernel
theorem dX7_grow_58 : decode cX7_grow 58 = .ok (.iload_n 2, 1) := by decide +kernel
theorem dX7_grow_59 : decode cX7_grow 59 = .ok (.iastore, 1) := by decide +kernel
theorem dX7_grow_60 : decode cX7_grow 60 = .ok (.aload_n 0, 1) := by decide +kernel
theorem dX7_grow_61 : decode cX7_grow 61 = .ok (.dup, 1) := by decide +kernel
theorem dX7_grow_62 : decode cX7_grow 62 = .ok (.getfield 52, 3) := by decide +kernel
theorem dX7_grow_65 : decode cX7_grow 65 = .ok (.iconst 1, 1) := by decide +kernel
theorem dX7_grow_66 : decode cX7_grow 66 = .ok (.iadd, 1) := by decide +kernel
theorem dX7_grow_67 : decode cX7_grow 67 = .ok (.putfield 52, 3) := by decide +kernel
theorem dX7_grow_70 : decode cX7_grow 70 = .ok (.iinc 2 1, 3) := by decide +kernel
theorem dX7_grow_73 : decode cX7_grow 73 = .ok (.goto (-58), 3) := by decide +kernel
theorem dX7_grow_76 : decode cX7_grow 76 = .ok (.aload_n 0, 1) := by decide +kernel
theorem dX7_grow_77 : decode cX7_grow 77 = .ok (.aload_n 0, 1) := by decide +kernel
theorem dX7_grow_78 : decode cX7_grow 78 = .ok (.bipush 100, 2) := by decide +kernel
theorem dX7_grow_80 : decode cX7_grow 80 = .ok (.aload_n 1, 1) := by decide +kernel
theorem dX7_grow_81 : decode cX7_grow 81 = .ok (.invokevirtual 60, 3) := by decide +kernel
theorem dX7_grow_84 : decode cX7_grow 84 = .ok (.putfield 27, 3) := by decide +kernel
theorem dX7_grow_87 : decode cX7_grow 87 = .ok (.return_, 1) := by decide +kernel
theorem dX7_closeBefore_0 : decode cX7_closeBefore 0 = .ok (.bipush (-9), 2) := by decide +kernel
theorem dX7_closeBefore_2 : decode cX7_closeBefore 2 = .ok (.istore_n 3, 1) := by decide +kernel
theorem dX7_closeBefore_3 : decode cX7_closeBefore 3 = .ok (.iconst 0, 1) := by decide +kernel
theorem dX7_closeBefore_4 : decode cX7_closeBefore 4 = .ok (.istore 4, 2) := by decide +kernel
theorem dX7_closeBefore_6 : decode cX7_closeBefore 6 = .ok (.iload 4, 2) := by decide +kernel
theorem dX7_closeBefore_8 : decode cX7_closeBefore 8 = .ok (.bipush 100, 2) := by decide +kernel
theorem dX7_closeBefore_10 : decode cX7_closeBefore 10 = .ok (.if_icmp .ge 114, 3) := by decide +kernel
theorem dX7_closeBefore_13 : decode cX7_closeBefore 13 = .ok (.aload_n 0, 1) := by decide +kernel
theorem dX7_closeBefore_14 : decode cX7_closeBefore 14 = .ok (.getfield 52, 3) := by decide +kernel
theorem dX7_closeBefore_17 : decode cX7_closeBefore 17 = .ok (.ifCond .le 107, 3) := by decide +kernel
theorem dX7_closeBefore_20 : decode cX7_closeBefore 20 = .ok (.aload_n 0, 1) := by decide +kernel
theorem dX7_closeBefore_21 : decode cX7_closeBefore 21 = .ok (.getfield 24, 3) := by decide +kernel
theorem dX7_closeBefore_24 : decode cX7_closeBefore 24 = .ok (.aload_n 0, 1) := by decide +kernel
theorem dX7_closeBefore_25 : decode cX7_closeBefore 25 = .ok (.getfield 52, 3) := by decide +kernel
theorem dX7_closeBefore_28 : decode cX7_closeBefore 28 = .ok (.iconst 1, 1) := by decide +kernel
theorem dX7_closeBefore_29 : decode cX7_closeBefore 29 = .ok (.isub, 1) := by decide +kernel
theorem dX7_closeBefore_30 : decode cX7_closeBefore 30 = .ok (.iaload, 1) := by decide +kernel
theorem dX7_closeBefore_31 : decode cX7_closeBefore 31 = .ok (.istore 5, 2) := by decide +kernel
theorem dX7_closeBefore_33 : decode cX7_closeBefore 33 = .ok (.iload 5, 2) := by decide +kernel
theorem dX7_closeBefore_35 : decode cX7_closeBefore 35 = .ok (.invokestatic 42, 3) := by decide +kernel
theorem dX7_closeBefore_38 : decode cX7_closeBefore 38 = .ok (.ifCond .eq 86, 3) := by decide +kernel
theorem dX7_closeBefore_41 : decode cX7_closeBefore 41 = .ok (.iload_n 1, 1) := by decide +kernel
theorem dX7_closeBefore_42 : decode cX7_closeBefore 42 = .ok (.invokestatic 42, 3) := by decide +kernel
theorem dX7_closeBefore_45 : decode cX7_closeBefore 45 = .ok (.ifCond .eq 15, 3) := by decide +kernel
theorem dX7_closeBefore_48 : decode cX7_closeBefore 48 = .ok (.iload 5, 2) := by decide +kernel
theorem dX7_closeBefore_50 : decode cX7_closeBefore 50 = .ok (.iload_n 1, 1) := by decide +kernel
theorem dX7_closeBefore_51 : decode cX7_closeBefore 51 = .ok (.invokestatic 64, 3) := by decide +kernel
theorem dX7_closeBefore_54 : decode cX7_closeBefore 54 = .ok (.ifCond .eq 6, 3) := by decide +kernel
theorem dX7_closeBefore_57 : decode cX7_closeBefore 57 = .ok (.goto 67, 3) := by decide +kernel
theorem dX7_closeBefore_60 : decode cX7_closeBefore 60 = .ok (.aload_n 0, 1) := by decide +kernel
theorem dX7_closeBefore_61 : decode cX7_closeBefore 61 = .ok (.dup, 1) := by decide +kernel
theorem dX7_closeBefore_62 : decode cX7_closeBefore 62 = .ok (.getfield 52, 3) := by decide +kernel
theorem dX7_closeBefore_65 : decode cX7_closeBefore 65 = .ok (.iconst 1, 1) := by decide +kernel
theorem dX7_closeBefore_66 : decode cX7_closeBefore 66 = .ok (.isub, 1) := by decide +kernel
theorem dX7_closeBefore_67 : decode cX7_closeBefore 67 = .ok (.putfield 52, 3) := by decide +kernel
theorem dX7_closeBefore_70 : decode cX7_closeBefore 70 = .ok (.aload_n 0, 1) := by decide +kernel
theorem dX7_closeBefore_71 : decode cX7_closeBefore 71 = .ok (.getfield 15, 3) := by decide +kernel
theorem dX7_closeBefore_74 : decode cX7_closeBefore 74 = .ok (.iload 5, 2) := by decide +kernel
theorem dX7_closeBefore_76 : decode cX7_closeBefore 76 = .ok (.iload_n 3, 1) := by decide +kernel
theorem dX7_closeBefore_77 : decode cX7_closeBefore 77 = .ok (.iastore, 1) := by decide +kernel
theorem dX7_closeBefore_78 : decode cX7_closeBefore 78 = .ok (.aload_n 0, 1) := by decide +kernel
theorem dX7_closeBefore_79 : decode cX7_closeBefore 79 = .ok (.getfield 18, 3) := by decide +kernel
theorem dX7_closeBefore_82 : decode cX7_closeBefore 82 = .ok (.iload 5, 2) := by decide +kernel
theorem dX7_closeBefore_84 : decode cX7_closeBefore 84 = .ok (.iload 5, 2) := by decide +kernel
theorem dX7_closeBefore_86 : decode cX7_closeBefore 86 = .ok (.aload_n 2, 1) := by decide +kernel
theorem dX7_closeBefore_87 : decode cX7_closeBefore 87 = .ok (.iload 5, 2) := by decide +kernel
theorem dX7_closeBefore_89 : decode cX7_closeBefore 89 = .ok (.invokevirtual 68, 3) := by decide +kernel
theorem dX7_closeBefore_92 : decode cX7_closeBefore 92 = .ok (.aload_n 0, 1) := by decide +kernel
theorem dX7_closeBefore_93 : decode cX7_closeBefore 93 = .ok (.aload_n 0, 1) := by decide +kernel
theorem dX7_closeBefore_94 : decode cX7_closeBefore 94 = .ok (.getfield 9, 3) := by decide +kernel
theorem dX7_closeBefore_97 : decode cX7_closeBefore 97 = .ok (.iload 5, 2) := by decide +kernel
theorem dX7_closeBefore_99 : decode cX7_closeBefore 99 = .ok (.iaload, 1) := by decide +kernel
theorem dX7_closeBefore_100 : decode cX7_closeBefore 100 = .ok (.iload 5, 2) := by decide +kernel
theorem dX7_closeBefore_102 : decode cX7_closeBefore 102 = .ok (.invokevirtual 38, 3) := by decide +kernel
theorem dX7_closeBefore_105 : decode cX7_closeBefore 105 = .ok (.aload_n 0, 1) := by decide +kernel
theorem dX7_closeBefore_106 : decode cX7_closeBefore 106 = .ok (.iload_n 3, 1) := by decide +kernel
theorem dX7_closeBefore_107 : decode cX7_closeBefore 107 = .ok (.iload_n 1, 1) := by decide +kernel
theorem dX7_closeBefore_108 : decode cX7_closeBefore 108 = .ok (.invokevirtual 38, 3) := by decide +kernel
theorem dX7_closeBefore_111 : decode cX7_closeBefore 111 = .ok (.invokestatic 72, 3) := by decide +kernel
theorem dX7_closeBefore_114 : decode cX7_closeBefore 114 = .ok (.iastore, 1) := by decide +kernel
theorem dX7_closeBefore_115 : decode cX7_closeBefore 115 = .ok (.iload 5, 2) := by decide +kernel
theorem dX7_closeBefore_117 : decode cX7_closeBefore 117 = .ok (.istore_n 3, 1) := by decide +kernel
theorem dX7_closeBefore_118 : decode cX7_closeBefore 118 = .ok (.iinc 4 1, 3) := by decide +kernel
theorem dX7_closeBefore_121 : decode cX7_closeBefore 121 = .ok (.goto (-115), 3) := by decide +kernel
theorem dX7_closeBefore_124 : decode cX7_closeBefore 124 = .ok (.iload_n 3, 1) := by decide +kernel
theorem dX7_closeBefore_125 : decode cX7_closeBefore 125 = .ok (.ireturn, 1) := by decide +kernel
theorem dX7_digestOr_0 : decode cX7_digestOr 0 = .ok (.iload_n 1, 1) := by decide +kernel
theorem dX7_digestOr_1 : decode cX7_digestOr 1 = .ok (.invokestatic 42, 3) := by decide +kernel
theorem dX7_digestOr_4 : decode cX7_digestOr 4 = .ok (.ifCond .eq 10, 3) := by decide +kernel
theorem dX7_digestOr_7 : decode cX7_digestOr 7 = .ok (.aload_n 0, 1) := by decide +kernel
theorem dX7_digestOr_8 : decode cX7_digestOr 8 = .ok (.getfield 18, 3) := by decide +kernel
theorem dX7_digestOr_11 : decode cX7_digestOr 11 = .ok (.iload_n 1, 1) := by decide +kernel
theorem dX7_digestOr_12 : decode cX7_digestOr 12 = .ok (.iaload, 1) := by decide +kernel
theorem dX7_digestOr_13 : decode cX7_digestOr 13 = .ok (.ireturn, 1) := by decide +kernel
theorem dX7_digestOr_14 : decode cX7_digestOr 14 = .ok (.iload_n 2, 1) := by decide +kernel
theorem dX7_digestOr_15 : decode cX7_digestOr 15 = .ok (.ifCond .lt 18, 3) := by decide +kernel
theorem dX7_digestOr_18 : decode cX7_digestOr 18 = .ok (.iload_n 2, 1) := by decide +kernel
theorem dX7_digestOr_19 : decode cX7_digestOr 19 = .ok (.bipush 100, 2) := by decide +kernel
theorem dX7_digestOr_21 : decode cX7_digestOr 21 = .ok (.if_icmp .gt 12, 3) := by decide +kernel
theorem dX7_digestOr_24 : decode cX7_digestOr 24 = .ok (.aload_n 0, 1) := by decide +kernel
theorem dX7_digestOr_25 : decode cX7_digestOr 25 = .ok (.getfield 21, 3) := by decide +kernel
theorem dX7_digestOr_28 : decode cX7_digestOr 28 = .ok (.iload_n 2, 1) := by decide +kernel
theorem dX7_digestOr_29 : decode cX7_digestOr 29 = .ok (.iaload, 1) := by decide +kernel
theorem dX7_digestOr_30 : decode cX7_digestOr 30 = .ok (.goto 4, 3) := by decide +kernel
theorem dX7_digestOr_33 : decode cX7_digestOr 33 = .ok (.iconst 0, 1) := by decide +kernel
theorem dX7_digestOr_34 : decode cX7_digestOr 34 = .ok (.ireturn, 1) := by decide +kernel
theorem dX7_childTowards_0 : decode cX7_childTowards 0 = .ok (.iload_n 2, 1) := by decide +kernel
theorem dX7_childTowards_1 : decode cX7_childTowards 1 = .ok (.iload_n 1, 1) := by decide +kernel
theorem dX7_childTowards_2 : decode cX7_childTowards 2 = .ok (.if_icmp .ne 6, 3) := by decide +kernel
theorem dX7_childTowards_5 : decode cX7_childTowards 5 = .ok (.bipush (-9), 2) := by decide +kernel
theorem dX7_childTowards_7 : decode cX7_childTowards 7 = .ok (.ireturn, 1) := by decide +kernel
theorem dX7_childTowards_8 : decode cX7_childTowards 8 = .ok (.iload_n 2, 1) := by decide +kernel
theorem dX7_childTowards_9 : decode cX7_childTowards 9 = .ok (.iload_n 1, 1) := by decide +kernel
theorem dX7_childTowards_10 : decode cX7_childTowards 10 = .ok (.if_icmp .ge 11, 3) := by decide +kernel
theorem dX7_childTowards_13 : decode cX7_childTowards 13 = .ok (.aload_n 0, 1) := by decide +kernel
theorem dX7_childTowards_14 : decode cX7_childTowards 14 = .ok (.iload_n 1, 1) := by decide +kernel
theorem dX7_childTowards_15 : decode cX7_childTowards 15 = .ok (.invokevirtual 76, 3) := by decide +kernel
theorem dX7_childTowards_18 : decode cX7_childTowards 18 = .ok (.goto 8, 3) := by decide +kernel
theorem dX7_childTowards_21 : decode cX7_childTowards 21 = .ok (.aload_n 0, 1) := by decide +kernel
theorem dX7_childTowards_22 : decode cX7_childTowards 22 = .ok (.iload_n 1, 1) := by decide +kernel
theorem dX7_childTowards_23 : decode cX7_childTowards 23 = .ok (.invokevirtual 79, 3) := by decide +kernel
theorem dX7_childTowards_26 : decode cX7_childTowards 26 = .ok (.ireturn, 1) := by decide +kernel
theorem dX7_countNodesAround_0 : decode cX7_countNodesAround 0 = .ok (.iconst 0, 1) := by decide +kernel
theorem dX7_countNodesAround_1 : decode cX7_countNodesAround 1 = .ok (.istore_n 2, 1) := by decide +kernel
theorem dX7_countNodesAround_2 : decode cX7_countNodesAround 2 = .ok (.aload_n 0, 1) := by decide +kernel
theorem dX7_countNodesAround_3 : decode cX7_countNodesAround 3 = .ok (.getfield 27, 3) := by decide +kernel
theorem dX7_countNodesAround_6 : decode cX7_countNodesAround 6 = .ok (.istore_n 3, 1) := by decide +kernel
theorem dX7_countNodesAround_7 : decode cX7_countNodesAround 7 = .ok (.iconst 0, 1) := by decide +kernel
theorem dX7_countNodesAround_8 : decode cX7_countNodesAround 8 = .ok (.istore 4, 2) := by decide +kernel
theorem dX7_countNodesAround_10 : decode cX7_countNodesAround 10 = .ok (.iload 4, 2) := by decide +kernel
theorem dX7_countNodesAround_12 : decode cX7_countNodesAround 12 = .ok (.bipush 100, 2) := by decide +kernel
theorem dX7_countNodesAround_14 : decode cX7_countNodesAround 14 = .ok (.if_icmp .ge 26, 3) := by decide +kernel
theorem dX7_countNodesAround_17 : decode cX7_countNodesAround 17 = .ok (.iload_n 3, 1) := by decide +kernel
theorem dX7_countNodesAround_18 : decode cX7_countNodesAround 18 = .ok (.invokestatic 42, 3) := by decide +kernel
theorem dX7_countNodesAround_21 : decode cX7_countNodesAround 21 = .ok (.ifCond .eq 19, 3) := by decide +kernel
theorem dX7_countNodesAround_24 : decode cX7_countNodesAround 24 = .ok (.iinc 2 1, 3) := by decide +kernel
theorem dX7_countNodesAround_27 : decode cX7_countNodesAround 27 = .ok (.aload_n 0, 1) := by decide +kernel
theorem dX7_countNodesAround_28 : decode cX7_countNodesAround 28 = .ok (.iload_n 3, 1) := by decide +kernel
theorem dX7_countNodesAround_29 : decode cX7_countNodesAround 29 = .ok (.iload_n 1, 1) := by decide +kernel
theorem dX7_countNodesAround_30 : decode cX7_countNodesAround 30 = .ok (.invokevirtual 82, 3) := by decide +kernel
theorem dX7_countNodesAround_33 : decode cX7_countNodesAround 33 = .ok (.istore_n 3, 1) := by decide +kernel
theorem dX7_countNodesAround_34 : decode cX7_countNodesAround 34 = .ok (.iinc 4 1, 3) := by decide +kernel
theorem dX7_countNodesAround_37 : decode cX7_countNodesAround 37 = .ok (.goto (-27), 3) := by decide +kernel
theorem dX7_countNodesAround_40 : decode cX7_countNodesAround 40 = .ok (.iload_n 2, 1) := by decide +kernel
theorem dX7_countNodesAround_41 : decode cX7_countNodesAround 41 = .ok (.ireturn, 1) := by decide +kernel
theorem dX7_proofLengthOf_0 : decode cX7_proofLengthOf 0 = .ok (.iconst 2, 1) := by decide +kernel
theorem dX7_proofLengthOf_1 : decode cX7_proofLengthOf 1 = .ok (.aload_n 0, 1) := by decide +kernel
theorem dX7_proofLengthOf_2 : decode cX7_proofLengthOf 2 = .ok (.iload_n 1, 1) := by decide +kernel
theorem dX7_proofLengthOf_3 : decode cX7_proofLengthOf 3 = .ok (.invokevirtual 85, 3) := by decide +kernel
theorem dX7_proofLengthOf_6 : decode cX7_proofLengthOf 6 = .ok (.imul, 1) := by decide +kernel
theorem dX7_proofLengthOf_7 : decode cX7_proofLengthOf 7 = .ok (.iconst 1, 1) := by decide +kernel
theorem dX7_proofLengthOf_8 : decode cX7_proofLengthOf 8 = .ok (.iadd, 1) := by decide +kernel
theorem dX7_proofLengthOf_9 : decode cX7_proofLengthOf 9 = .ok (.ireturn, 1) := by decide +kernel
theorem dX7_height_0 : decode cX7_height 0 = .ok (.iconst 0, 1) := by decide +kernel
theorem dX7_height_1 : decode cX7_height 1 = .ok (.istore_n 1, 1) := by decide +kernel
theorem dX7_height_2 : decode cX7_height 2 = .ok (.iconst 0, 1) := by decide +kernel
theorem dX7_height_3 : decode cX7_height 3 = .ok (.istore_n 2, 1) := by decide +kernel
theorem dX7_height_4 : decode cX7_height 4 = .ok (.iload_n 2, 1) := by decide +kernel
theorem dX7_height_5 : decode cX7_height 5 = .ok (.bipush 100, 2) := by decide +kernel
theorem dX7_height_7 : decode cX7_height 7 = .ok (.if_icmp .ge 19, 3) := by decide +kernel
theorem dX7_height_10 : decode cX7_height 10 = .ok (.iload_n 1, 1) := by decide +kernel
theorem dX7_height_11 : decode cX7_height 11 = .ok (.aload_n 0, 1) := by decide +kernel
theorem dX7_height_12 : decode cX7_height 12 = .ok (.iload_n 2, 1) := by decide +kernel
theorem dX7_height_13 : decode cX7_height 13 = .ok (.invokevirtual 85, 3) := by decide +kernel
theorem dX7_height_16 : decode cX7_height 16 = .ok (.invokestatic 88, 3) := by decide +kernel
theorem dX7_height_19 : decode cX7_height 19 = .ok (.istore_n 1, 1) := by decide +kernel
theorem dX7_height_20 : decode cX7_height 20 = .ok (.iinc 2 1, 3) := by decide +kernel
theorem dX7_height_23 : decode cX7_height 23 = .ok (.goto (-19), 3) := by decide +kernel
theorem dX7_height_26 : decode cX7_height 26 = .ok (.iload_n 1, 1) := by decide +kernel
theorem dX7_height_27 : decode cX7_height 27 = .ok (.ireturn, 1) := by decide +kernel
theorem dX7_placeOf_0 : decode cX7_placeOf 0 = .ok (.iconst 0, 1) := by decide +kernel
theorem dX7_placeOf_1 : decode cX7_placeOf 1 = .ok (.istore_n 2, 1) := by decide +kernel
theorem dX7_placeOf_2 : decode cX7_placeOf 2 = .ok (.bipush (-9), 2) := by decide +kernel
theorem dX7_placeOf_4 : decode cX7_placeOf 4 = .ok (.istore_n 3, 1) := by decide +kernel
theorem dX7_placeOf_5 : decode cX7_placeOf 5 = .ok (.iconst 0, 1) := by decide +kernel
theorem dX7_placeOf_6 : decode cX7_placeOf 6 = .ok (.istore 4, 2) := by decide +kernel
theorem dX7_placeOf_8 : decode cX7_placeOf 8 = .ok (.bipush 99, 2) := by decide +kernel
theorem dX7_placeOf_10 : decode cX7_placeOf 10 = .ok (.istore 5, 2) := by decide +kernel
theorem dX7_placeOf_12 : decode cX7_placeOf 12 = .ok (.aload_n 0, 1) := by decide +kernel
theorem dX7_placeOf_13 : decode cX7_placeOf 13 = .ok (.getfield 27, 3) := by decide +kernel
theorem dX7_placeOf_16 : decode cX7_placeOf 16 = .ok (.istore 6, 2) := by decide +kernel
theorem dX7_placeOf_18 : decode cX7_placeOf 18 = .ok (.iconst 0, 1) := by decide +kernel
theorem dX7_placeOf_19 : decode cX7_placeOf 19 = .ok (.istore 7, 2) := by decide +kernel
theorem dX7_placeOf_21 : decode cX7_placeOf 21 = .ok (.iload 7, 2) := by decide +kernel
theorem dX7_placeOf_23 : decode cX7_placeOf 23 = .ok (.bipush 100, 2) := by decide +kernel
theorem dX7_placeOf_25 : decode cX7_placeOf 25 = .ok (.if_icmp .ge 59, 3) := by decide +kernel
theorem dX7_placeOf_28 : decode cX7_placeOf 28 = .ok (.iload 6, 2) := by decide +kernel
theorem dX7_placeOf_30 : decode cX7_placeOf 30 = .ok (.invokestatic 42, 3) := by decide +kernel
theorem dX7_placeOf_33 : decode cX7_placeOf 33 = .ok (.ifCond .eq 51, 3) := by decide +kernel
theorem dX7_placeOf_36 : decode cX7_placeOf 36 = .ok (.iload 6, 2) := by decide +kernel
theorem dX7_placeOf_38 : decode cX7_placeOf 38 = .ok (.iload_n 1, 1) := by decide +kernel
theorem dX7_placeOf_39 : decode cX7_placeOf 39 = .ok (.if_icmp .eq 45, 3) := by decide +kernel
theorem dX7_placeOf_42 : decode cX7_placeOf 42 = .ok (.iinc 2 1, 3) := by decide +kernel
theorem dX7_placeOf_45 : decode cX7_placeOf 45 = .ok (.iload 6, 2) := by decide +kernel
theorem dX7_placeOf_47 : decode cX7_placeOf 47 = .ok (.istore_n 3, 1) := by decide +kernel
theorem dX7_placeOf_48 : decode cX7_placeOf 48 = .ok (.iload_n 1, 1) := by decide +kernel
theorem dX7_placeOf_49 : decode cX7_placeOf 49 = .ok (.iload 6, 2) := by decide +kernel
theorem dX7_placeOf_51 : decode cX7_placeOf 51 = .ok (.if_icmp .ge 12, 3) := by decide +kernel
theorem dX7_placeOf_54 : decode cX7_placeOf 54 = .ok (.iload 6, 2) := by decide +kernel
theorem dX7_placeOf_56 : decode cX7_placeOf 56 = .ok (.iconst 1, 1) := by decide +kernel
theorem dX7_placeOf_57 : decode cX7_placeOf 57 = .ok (.isub, 1) := by decide +kernel
theorem dX7_placeOf_58 : decode cX7_placeOf 58 = .ok (.istore 5, 2) := by decide +kernel
theorem dX7_placeOf_60 : decode cX7_placeOf 60 = .ok (.goto 9, 3) := by decide +kernel
theorem dX7_placeOf_63 : decode cX7_placeOf 63 = .ok (.iload 6, 2) := by decide +kernel
theorem dX7_placeOf_65 : decode cX7_placeOf 65 = .ok (.iconst 1, 1) := by decide +kernel
theorem dX7_placeOf_66 : decode cX7_placeOf 66 = .ok (.iadd, 1) := by decide +kernel
theorem dX7_placeOf_67 : decode cX7_placeOf 67 = .ok (.istore 4, 2) := by decide +kernel
theorem dX7_placeOf_69 : decode cX7_placeOf 69 = .ok (.aload_n 0, 1) := by decide +kernel
theorem dX7_placeOf_70 : decode cX7_placeOf 70 = .ok (.iload 6, 2) := by decide +kernel
theorem dX7_placeOf_72 : decode cX7_placeOf 72 = .ok (.iload_n 1, 1) := by decide +kernel
theorem dX7_placeOf_73 : decode cX7_placeOf 73 = .ok (.invokevirtual 82, 3) := by decide +kernel
theorem dX7_placeOf_76 : decode cX7_placeOf 76 = .ok (.istore 6, 2) := by decide +kernel
theorem dX7_placeOf_78 : decode cX7_placeOf 78 = .ok (.iinc 7 1, 3) := by decide +kernel
theorem dX7_placeOf_81 : decode cX7_placeOf 81 = .ok (.goto (-60), 3) := by decide +kernel
theorem dX7_placeOf_84 : decode cX7_placeOf 84 = .ok (.new 93, 3) := by decide +kernel
theorem dX7_placeOf_87 : decode cX7_placeOf 87 = .ok (.dup, 1) := by decide +kernel
theorem dX7_placeOf_88 : decode cX7_placeOf 88 = .ok (.iload_n 2, 1) := by decide +kernel
theorem dX7_placeOf_89 : decode cX7_placeOf 89 = .ok (.iload_n 3, 1) := by decide +kernel
theorem dX7_placeOf_90 : decode cX7_placeOf 90 = .ok (.iload 4, 2) := by decide +kernel
theorem dX7_placeOf_92 : decode cX7_placeOf 92 = .ok (.iload 5, 2) := by decide +kernel
theorem dX7_placeOf_94 : decode cX7_placeOf 94 = .ok (.invokespecial 95, 3) := by decide +kernel
theorem dX7_placeOf_97 : decode cX7_placeOf 97 = .ok (.areturn, 1) := by decide +kernel
theorem dX7_isLike_0 : decode cX7_isLike 0 = .ok (.aload_n 0, 1) := by decide +kernel
theorem dX7_isLike_1 : decode cX7_isLike 1 = .ok (.iload_n 1, 1) := by decide +kernel
theorem dX7_isLike_2 : decode cX7_isLike 2 = .ok (.invokevirtual 98, 3) := by decide +kernel
theorem dX7_isLike_5 : decode cX7_isLike 5 = .ok (.ifCond .eq 20, 3) := by decide +kernel
theorem dX7_isLike_8 : decode cX7_isLike 8 = .ok (.aload_n 0, 1) := by decide +kernel
theorem dX7_isLike_9 : decode cX7_isLike 9 = .ok (.iload_n 1, 1) := by decide +kernel
theorem dX7_isLike_10 : decode cX7_isLike 10 = .ok (.invokevirtual 98, 3) := by decide +kernel
theorem dX7_isLike_13 : decode cX7_isLike 13 = .ok (.aload_n 2, 1) := by decide +kernel
theorem dX7_isLike_14 : decode cX7_isLike 14 = .ok (.iload_n 1, 1) := by decide +kernel
theorem dX7_isLike_15 : decode cX7_isLike 15 = .ok (.invokevirtual 98, 3) := by decide +kernel
theorem dX7_isLike_18 : decode cX7_isLike 18 = .ok (.if_icmp .ne 7, 3) := by decide +kernel
theorem dX7_isLike_21 : decode cX7_isLike 21 = .ok (.iconst 1, 1) := by decide +kernel
theorem dX7_isLike_22 : decode cX7_isLike 22 = .ok (.goto 4, 3) := by decide +kernel
theorem dX7_isLike_25 : decode cX7_isLike 25 = .ok (.iconst 0, 1) := by decide +kernel
theorem dX7_isLike_26 : decode cX7_isLike 26 = .ok (.ireturn, 1) := by decide +kernel
theorem dX7_isFirstLike_0 : decode cX7_isFirstLike 0 = .ok (.aload_n 0, 1) := by decide +kernel
theorem dX7_isFirstLike_1 : decode cX7_isFirstLike 1 = .ok (.getfield 27, 3) := by decide +kernel
theorem dX7_isFirstLike_4 : decode cX7_isFirstLike 4 = .ok (.istore_n 3, 1) := by decide +kernel
theorem dX7_isFirstLike_5 : decode cX7_isFirstLike 5 = .ok (.iconst 0, 1) := by decide +kernel
theorem dX7_isFirstLike_6 : decode cX7_isFirstLike 6 = .ok (.istore 4, 2) := by decide +kernel
theorem dX7_isFirstLike_8 : decode cX7_isFirstLike 8 = .ok (.iload 4, 2) := by decide +kernel
theorem dX7_isFirstLike_10 : decode cX7_isFirstLike 10 = .ok (.bipush 100, 2) := by decide +kernel
theorem dX7_isFirstLike_12 : decode cX7_isFirstLike 12 = .ok (.if_icmp .ge 39, 3) := by decide +kernel
theorem dX7_isFirstLike_15 : decode cX7_isFirstLike 15 = .ok (.iload_n 3, 1) := by decide +kernel
theorem dX7_isFirstLike_16 : decode cX7_isFirstLike 16 = .ok (.invokestatic 42, 3) := by decide +kernel
theorem dX7_isFirstLike_19 : decode cX7_isFirstLike 19 = .ok (.ifCond .eq 32, 3) := by decide +kernel
theorem dX7_isFirstLike_22 : decode cX7_isFirstLike 22 = .ok (.iload_n 3, 1) := by decide +kernel
theorem dX7_isFirstLike_23 : decode cX7_isFirstLike 23 = .ok (.iload_n 1, 1) := by decide +kernel
theorem dX7_isFirstLike_24 : decode cX7_isFirstLike 24 = .ok (.if_icmp .eq 27, 3) := by decide +kernel
theorem dX7_isFirstLike_27 : decode cX7_isFirstLike 27 = .ok (.aload_n 0, 1) := by decide +kernel
theorem dX7_isFirstLike_28 : decode cX7_isFirstLike 28 = .ok (.iload_n 3, 1) := by decide +kernel
theorem dX7_isFirstLike_29 : decode cX7_isFirstLike 29 = .ok (.aload_n 2, 1) := by decide +kernel
theorem dX7_isFirstLike_30 : decode cX7_isFirstLike 30 = .ok (.invokevirtual 101, 3) := by decide +kernel
theorem dX7_isFirstLike_33 : decode cX7_isFirstLike 33 = .ok (.ifCond .eq 5, 3) := by decide +kernel
theorem dX7_isFirstLike_36 : decode cX7_isFirstLike 36 = .ok (.iconst 0, 1) := by decide +kernel
theorem dX7_isFirstLike_37 : decode cX7_isFirstLike 37 = .ok (.ireturn, 1) := by decide +kernel
theorem dX7_isFirstLike_38 : decode cX7_isFirstLike 38 = .ok (.aload_n 0, 1) := by decide +kernel
theorem dX7_isFirstLike_39 : decode cX7_isFirstLike 39 = .ok (.iload_n 3, 1) := by decide +kernel
theorem dX7_isFirstLike_40 : decode cX7_isFirstLike 40 = .ok (.iload_n 1, 1) := by decide +kernel
theorem dX7_isFirstLike_41 : decode cX7_isFirstLike 41 = .ok (.invokevirtual 82, 3) := by decide +kernel
theorem dX7_isFirstLike_44 : decode cX7_isFirstLike 44 = .ok (.istore_n 3, 1) := by decide +kernel
theorem dX7_isFirstLike_45 : decode cX7_isFirstLike 45 = .ok (.iinc 4 1, 3) := by decide +kernel
theorem dX7_isFirstLike_48 : decode cX7_isFirstLike 48 = .ok (.goto (-40), 3) := by decide +kernel
theorem dX7_isFirstLike_51 : decode cX7_isFirstLike 51 = .ok (.iload_n 3, 1) := by decide +kernel
theorem dX7_isFirstLike_52 : decode cX7_isFirstLike 52 = .ok (.iload_n 1, 1) := by decide +kernel
theorem dX7_isFirstLike_53 : decode cX7_isFirstLike 53 = .ok (.if_icmp .ne 16, 3) := by decide +kernel
theorem dX7_isFirstLike_56 : decode cX7_isFirstLike 56 = .ok (.aload_n 0, 1) := by decide +kernel
theorem dX7_isFirstLike_57 : decode cX7_isFirstLike 57 = .ok (.iload_n 1, 1) := by decide +kernel
theorem dX7_isFirstLike_58 : decode cX7_isFirstLike 58 = .ok (.aload_n 2, 1) := by decide +kernel
theorem dX7_isFirstLike_59 : decode cX7_isFirstLike 59 = .ok (.invokevirtual 101, 3) := by decide +kernel
theorem dX7_isFirstLike_62 : decode cX7_isFirstLike 62 = .ok (.ifCond .eq 7, 3) := by decide +kernel
theorem dX7_isFirstLike_65 : decode cX7_isFirstLike 65 = .ok (.iconst 1, 1) := by decide +kernel
theorem dX7_isFirstLike_66 : decode cX7_isFirstLike 66 = .ok (.goto 4, 3) := by decide +kernel
theorem dX7_isFirstLike_69 : decode cX7_isFirstLike 69 = .ok (.iconst 0, 1) := by decide +kernel
theorem dX7_isFirstLike_70 : decode cX7_isFirstLike 70 = .ok (.ireturn, 1) := by decide +kernel
theorem dX7_writeProof_0 : decode cX7_writeProof 0 = .ok (.aload 4, 2) := by decide +kernel
theorem dX7_writeProof_2 : decode cX7_writeProof 2 = .ok (.iconst 0, 1) := by decide +kernel
theorem dX7_writeProof_3 : decode cX7_writeProof 3 = .ok (.invokevirtual 105, 3) := by decide +kernel
theorem dX7_writeProof_6 : decode cX7_writeProof 6 = .ok (.aload_n 0, 1) := by decide +kernel
theorem dX7_writeProof_7 : decode cX7_writeProof 7 = .ok (.getfield 34, 3) := by decide +kernel
theorem dX7_writeProof_10 : decode cX7_writeProof 10 = .ok (.invokevirtual 111, 3) := by decide +kernel
theorem dX7_writeProof_13 : decode cX7_writeProof 13 = .ok (.aload_n 0, 1) := by decide +kernel
theorem dX7_writeProof_14 : decode cX7_writeProof 14 = .ok (.getfield 27, 3) := by decide +kernel
theorem dX7_writeProof_17 : decode cX7_writeProof 17 = .ok (.istore 5, 2) := by decide +kernel
theorem dX7_writeProof_19 : decode cX7_writeProof 19 = .ok (.iconst 0, 1) := by decide +kernel
theorem dX7_writeProof_20 : decode cX7_writeProof 20 = .ok (.istore 6, 2) := by decide +kernel
theorem dX7_writeProof_22 : decode cX7_writeProof 22 = .ok (.bipush 99, 2) := by decide +kernel
theorem dX7_writeProof_24 : decode cX7_writeProof 24 = .ok (.istore 7, 2) := by decide +kernel
theorem dX7_writeProof_26 : decode cX7_writeProof 26 = .ok (.iconst 0, 1) := by decide +kernel
theorem dX7_writeProof_27 : decode cX7_writeProof 27 = .ok (.istore 8, 2) := by decide +kernel
theorem dX7_writeProof_29 : decode cX7_writeProof 29 = .ok (.iload 8, 2) := by decide +kernel
theorem dX7_writeProof_31 : decode cX7_writeProof 31 = .ok (.bipush 100, 2) := by decide +kernel
theorem dX7_writeProof_33 : decode cX7_writeProof 33 = .ok (.if_icmp .ge 130, 3) := by decide +kernel
theorem dX7_writeProof_36 : decode cX7_writeProof 36 = .ok (.iload 5, 2) := by decide +kernel
theorem dX7_writeProof_38 : decode cX7_writeProof 38 = .ok (.invokestatic 42, 3) := by decide +kernel
theorem dX7_writeProof_41 : decode cX7_writeProof 41 = .ok (.ifCond .eq 59, 3) := by decide +kernel
theorem dX7_writeProof_44 : decode cX7_writeProof 44 = .ok (.iload 6, 2) := by decide +kernel
theorem dX7_writeProof_46 : decode cX7_writeProof 46 = .ok (.iload_n 3, 1) := by decide +kernel
theorem dX7_writeProof_47 : decode cX7_writeProof 47 = .ok (.if_icmp .gt 53, 3) := by decide +kernel
theorem dX7_writeProof_50 : decode cX7_writeProof 50 = .ok (.iload_n 2, 1) := by decide +kernel
theorem dX7_writeProof_51 : decode cX7_writeProof 51 = .ok (.iload 7, 2) := by decide +kernel
theorem dX7_writeProof_53 : decode cX7_writeProof 53 = .ok (.if_icmp .gt 47, 3) := by decide +kernel
theorem dX7_writeProof_56 : decode cX7_writeProof 56 = .ok (.aload 4, 2) := by decide +kernel
theorem dX7_writeProof_58 : decode cX7_writeProof 58 = .ok (.iload 5, 2) := by decide +kernel
theorem dX7_writeProof_60 : decode cX7_writeProof 60 = .ok (.aload_n 1, 1) := by decide +kernel
theorem dX7_writeProof_61 : decode cX7_writeProof 61 = .ok (.iload 5, 2) := by decide +kernel
theorem dX7_writeProof_63 : decode cX7_writeProof 63 = .ok (.invokevirtual 68, 3) := by decide +kernel
theorem dX7_writeProof_66 : decode cX7_writeProof 66 = .ok (.invokestatic 114, 3) := by decide +kernel
theorem dX7_writeProof_69 : decode cX7_writeProof 69 = .ok (.invokevirtual 117, 3) := by decide +kernel
theorem dX7_writeProof_72 : decode cX7_writeProof 72 = .ok (.aload_n 0, 1) := by decide +kernel
theorem dX7_writeProof_73 : decode cX7_writeProof 73 = .ok (.getfield 34, 3) := by decide +kernel
theorem dX7_writeProof_76 : decode cX7_writeProof 76 = .ok (.iload 5, 2) := by decide +kernel
theorem dX7_writeProof_78 : decode cX7_writeProof 78 = .ok (.iload 7, 2) := by decide +kernel
theorem dX7_writeProof_80 : decode cX7_writeProof 80 = .ok (.invokevirtual 120, 3) := by decide +kernel
theorem dX7_writeProof_83 : decode cX7_writeProof 83 = .ok (.iload 5, 2) := by decide +kernel
theorem dX7_writeProof_85 : decode cX7_writeProof 85 = .ok (.iconst 1, 1) := by decide +kernel
theorem dX7_writeProof_86 : decode cX7_writeProof 86 = .ok (.isub, 1) := by decide +kernel
theorem dX7_writeProof_87 : decode cX7_writeProof 87 = .ok (.istore 7, 2) := by decide +kernel
theorem dX7_writeProof_89 : decode cX7_writeProof 89 = .ok (.aload_n 0, 1) := by decide +kernel
theorem dX7_writeProof_90 : decode cX7_writeProof 90 = .ok (.iload 5, 2) := by decide +kernel
theorem dX7_writeProof_92 : decode cX7_writeProof 92 = .ok (.invokevirtual 76, 3) := by decide +kernel
theorem dX7_writeProof_95 : decode cX7_writeProof 95 = .ok (.istore 5, 2) := by decide +kernel
theorem dX7_writeProof_97 : decode cX7_writeProof 97 = .ok (.goto 60, 3) := by decide +kernel
theorem dX7_writeProof_100 : decode cX7_writeProof 100 = .ok (.aload 4, 2) := by decide +kernel
theorem dX7_writeProof_102 : decode cX7_writeProof 102 = .ok (.aload_n 0, 1) := by decide +kernel
theorem dX7_writeProof_103 : decode cX7_writeProof 103 = .ok (.iload 5, 2) := by decide +kernel
theorem dX7_writeProof_105 : decode cX7_writeProof 105 = .ok (.invokevirtual 98, 3) := by decide +kernel
theorem dX7_writeProof_108 : decode cX7_writeProof 108 = .ok (.invokevirtual 117, 3) := by decide +kernel
theorem dX7_writeProof_111 : decode cX7_writeProof 111 = .ok (.aload_n 0, 1) := by decide +kernel
theorem dX7_writeProof_112 : decode cX7_writeProof 112 = .ok (.getfield 34, 3) := by decide +kernel
theorem dX7_writeProof_115 : decode cX7_writeProof 115 = .ok (.invokevirtual 124, 3) := by decide +kernel
theorem dX7_writeProof_118 : decode cX7_writeProof 118 = .ok (.ifCond .ne 6, 3) := by decide +kernel
theorem dX7_writeProof_121 : decode cX7_writeProof 121 = .ok (.goto 42, 3) := by decide +kernel
theorem dX7_writeProof_124 : decode cX7_writeProof 124 = .ok (.aload_n 0, 1) := by decide +kernel
theorem dX7_writeProof_125 : decode cX7_writeProof 125 = .ok (.aload_n 0, 1) := by decide +kernel
theorem dX7_writeProof_126 : decode cX7_writeProof 126 = .ok (.getfield 34, 3) := by decide +kernel
theorem dX7_writeProof_129 : decode cX7_writeProof 129 = .ok (.invokevirtual 128, 3) := by decide +kernel
theorem dX7_writeProof_132 : decode cX7_writeProof 132 = .ok (.invokevirtual 79, 3) := by decide +kernel
theorem dX7_writeProof_135 : decode cX7_writeProof 135 = .ok (.istore 5, 2) := by decide +kernel
theorem dX7_writeProof_137 : decode cX7_writeProof 137 = .ok (.aload_n 0, 1) := by decide +kernel
theorem dX7_writeProof_138 : decode cX7_writeProof 138 = .ok (.getfield 34, 3) := by decide +kernel
theorem dX7_writeProof_141 : decode cX7_writeProof 141 = .ok (.invokevirtual 128, 3) := by decide +kernel
theorem dX7_writeProof_144 : decode cX7_writeProof 144 = .ok (.iconst 1, 1) := by decide +kernel
theorem dX7_writeProof_145 : decode cX7_writeProof 145 = .ok (.iadd, 1) := by decide +kernel
theorem dX7_writeProof_146 : decode cX7_writeProof 146 = .ok (.istore 6, 2) := by decide +kernel
theorem dX7_writeProof_148 : decode cX7_writeProof 148 = .ok (.aload_n 0, 1) := by decide +kernel
theorem dX7_writeProof_149 : decode cX7_writeProof 149 = .ok (.getfield 34, 3) := by decide +kernel
theorem dX7_writeProof_152 : decode cX7_writeProof 152 = .ok (.invokevirtual 132, 3) := by decide +kernel
theorem dX7_writeProof_155 : decode cX7_writeProof 155 = .ok (.istore 7, 2) := by decide +kernel
theorem dX7_writeProof_157 : decode cX7_writeProof 157 = .ok (.iinc 8 1, 3) := by decide +kernel
theorem dX7_writeProof_160 : decode cX7_writeProof 160 = .ok (.goto (-131), 3) := by decide +kernel
theorem dX7_writeProof_163 : decode cX7_writeProof 163 = .ok (.return_, 1) := by decide +kernel
theorem dX8_init_0 : decode cX8_init 0 = .ok (.aload_n 0, 1) := by decide +kernel
theorem dX8_init_1 : decode cX8_init 1 = .ok (.invokespecial 3, 3) := by decide +kernel
theorem dX8_init_4 : decode cX8_init 4 = .ok (.aload_n 0, 1) := by decide +kernel
theorem dX8_init_5 : decode cX8_init 5 = .ok (.new 9, 3) := by decide +kernel
theorem dX8_init_8 : decode cX8_init 8 = .ok (.dup, 1) := by decide +kernel
theorem dX8_init_9 : decode cX8_init 9 = .ok (.invokespecial 11, 3) := by decide +kernel
theorem dX8_init_12 : decode cX8_init 12 = .ok (.putfield 12, 3) := by decide +kernel
theorem dX8_init_15 : decode cX8_init 15 = .ok (.aload_n 0, 1) := by decide +kernel
theorem dX8_init_16 : decode cX8_init 16 = .ok (.new 16, 3) := by decide +kernel
theorem dX8_init_19 : decode cX8_init 19 = .ok (.dup, 1) := by decide +kernel
theorem dX8_init_20 : decode cX8_init 20 = .ok (.invokespecial 18, 3) := by decide +kernel
theorem dX8_init_23 : decode cX8_init 23 = .ok (.putfield 19, 3) := by decide +kernel
theorem dX8_init_26 : decode cX8_init 26 = .ok (.aload_n 0, 1) := by decide +kernel
theorem dX8_init_27 : decode cX8_init 27 = .ok (.new 23, 3) := by decide +kernel
theorem dX8_init_30 : decode cX8_init 30 = .ok (.dup, 1) := by decide +kernel
theorem dX8_init_31 : decode cX8_init 31 = .ok (.invokespecial 25, 3) := by decide +kernel
theorem dX8_init_34 : decode cX8_init 34 = .ok (.putfield 26, 3) := by decide +kernel
theorem dX8_init_37 : decode cX8_init 37 = .ok (.aload_n 0, 1) := by decide +kernel
theorem dX8_init_38 : decode cX8_init 38 = .ok (.new 30, 3) := by decide +kernel
theorem dX8_init_41 : decode cX8_init 41 = .ok (.dup, 1) := by decide +kernel
theorem dX8_init_42 : decode cX8_init 42 = .ok (.invokespecial 32, 3) := by decide +kernel
theorem dX8_init_45 : decode cX8_init 45 = .ok (.putfield 33, 3) := by decide +kernel
theorem dX8_init_48 : decode cX8_init 48 = .ok (.aload_n 0, 1) := by decide +kernel
theorem dX8_init_49 : decode cX8_init 49 = .ok (.iconst 2, 1) := by decide +kernel
theorem dX8_init_50 : decode cX8_init 50 = .ok (.anewarray 37, 3) := by decide +kernel
theorem dX8_init_53 : decode cX8_init 53 = .ok (.putfield 39, 3) := by decide +kernel
theorem dX8_init_56 : decode cX8_init 56 = .ok (.aload_n 0, 1) := by decide +kernel
theorem dX8_init_57 : decode cX8_init 57 = .ok (.new 9, 3) := by decide +kernel
theorem dX8_init_60 : decode cX8_init 60 = .ok (.dup, 1) := by decide +kernel
theorem dX8_init_61 : decode cX8_init 61 = .ok (.invokespecial 11, 3) := by decide +kernel
theorem dX8_init_64 : decode cX8_init 64 = .ok (.putfield 43, 3) := by decide +kernel
theorem dX8_init_67 : decode cX8_init 67 = .ok (.aload_n 0, 1) := by decide +kernel
theorem dX8_init_68 : decode cX8_init 68 = .ok (.new 16, 3) := by decide +kernel
theorem dX8_init_71 : decode cX8_init 71 = .ok (.dup, 1) := by decide +kernel
theorem dX8_init_72 : decode cX8_init 72 = .ok (.invokespecial 18, 3) := by decide +kernel
theorem dX8_init_75 : decode cX8_init 75 = .ok (.putfield 46, 3) := by decide +kernel
theorem dX8_init_78 : decode cX8_init 78 = .ok (.aload_n 0, 1) := by decide +kernel
theorem dX8_init_79 : decode cX8_init 79 = .ok (.new 49, 3) := by decide +kernel
theorem dX8_init_82 : decode cX8_init 82 = .ok (.dup, 1) := by decide +kernel
theorem dX8_init_83 : decode cX8_init 83 = .ok (.invokespecial 51, 3) := by decide +kernel
theorem dX8_init_86 : decode cX8_init 86 = .ok (.putfield 52, 3) := by decide +kernel
theorem dX8_init_89 : decode cX8_init 89 = .ok (.iconst 0, 1) := by decide +kernel
theorem dX8_init_90 : decode cX8_init 90 = .ok (.istore_n 1, 1) := by decide +kernel
theorem dX8_init_91 : decode cX8_init 91 = .ok (.iload_n 1, 1) := by decide +kernel
theorem dX8_init_92 : decode cX8_init 92 = .ok (.iconst 2, 1) := by decide +kernel
theorem dX8_init_93 : decode cX8_init 93 = .ok (.if_icmp .ge 22, 3) := by decide +kernel
theorem dX8_init_96 : decode cX8_init 96 = .ok (.aload_n 0, 1) := by decide +kernel
theorem dX8_init_97 : decode cX8_init 97 = .ok (.getfield 39, 3) := by decide +kernel
theorem dX8_init_100 : decode cX8_init 100 = .ok (.iload_n 1, 1) := by decide +kernel
theorem dX8_init_101 : decode cX8_init 101 = .ok (.new 37, 3) := by decide +kernel
theorem dX8_init_104 : decode cX8_init 104 = .ok (.dup, 1) := by decide +kernel
theorem dX8_init_105 : decode cX8_init 105 = .ok (.invokespecial 56, 3) := by decide +kernel
theorem dX8_init_108 : decode cX8_init 108 = .ok (.aastore, 1) := by decide +kernel
theorem dX8_init_109 : decode cX8_init 109 = .ok (.iinc 1 1, 3) := by decide +kernel
theorem dX8_init_112 : decode cX8_init 112 = .ok (.goto (-21), 3) := by decide +kernel
theorem dX8_init_115 : decode cX8_init 115 = .ok (.return_, 1) := by decide +kernel
theorem dX8_put_0 : decode cX8_put 0 = .ok (.iload_n 1, 1) := by decide +kernel
theorem dX8_put_1 : decode cX8_put 1 = .ok (.invokestatic 57, 3) := by decide +kernel
theorem dX8_put_4 : decode cX8_put 4 = .ok (.ifCond .eq 10, 3) := by decide +kernel
theorem dX8_put_7 : decode cX8_put 7 = .ok (.iload_n 2, 1) := by decide +kernel
theorem dX8_put_8 : decode cX8_put 8 = .ok (.invokestatic 57, 3) := by decide +kernel
theorem dX8_put_11 : decode cX8_put 11 = .ok (.ifCond .ne 6, 3) := by decide +kernel
theorem dX8_put_14 : decode cX8_put 14 = .ok (.bipush (-2), 2) := by decide +kernel
theorem dX8_put_16 : decode cX8_put 16 = .ok (.ireturn, 1) := by decide +kernel
theorem dX8_put_17 : decode cX8_put 17 = .ok (.aload_n 0, 1) := by decide +kernel
theorem dX8_put_18 : decode cX8_put 18 = .ok (.getfield 12, 3) := by decide +kernel
theorem dX8_put_21 : decode cX8_put 21 = .ok (.iload_n 1, 1) := by decide +kernel
theorem dX8_put_22 : decode cX8_put 22 = .ok (.invokevirtual 61, 3) := by decide +kernel
theorem dX8_put_25 : decode cX8_put 25 = .ok (.ifCond .ne 6, 3) := by decide +kernel
theorem dX8_put_28 : decode cX8_put 28 = .ok (.bipush (-4), 2) := by decide +kernel
theorem dX8_put_30 : decode cX8_put 30 = .ok (.ireturn, 1) := by decide +kernel
theorem dX8_put_31 : decode cX8_put 31 = .ok (.aload_n 0, 1) := by decide +kernel
theorem dX8_put_32 : decode cX8_put 32 = .ok (.getfield 12, 3) := by decide +kernel
theorem dX8_put_35 : decode cX8_put 35 = .ok (.iload_n 1, 1) := by decide +kernel
theorem dX8_put_36 : decode cX8_put 36 = .ok (.invokevirtual 64, 3) := by decide +kernel
theorem dX8_put_39 : decode cX8_put 39 = .ok (.istore_n 3, 1) := by decide +kernel
theorem dX8_put_40 : decode cX8_put 40 = .ok (.aload_n 0, 1) := by decide +kernel
theorem dX8_put_41 : decode cX8_put 41 = .ok (.getfield 26, 3) := by decide +kernel
theorem dX8_put_44 : decode cX8_put 44 = .ok (.aload_n 0, 1) := by decide +kernel
theorem dX8_put_45 : decode cX8_put 45 = .ok (.getfield 12, 3) := by decide +kernel
theorem dX8_put_48 : decode cX8_put 48 = .ok (.invokevirtual 68, 3) := by decide +kernel
theorem dX8_put_51 : decode cX8_put 51 = .ok (.aload_n 0, 1) := by decide +kernel
theorem dX8_put_52 : decode cX8_put 52 = .ok (.getfield 12, 3) := by decide +kernel
theorem dX8_put_55 : decode cX8_put 55 = .ok (.iload_n 1, 1) := by decide +kernel
theorem dX8_put_56 : decode cX8_put 56 = .ok (.iload_n 2, 1) := by decide +kernel
theorem dX8_put_57 : decode cX8_put 57 = .ok (.invokevirtual 72, 3) := by decide +kernel
theorem dX8_put_60 : decode cX8_put 60 = .ok (.aload_n 0, 1) := by decide +kernel
theorem dX8_put_61 : decode cX8_put 61 = .ok (.getfield 19, 3) := by decide +kernel
theorem dX8_put_64 : decode cX8_put 64 = .ok (.aload_n 0, 1) := by decide +kernel
theorem dX8_put_65 : decode cX8_put 65 = .ok (.getfield 12, 3) := by decide +kernel
theorem dX8_put_68 : decode cX8_put 68 = .ok (.invokevirtual 76, 3) := by decide +kernel
theorem dX8_put_71 : decode cX8_put 71 = .ok (.iload_n 3, 1) := by decide +kernel
theorem dX8_put_72 : decode cX8_put 72 = .ok (.ireturn, 1) := by decide +kernel
theorem dX8_remove_0 : decode cX8_remove 0 = .ok (.iload_n 1, 1) := by decide +kernel
theorem dX8_remove_1 : decode cX8_remove 1 = .ok (.invokestatic 57, 3) := by decide +kernel
theorem dX8_remove_4 : decode cX8_remove 4 = .ok (.ifCond .ne 6, 3) := by decide +kernel
theorem dX8_remove_7 : decode cX8_remove 7 = .ok (.bipush (-2), 2) := by decide +kernel
theorem dX8_remove_9 : decode cX8_remove 9 = .ok (.ireturn, 1) := by decide +kernel
theorem dX8_remove_10 : decode cX8_remove 10 = .ok (.aload_n 0, 1) := by decide +kernel
theorem dX8_remove_11 : decode cX8_remove 11 = .ok (.getfield 12, 3) := by decide +kernel
theorem dX8_remove_14 : decode cX8_remove 14 = .ok (.iload_n 1, 1) := by decide +kernel
theorem dX8_remove_15 : decode cX8_remove 15 = .ok (.invokevirtual 79, 3) := by decide +kernel
theorem dX8_remove_18 : decode cX8_remove 18 = .ok (.ifCond .ne 5, 3) := by decide +kernel
theorem dX8_remove_21 : decode cX8_remove 21 = .ok (.iconst (-1), 1) := by decide +kernel
theorem dX8_remove_22 : decode cX8_remove 22 = .ok (.ireturn, 1) := by decide +kernel
theorem dX8_remove_23 : decode cX8_remove 23 = .ok (.aload_n 0, 1) := by decide +kernel
theorem dX8_remove_24 : decode cX8_remove 24 = .ok (.getfield 12, 3) := by decide +kernel
theorem dX8_remove_27 : decode cX8_remove 27 = .ok (.iload_n 1, 1) := by decide +kernel
theorem dX8_remove_28 : decode cX8_remove 28 = .ok (.invokevirtual 64, 3) := by decide +kernel
theorem dX8_remove_31 : decode cX8_remove 31 = .ok (.istore_n 2, 1) := by decide +kernel
theorem dX8_remove_32 : decode cX8_remove 32 = .ok (.aload_n 0, 1) := by decide +kernel
theorem dX8_remove_33 : decode cX8_remove 33 = .ok (.getfield 26, 3) := by decide +kernel
theorem dX8_remove_36 : decode cX8_remove 36 = .ok (.aload_n 0, 1) := by decide +kernel
theorem dX8_remove_37 : decode cX8_remove 37 = .ok (.getfield 12, 3) := by decide +kernel
theorem dX8_remove_40 : decode cX8_remove 40 = .ok (.invokevirtual 68, 3) := by decide +kernel
theorem dX8_remove_43 : decode cX8_remove 43 = .ok (.aload_n 0, 1) := by decide +kernel
theorem dX8_remove_44 : decode cX8_remove 44 = .ok (.getfield 12, 3) := by decide +kernel
theorem dX8_remove_47 : decode cX8_remove 47 = .ok (.iload_n 1, 1) := by decide +kernel
theorem dX8_remove_48 : decode cX8_remove 48 = .ok (.invokevirtual 82, 3) := by decide +kernel
theorem dX8_remove_51 : decode cX8_remove 51 = .ok (.aload_n 0, 1) := by decide +kernel
theorem dX8_remove_52 : decode cX8_remove 52 = .ok (.getfield 19, 3) := by decide +kernel
theorem dX8_remove_55 : decode cX8_remove 55 = .ok (.aload_n 0, 1) := by decide +kernel
theorem dX8_remove_56 : decode cX8_remove 56 = .ok (.getfield 12, 3) := by decide +kernel
theorem dX8_remove_59 : decode cX8_remove 59 = .ok (.invokevirtual 76, 3) := by decide +kernel
theorem dX8_remove_62 : decode cX8_remove 62 = .ok (.iload_n 2, 1) := by decide +kernel
theorem dX8_remove_63 : decode cX8_remove 63 = .ok (.ireturn, 1) := by decide +kernel
theorem dX8_get_0 : decode cX8_get 0 = .ok (.iload_n 1, 1) := by decide +kernel
theorem dX8_get_1 : decode cX8_get 1 = .ok (.invokestatic 57, 3) := by decide +kernel
theorem dX8_get_4 : decode cX8_get 4 = .ok (.ifCond .eq 14, 3) := by decide +kernel
theorem dX8_get_7 : decode cX8_get 7 = .ok (.aload_n 0, 1) := by decide +kernel
theorem dX8_get_8 : decode cX8_get 8 = .ok (.getfield 12, 3) := by decide +kernel
theorem dX8_get_11 : decode cX8_get 11 = .ok (.iload_n 1, 1) := by decide +kernel
theorem dX8_get_12 : decode cX8_get 12 = .ok (.invokevirtual 64, 3) := by decide +kernel
theorem dX8_get_15 : decode cX8_get 15 = .ok (.goto 5, 3) := by decide +kernel
theorem dX8_get_18 : decode cX8_get 18 = .ok (.bipush (-2), 2) := by decide +kernel
theorem dX8_get_20 : decode cX8_get 20 = .ok (.ireturn, 1) := by decide +kernel
end
section
theorem dX8_scatter_0 : decode cX8_scatter 0 = .ok (.iload_n 1, 1) := by decide +kernel
theorem dX8_scatter_1 : decode cX8_scatter 1 = .ok (.iconst 1, 1) := by decide +kernel
theorem dX8_scatter_2 : decode cX8_scatter 2 = .ok (.if_icmp .lt 9, 3) := by decide +kernel
theorem dX8_scatter_5 : decode cX8_scatter 5 = .ok (.iload_n 1, 1) := by decide +kernel
theorem dX8_scatter_6 : decode cX8_scatter 6 = .ok (.bipush 20, 2) := by decide +kernel
theorem dX8_scatter_8 : decode cX8_scatter 8 = .ok (.if_icmp .le 6, 3) := by decide +kernel
theorem dX8_scatter_11 : decode cX8_scatter 11 = .ok (.bipush (-2), 2) := by decide +kernel
theorem dX8_scatter_13 : decode cX8_scatter 13 = .ok (.ireturn, 1) := by decide +kernel
theorem dX8_scatter_14 : decode cX8_scatter 14 = .ok (.aload_n 0, 1) := by decide +kernel
theorem dX8_scatter_15 : decode cX8_scatter 15 = .ok (.getfield 26, 3) := by decide +kernel
theorem dX8_scatter_18 : decode cX8_scatter 18 = .ok (.aload_n 0, 1) := by decide +kernel
theorem dX8_scatter_19 : decode cX8_scatter 19 = .ok (.getfield 12, 3) := by decide +kernel
theorem dX8_scatter_22 : decode cX8_scatter 22 = .ok (.invokevirtual 68, 3) := by decide +kernel
theorem dX8_scatter_25 : decode cX8_scatter 25 = .ok (.lload_n 2, 1) := by decide +kernel
theorem dX8_scatter_26 : decode cX8_scatter 26 = .ok (.lstore 4, 2) := by decide +kernel
theorem dX8_scatter_28 : decode cX8_scatter 28 = .ok (.iconst 0, 1) := by decide +kernel
theorem dX8_scatter_29 : decode cX8_scatter 29 = .ok (.istore 6, 2) := by decide +kernel
theorem dX8_scatter_31 : decode cX8_scatter 31 = .ok (.iload 6, 2) := by decide +kernel
theorem dX8_scatter_33 : decode cX8_scatter 33 = .ok (.iload_n 1, 1) := by decide +kernel
theorem dX8_scatter_34 : decode cX8_scatter 34 = .ok (.if_icmp .ge 66, 3) := by decide +kernel
theorem dX8_scatter_37 : decode cX8_scatter 37 = .ok (.lload 4, 2) := by decide +kernel
theorem dX8_scatter_39 : decode cX8_scatter 39 = .ok (.ldc2_w 86, 3) := by decide +kernel
theorem dX8_scatter_42 : decode cX8_scatter 42 = .ok (.lmul, 1) := by decide +kernel
theorem dX8_scatter_43 : decode cX8_scatter 43 = .ok (.ldc2_w 88, 3) := by decide +kernel
theorem dX8_scatter_46 : decode cX8_scatter 46 = .ok (.ladd, 1) := by decide +kernel
theorem dX8_scatter_47 : decode cX8_scatter 47 = .ok (.lstore 4, 2) := by decide +kernel
theorem dX8_scatter_49 : decode cX8_scatter 49 = .ok (.lload 4, 2) := by decide +kernel
theorem dX8_scatter_51 : decode cX8_scatter 51 = .ok (.bipush 33, 2) := by decide +kernel
theorem dX8_scatter_53 : decode cX8_scatter 53 = .ok (.lushr, 1) := by decide +kernel
theorem dX8_scatter_54 : decode cX8_scatter 54 = .ok (.l2i, 1) := by decide +kernel
theorem dX8_scatter_55 : decode cX8_scatter 55 = .ok (.istore 7, 2) := by decide +kernel
theorem dX8_scatter_57 : decode cX8_scatter 57 = .ok (.iload 7, 2) := by decide +kernel
theorem dX8_scatter_59 : decode cX8_scatter 59 = .ok (.bipush 100, 2) := by decide +kernel
theorem dX8_scatter_61 : decode cX8_scatter 61 = .ok (.irem, 1) := by decide +kernel
theorem dX8_scatter_62 : decode cX8_scatter 62 = .ok (.istore 8, 2) := by decide +kernel
theorem dX8_scatter_64 : decode cX8_scatter 64 = .ok (.aload_n 0, 1) := by decide +kernel
theorem dX8_scatter_65 : decode cX8_scatter 65 = .ok (.getfield 12, 3) := by decide +kernel
theorem dX8_scatter_68 : decode cX8_scatter 68 = .ok (.iload 8, 2) := by decide +kernel
theorem dX8_scatter_70 : decode cX8_scatter 70 = .ok (.invokevirtual 61, 3) := by decide +kernel
theorem dX8_scatter_73 : decode cX8_scatter 73 = .ok (.ifCond .eq 21, 3) := by decide +kernel
theorem dX8_scatter_76 : decode cX8_scatter 76 = .ok (.aload_n 0, 1) := by decide +kernel
theorem dX8_scatter_77 : decode cX8_scatter 77 = .ok (.getfield 12, 3) := by decide +kernel
theorem dX8_scatter_80 : decode cX8_scatter 80 = .ok (.iload 8, 2) := by decide +kernel
theorem dX8_scatter_82 : decode cX8_scatter 82 = .ok (.iload 7, 2) := by decide +kernel
theorem dX8_scatter_84 : decode cX8_scatter 84 = .ok (.sipush 128, 3) := by decide +kernel
theorem dX8_scatter_87 : decode cX8_scatter 87 = .ok (.idiv, 1) := by decide +kernel
theorem dX8_scatter_88 : decode cX8_scatter 88 = .ok (.bipush 100, 2) := by decide +kernel
theorem dX8_scatter_90 : decode cX8_scatter 90 = .ok (.irem, 1) := by decide +kernel
theorem dX8_scatter_91 : decode cX8_scatter 91 = .ok (.invokevirtual 72, 3) := by decide +kernel
theorem dX8_scatter_94 : decode cX8_scatter 94 = .ok (.iinc 6 1, 3) := by decide +kernel
theorem dX8_scatter_97 : decode cX8_scatter 97 = .ok (.goto (-66), 3) := by decide +kernel
theorem dX8_scatter_100 : decode cX8_scatter 100 = .ok (.aload_n 0, 1) := by decide +kernel
theorem dX8_scatter_101 : decode cX8_scatter 101 = .ok (.getfield 19, 3) := by decide +kernel
theorem dX8_scatter_104 : decode cX8_scatter 104 = .ok (.aload_n 0, 1) := by decide +kernel
theorem dX8_scatter_105 : decode cX8_scatter 105 = .ok (.getfield 12, 3) := by decide +kernel
theorem dX8_scatter_108 : decode cX8_scatter 108 = .ok (.invokevirtual 76, 3) := by decide +kernel
theorem dX8_scatter_111 : decode cX8_scatter 111 = .ok (.aload_n 0, 1) := by decide +kernel
theorem dX8_scatter_112 : decode cX8_scatter 112 = .ok (.getfield 12, 3) := by decide +kernel
theorem dX8_scatter_115 : decode cX8_scatter 115 = .ok (.invokevirtual 90, 3) := by decide +kernel
theorem dX8_scatter_118 : decode cX8_scatter 118 = .ok (.ireturn, 1) := by decide +kernel
theorem dX8_undo_0 : decode cX8_undo 0 = .ok (.aload_n 0, 1) := by decide +kernel
theorem dX8_undo_1 : decode cX8_undo 1 = .ok (.getfield 26, 3) := by decide +kernel
theorem dX8_undo_4 : decode cX8_undo 4 = .ok (.invokevirtual 94, 3) := by decide +kernel
theorem dX8_undo_7 : decode cX8_undo 7 = .ok (.ifCond .ne 6, 3) := by decide +kernel
theorem dX8_undo_10 : decode cX8_undo 10 = .ok (.bipush (-3), 2) := by decide +kernel
theorem dX8_undo_12 : decode cX8_undo 12 = .ok (.ireturn, 1) := by decide +kernel
theorem dX8_undo_13 : decode cX8_undo 13 = .ok (.aload_n 0, 1) := by decide +kernel
theorem dX8_undo_14 : decode cX8_undo 14 = .ok (.getfield 26, 3) := by decide +kernel
theorem dX8_undo_17 : decode cX8_undo 17 = .ok (.aload_n 0, 1) := by decide +kernel
theorem dX8_undo_18 : decode cX8_undo 18 = .ok (.getfield 12, 3) := by decide +kernel
theorem dX8_undo_21 : decode cX8_undo 21 = .ok (.invokevirtual 95, 3) := by decide +kernel
theorem dX8_undo_24 : decode cX8_undo 24 = .ok (.aload_n 0, 1) := by decide +kernel
theorem dX8_undo_25 : decode cX8_undo 25 = .ok (.getfield 19, 3) := by decide +kernel
theorem dX8_undo_28 : decode cX8_undo 28 = .ok (.aload_n 0, 1) := by decide +kernel
theorem dX8_undo_29 : decode cX8_undo 29 = .ok (.getfield 12, 3) := by decide +kernel
theorem dX8_undo_32 : decode cX8_undo 32 = .ok (.invokevirtual 76, 3) := by decide +kernel
theorem dX8_undo_35 : decode cX8_undo 35 = .ok (.aload_n 0, 1) := by decide +kernel
theorem dX8_undo_36 : decode cX8_undo 36 = .ok (.getfield 26, 3) := by decide +kernel
theorem dX8_undo_39 : decode cX8_undo 39 = .ok (.invokevirtual 94, 3) := by decide +kernel
theorem dX8_undo_42 : decode cX8_undo 42 = .ok (.ireturn, 1) := by decide +kernel
theorem dX8_about_0 : decode cX8_about 0 = .ok (.iload_n 1, 1) := by decide +kernel
theorem dX8_about_1 : decode cX8_about 1 = .ok (.tableswitch 117 0 7 #[47, 55, 63, 71, 82, 90, 101, 109], 47) := by decide +kernel
theorem dX8_about_48 : decode cX8_about 48 = .ok (.aload_n 0, 1) := by decide +kernel
theorem dX8_about_49 : decode cX8_about 49 = .ok (.getfield 12, 3) := by decide +kernel
theorem dX8_about_52 : decode cX8_about 52 = .ok (.invokevirtual 90, 3) := by decide +kernel
theorem dX8_about_55 : decode cX8_about 55 = .ok (.ireturn, 1) := by decide +kernel
theorem dX8_about_56 : decode cX8_about 56 = .ok (.aload_n 0, 1) := by decide +kernel
theorem dX8_about_57 : decode cX8_about 57 = .ok (.getfield 19, 3) := by decide +kernel
theorem dX8_about_60 : decode cX8_about 60 = .ok (.invokevirtual 98, 3) := by decide +kernel
theorem dX8_about_63 : decode cX8_about 63 = .ok (.ireturn, 1) := by decide +kernel
theorem dX8_about_64 : decode cX8_about 64 = .ok (.aload_n 0, 1) := by decide +kernel
theorem dX8_about_65 : decode cX8_about 65 = .ok (.getfield 19, 3) := by decide +kernel
theorem dX8_about_68 : decode cX8_about 68 = .ok (.invokevirtual 101, 3) := by decide +kernel
theorem dX8_about_71 : decode cX8_about 71 = .ok (.ireturn, 1) := by decide +kernel
theorem dX8_about_72 : decode cX8_about 72 = .ok (.aload_n 0, 1) := by decide +kernel
theorem dX8_about_73 : decode cX8_about 73 = .ok (.getfield 12, 3) := by decide +kernel
theorem dX8_about_76 : decode cX8_about 76 = .ok (.iconst 0, 1) := by decide +kernel
theorem dX8_about_77 : decode cX8_about 77 = .ok (.bipush 99, 2) := by decide +kernel
theorem dX8_about_79 : decode cX8_about 79 = .ok (.invokevirtual 104, 3) := by decide +kernel
theorem dX8_about_82 : decode cX8_about 82 = .ok (.ireturn, 1) := by decide +kernel
theorem dX8_about_83 : decode cX8_about 83 = .ok (.aload_n 0, 1) := by decide +kernel
theorem dX8_about_84 : decode cX8_about 84 = .ok (.getfield 26, 3) := by decide +kernel
theorem dX8_about_87 : decode cX8_about 87 = .ok (.invokevirtual 94, 3) := by decide +kernel
theorem dX8_about_90 : decode cX8_about 90 = .ok (.ireturn, 1) := by decide +kernel
theorem dX8_about_91 : decode cX8_about 91 = .ok (.aload_n 0, 1) := by decide +kernel
theorem dX8_about_92 : decode cX8_about 92 = .ok (.getfield 33, 3) := by decide +kernel
theorem dX8_about_95 : decode cX8_about 95 = .ok (.invokevirtual 108, 3) := by decide +kernel
theorem dX8_about_98 : decode cX8_about 98 = .ok (.invokevirtual 112, 3) := by decide +kernel
theorem dX8_about_101 : decode cX8_about 101 = .ok (.ireturn, 1) := by decide +kernel
theorem dX8_about_102 : decode cX8_about 102 = .ok (.aload_n 0, 1) := by decide +kernel
theorem dX8_about_103 : decode cX8_about 103 = .ok (.getfield 33, 3) := by decide +kernel
theorem dX8_about_106 : decode cX8_about 106 = .ok (.invokevirtual 113, 3) := by decide +kernel
theorem dX8_about_109 : decode cX8_about 109 = .ok (.ireturn, 1) := by decide +kernel
theorem dX8_about_110 : decode cX8_about 110 = .ok (.aload_n 0, 1) := by decide +kernel
theorem dX8_about_111 : decode cX8_about 111 = .ok (.getfield 33, 3) := by decide +kernel
theorem dX8_about_114 : decode cX8_about 114 = .ok (.invokevirtual 116, 3) := by decide +kernel
theorem dX8_about_117 : decode cX8_about 117 = .ok (.ireturn, 1) := by decide +kernel
theorem dX8_about_118 : decode cX8_about 118 = .ok (.bipush (-2), 2) := by decide +kernel
theorem dX8_about_120 : decode cX8_about 120 = .ok (.ireturn, 1) := by decide +kernel
theorem dX8_node_0 : decode cX8_node 0 = .ok (.aload_n 0, 1) := by decide +kernel
theorem dX8_node_1 : decode cX8_node 1 = .ok (.getfield 12, 3) := by decide +kernel
theorem dX8_node_4 : decode cX8_node 4 = .ok (.iload_n 1, 1) := by decide +kernel
theorem dX8_node_5 : decode cX8_node 5 = .ok (.invokevirtual 79, 3) := by decide +kernel
theorem dX8_node_8 : decode cX8_node 8 = .ok (.ifCond .ne 5, 3) := by decide +kernel
theorem dX8_node_11 : decode cX8_node 11 = .ok (.iconst (-1), 1) := by decide +kernel
theorem dX8_node_12 : decode cX8_node 12 = .ok (.ireturn, 1) := by decide +kernel
theorem dX8_node_13 : decode cX8_node 13 = .ok (.aload_n 0, 1) := by decide +kernel
theorem dX8_node_14 : decode cX8_node 14 = .ok (.getfield 19, 3) := by decide +kernel
theorem dX8_node_17 : decode cX8_node 17 = .ok (.iload_n 1, 1) := by decide +kernel
theorem dX8_node_18 : decode cX8_node 18 = .ok (.invokevirtual 119, 3) := by decide +kernel
theorem dX8_node_21 : decode cX8_node 21 = .ok (.astore_n 3, 1) := by decide +kernel
theorem dX8_node_22 : decode cX8_node 22 = .ok (.iload_n 2, 1) := by decide +kernel
theorem dX8_node_23 : decode cX8_node 23 = .ok (.tableswitch 108 0 7 #[45, 50, 55, 64, 73, 89, 98, 103], 45) := by decide +kernel
theorem dX8_node_68 : decode cX8_node 68 = .ok (.aload_n 3, 1) := by decide +kernel
theorem dX8_node_69 : decode cX8_node 69 = .ok (.getfield 123, 3) := by decide +kernel
theorem dX8_node_72 : decode cX8_node 72 = .ok (.ireturn, 1) := by decide +kernel
theorem dX8_node_73 : decode cX8_node 73 = .ok (.aload_n 3, 1) := by decide +kernel
theorem dX8_node_74 : decode cX8_node 74 = .ok (.getfield 129, 3) := by decide +kernel
theorem dX8_node_77 : decode cX8_node 77 = .ok (.ireturn, 1) := by decide +kernel
theorem dX8_node_78 : decode cX8_node 78 = .ok (.aload_n 0, 1) := by decide +kernel
theorem dX8_node_79 : decode cX8_node 79 = .ok (.getfield 19, 3) := by decide +kernel
theorem dX8_node_82 : decode cX8_node 82 = .ok (.iload_n 1, 1) := by decide +kernel
theorem dX8_node_83 : decode cX8_node 83 = .ok (.invokevirtual 132, 3) := by decide +kernel
theorem dX8_node_86 : decode cX8_node 86 = .ok (.ireturn, 1) := by decide +kernel
theorem dX8_node_87 : decode cX8_node 87 = .ok (.aload_n 0, 1) := by decide +kernel
theorem dX8_node_88 : decode cX8_node 88 = .ok (.getfield 19, 3) := by decide +kernel
theorem dX8_node_91 : decode cX8_node 91 = .ok (.iload_n 1, 1) := by decide +kernel
theorem dX8_node_92 : decode cX8_node 92 = .ok (.invokevirtual 135, 3) := by decide +kernel
theorem dX8_node_95 : decode cX8_node 95 = .ok (.ireturn, 1) := by decide +kernel
theorem dX8_node_96 : decode cX8_node 96 = .ok (.aload_n 0, 1) := by decide +kernel
theorem dX8_node_97 : decode cX8_node 97 = .ok (.getfield 12, 3) := by decide +kernel
theorem dX8_node_100 : decode cX8_node 100 = .ok (.aload_n 3, 1) := by decide +kernel
theorem dX8_node_101 : decode cX8_node 101 = .ok (.getfield 138, 3) := by decide +kernel
theorem dX8_node_104 : decode cX8_node 104 = .ok (.aload_n 3, 1) := by decide +kernel
theorem dX8_node_105 : decode cX8_node 105 = .ok (.getfield 141, 3) := by decide +kernel
theorem dX8_node_108 : decode cX8_node 108 = .ok (.invokevirtual 144, 3) := by decide +kernel
theorem dX8_node_111 : decode cX8_node 111 = .ok (.ireturn, 1) := by decide +kernel
theorem dX8_node_112 : decode cX8_node 112 = .ok (.aload_n 0, 1) := by decide +kernel
theorem dX8_node_113 : decode cX8_node 113 = .ok (.getfield 19, 3) := by decide +kernel
theorem dX8_node_116 : decode cX8_node 116 = .ok (.iload_n 1, 1) := by decide +kernel
theorem dX8_node_117 : decode cX8_node 117 = .ok (.invokevirtual 147, 3) := by decide +kernel
theorem dX8_node_120 : decode cX8_node 120 = .ok (.ireturn, 1) := by decide +kernel
theorem dX8_node_121 : decode cX8_node 121 = .ok (.aload_n 3, 1) := by decide +kernel
theorem dX8_node_122 : decode cX8_node 122 = .ok (.getfield 138, 3) := by decide +kernel
theorem dX8_node_125 : decode cX8_node 125 = .ok (.ireturn, 1) := by decide +kernel
theorem dX8_node_126 : decode cX8_node 126 = .ok (.aload_n 3, 1) := by decide +kernel
theorem dX8_node_127 : decode cX8_node 127 = .ok (.getfield 141, 3) := by decide +kernel
theorem dX8_node_130 : decode cX8_node 130 = .ok (.ireturn, 1) := by decide +kernel
theorem dX8_node_131 : decode cX8_node 131 = .ok (.bipush (-2), 2) := by decide +kernel
theorem dX8_node_133 : decode cX8_node 133 = .ok (.ireturn, 1) := by decide +kernel
theorem dX8_rank_0 : decode cX8_rank 0 = .ok (.iload_n 1, 1) := by decide +kernel
theorem dX8_rank_1 : decode cX8_rank 1 = .ok (.invokestatic 57, 3) := by decide +kernel
theorem dX8_rank_4 : decode cX8_rank 4 = .ok (.ifCond .eq 10, 3) := by decide +kernel
theorem dX8_rank_7 : decode cX8_rank 7 = .ok (.iload_n 1, 1) := by decide +kernel
theorem dX8_rank_8 : decode cX8_rank 8 = .ok (.invokestatic 150, 3) := by decide +kernel
theorem dX8_rank_11 : decode cX8_rank 11 = .ok (.goto 5, 3) := by decide +kernel
theorem dX8_rank_14 : decode cX8_rank 14 = .ok (.bipush (-2), 2) := by decide +kernel
theorem dX8_rank_16 : decode cX8_rank 16 = .ok (.ireturn, 1) := by decide +kernel
theorem dX8_proof_0 : decode cX8_proof 0 = .ok (.iload_n 1, 1) := by decide +kernel
theorem dX8_proof_1 : decode cX8_proof 1 = .ok (.iload_n 2, 1) := by decide +kernel
theorem dX8_proof_2 : decode cX8_proof 2 = .ok (.invokestatic 153, 3) := by decide +kernel
theorem dX8_proof_5 : decode cX8_proof 5 = .ok (.ifCond .eq 12, 3) := by decide +kernel
theorem dX8_proof_8 : decode cX8_proof 8 = .ok (.iload_n 3, 1) := by decide +kernel
theorem dX8_proof_9 : decode cX8_proof 9 = .ok (.ifCond .lt 8, 3) := by decide +kernel
theorem dX8_proof_12 : decode cX8_proof 12 = .ok (.iload_n 3, 1) := by decide +kernel
theorem dX8_proof_13 : decode cX8_proof 13 = .ok (.iconst 2, 1) := by decide +kernel
theorem dX8_proof_14 : decode cX8_proof 14 = .ok (.if_icmp .le 6, 3) := by decide +kernel
theorem dX8_proof_17 : decode cX8_proof 17 = .ok (.bipush (-2), 2) := by decide +kernel
theorem dX8_proof_19 : decode cX8_proof 19 = .ok (.ireturn, 1) := by decide +kernel
theorem dX8_proof_20 : decode cX8_proof 20 = .ok (.aload_n 0, 1) := by decide +kernel
theorem dX8_proof_21 : decode cX8_proof 21 = .ok (.getfield 19, 3) := by decide +kernel
theorem dX8_proof_24 : decode cX8_proof 24 = .ok (.aload_n 0, 1) := by decide +kernel
theorem dX8_proof_25 : decode cX8_proof 25 = .ok (.getfield 12, 3) := by decide +kernel
theorem dX8_proof_28 : decode cX8_proof 28 = .ok (.iload_n 1, 1) := by decide +kernel
theorem dX8_proof_29 : decode cX8_proof 29 = .ok (.iload_n 2, 1) := by decide +kernel
theorem dX8_proof_30 : decode cX8_proof 30 = .ok (.aload_n 0, 1) := by decide +kernel
theorem dX8_proof_31 : decode cX8_proof 31 = .ok (.getfield 52, 3) := by decide +kernel
theorem dX8_proof_34 : decode cX8_proof 34 = .ok (.invokevirtual 157, 3) := by decide +kernel
theorem dX8_proof_37 : decode cX8_proof 37 = .ok (.iload_n 3, 1) := by decide +kernel
theorem dX8_proof_38 : decode cX8_proof 38 = .ok (.ifCond .ne 11, 3) := by decide +kernel
theorem dX8_proof_41 : decode cX8_proof 41 = .ok (.aload_n 0, 1) := by decide +kernel
theorem dX8_proof_42 : decode cX8_proof 42 = .ok (.getfield 52, 3) := by decide +kernel
theorem dX8_proof_45 : decode cX8_proof 45 = .ok (.invokevirtual 112, 3) := by decide +kernel
theorem dX8_proof_48 : decode cX8_proof 48 = .ok (.ireturn, 1) := by decide +kernel
theorem dX8_proof_49 : decode cX8_proof 49 = .ok (.iload_n 3, 1) := by decide +kernel
theorem dX8_proof_50 : decode cX8_proof 50 = .ok (.iconst 1, 1) := by decide +kernel
theorem dX8_proof_51 : decode cX8_proof 51 = .ok (.if_icmp .ne 13, 3) := by decide +kernel
theorem dX8_proof_54 : decode cX8_proof 54 = .ok (.aload_n 0, 1) := by decide +kernel
theorem dX8_proof_55 : decode cX8_proof 55 = .ok (.getfield 52, 3) := by decide +kernel
theorem dX8_proof_58 : decode cX8_proof 58 = .ok (.invokevirtual 161, 3) := by decide +kernel
theorem dX8_proof_61 : decode cX8_proof 61 = .ok (.goto 10, 3) := by decide +kernel
theorem dX8_proof_64 : decode cX8_proof 64 = .ok (.aload_n 0, 1) := by decide +kernel
theorem dX8_proof_65 : decode cX8_proof 65 = .ok (.getfield 52, 3) := by decide +kernel
theorem dX8_proof_68 : decode cX8_proof 68 = .ok (.invokevirtual 164, 3) := by decide +kernel
theorem dX8_proof_71 : decode cX8_proof 71 = .ok (.ireturn, 1) := by decide +kernel
theorem dX8_item_0 : decode cX8_item 0 = .ok (.iload_n 1, 1) := by decide +kernel
theorem dX8_item_1 : decode cX8_item 1 = .ok (.iload_n 2, 1) := by decide +kernel
theorem dX8_item_2 : decode cX8_item 2 = .ok (.invokestatic 153, 3) := by decide +kernel
theorem dX8_item_5 : decode cX8_item 5 = .ok (.ifCond .ne 6, 3) := by decide +kernel
theorem dX8_item_8 : decode cX8_item 8 = .ok (.bipush (-2), 2) := by decide +kernel
theorem dX8_item_10 : decode cX8_item 10 = .ok (.ireturn, 1) := by decide +kernel
theorem dX8_item_11 : decode cX8_item 11 = .ok (.aload_n 0, 1) := by decide +kernel
theorem dX8_item_12 : decode cX8_item 12 = .ok (.getfield 19, 3) := by decide +kernel
theorem dX8_item_15 : decode cX8_item 15 = .ok (.aload_n 0, 1) := by decide +kernel
theorem dX8_item_16 : decode cX8_item 16 = .ok (.getfield 12, 3) := by decide +kernel
theorem dX8_item_19 : decode cX8_item 19 = .ok (.iload_n 1, 1) := by decide +kernel
theorem dX8_item_20 : decode cX8_item 20 = .ok (.iload_n 2, 1) := by decide +kernel
theorem dX8_item_21 : decode cX8_item 21 = .ok (.aload_n 0, 1) := by decide +kernel
theorem dX8_item_22 : decode cX8_item 22 = .ok (.getfield 52, 3) := by decide +kernel
theorem dX8_item_25 : decode cX8_item 25 = .ok (.invokevirtual 157, 3) := by decide +kernel
theorem dX8_item_28 : decode cX8_item 28 = .ok (.aload_n 0, 1) := by decide +kernel
theorem dX8_item_29 : decode cX8_item 29 = .ok (.getfield 52, 3) := by decide +kernel
theorem dX8_item_32 : decode cX8_item 32 = .ok (.iload_n 3, 1) := by decide +kernel
theorem dX8_item_33 : decode cX8_item 33 = .ok (.invokevirtual 167, 3) := by decide +kernel
theorem dX8_item_36 : decode cX8_item 36 = .ok (.ifCond .eq 14, 3) := by decide +kernel
theorem dX8_item_39 : decode cX8_item 39 = .ok (.aload_n 0, 1) := by decide +kernel
theorem dX8_item_40 : decode cX8_item 40 = .ok (.getfield 52, 3) := by decide +kernel
theorem dX8_item_43 : decode cX8_item 43 = .ok (.iload_n 3, 1) := by decide +kernel
theorem dX8_item_44 : decode cX8_item 44 = .ok (.invokevirtual 170, 3) := by decide +kernel
theorem dX8_item_47 : decode cX8_item 47 = .ok (.goto 4, 3) := by decide +kernel
theorem dX8_item_50 : decode cX8_item 50 = .ok (.iconst (-1), 1) := by decide +kernel
theorem dX8_item_51 : decode cX8_item 51 = .ok (.ireturn, 1) := by decide +kernel
theorem dX8_lengths_0 : decode cX8_lengths 0 = .ok (.iload_n 2, 1) := by decide +kernel
theorem dX8_lengths_1 : decode cX8_lengths 1 = .ok (.ifCond .eq 11, 3) := by decide +kernel
theorem dX8_lengths_4 : decode cX8_lengths 4 = .ok (.iload_n 2, 1) := by decide +kernel
theorem dX8_lengths_5 : decode cX8_lengths 5 = .ok (.iconst 1, 1) := by decide +kernel
theorem dX8_lengths_6 : decode cX8_lengths 6 = .ok (.if_icmp .eq 6, 3) := by decide +kernel
theorem dX8_lengths_9 : decode cX8_lengths 9 = .ok (.bipush (-2), 2) := by decide +kernel
theorem dX8_lengths_11 : decode cX8_lengths 11 = .ok (.ireturn, 1) := by decide +kernel
theorem dX8_lengths_12 : decode cX8_lengths 12 = .ok (.iconst 0, 1) := by decide +kernel
theorem dX8_lengths_13 : decode cX8_lengths 13 = .ok (.istore_n 3, 1) := by decide +kernel
theorem dX8_lengths_14 : decode cX8_lengths 14 = .ok (.bipush (-9), 2) := by decide +kernel
theorem dX8_lengths_16 : decode cX8_lengths 16 = .ok (.istore 4, 2) := by decide +kernel
theorem dX8_lengths_18 : decode cX8_lengths 18 = .ok (.bipush 99, 2) := by decide +kernel
theorem dX8_lengths_20 : decode cX8_lengths 20 = .ok (.istore 5, 2) := by decide +kernel
theorem dX8_lengths_22 : decode cX8_lengths 22 = .ok (.iload 5, 2) := by decide +kernel
theorem dX8_lengths_24 : decode cX8_lengths 24 = .ok (.ifCond .lt 29, 3) := by decide +kernel
theorem dX8_lengths_27 : decode cX8_lengths 27 = .ok (.aload_n 0, 1) := by decide +kernel
theorem dX8_lengths_28 : decode cX8_lengths 28 = .ok (.getfield 19, 3) := by decide +kernel
theorem dX8_lengths_31 : decode cX8_lengths 31 = .ok (.iload 5, 2) := by decide +kernel
theorem dX8_lengths_33 : decode cX8_lengths 33 = .ok (.invokevirtual 173, 3) := by decide +kernel
theorem dX8_lengths_36 : decode cX8_lengths 36 = .ok (.iload_n 1, 1) := by decide +kernel
theorem dX8_lengths_37 : decode cX8_lengths 37 = .ok (.if_icmp .ne 10, 3) := by decide +kernel
theorem dX8_lengths_40 : decode cX8_lengths 40 = .ok (.iinc 3 1, 3) := by decide +kernel
theorem dX8_lengths_43 : decode cX8_lengths 43 = .ok (.iload 5, 2) := by decide +kernel
theorem dX8_lengths_45 : decode cX8_lengths 45 = .ok (.istore 4, 2) := by decide +kernel
theorem dX8_lengths_47 : decode cX8_lengths 47 = .ok (.iinc 5 (-1), 3) := by decide +kernel
theorem dX8_lengths_50 : decode cX8_lengths 50 = .ok (.goto (-28), 3) := by decide +kernel
theorem dX8_lengths_53 : decode cX8_lengths 53 = .ok (.iload_n 2, 1) := by decide +kernel
theorem dX8_lengths_54 : decode cX8_lengths 54 = .ok (.ifCond .ne 7, 3) := by decide +kernel
theorem dX8_lengths_57 : decode cX8_lengths 57 = .ok (.iload_n 3, 1) := by decide +kernel
theorem dX8_lengths_58 : decode cX8_lengths 58 = .ok (.goto 5, 3) := by decide +kernel
theorem dX8_lengths_61 : decode cX8_lengths 61 = .ok (.iload 4, 2) := by decide +kernel
theorem dX8_lengths_63 : decode cX8_lengths 63 = .ok (.ireturn, 1) := by decide +kernel
theorem dX8_send_0 : decode cX8_send 0 = .ok (.iload_n 1, 1) := by decide +kernel
theorem dX8_send_1 : decode cX8_send 1 = .ok (.iload_n 2, 1) := by decide +kernel
theorem dX8_send_2 : decode cX8_send 2 = .ok (.invokestatic 153, 3) := by decide +kernel
theorem dX8_send_5 : decode cX8_send 5 = .ok (.ifCond .ne 6, 3) := by decide +kernel
theorem dX8_send_8 : decode cX8_send 8 = .ok (.bipush (-2), 2) := by decide +kernel
theorem dX8_send_10 : decode cX8_send 10 = .ok (.ireturn, 1) := by decide +kernel
theorem dX8_send_11 : decode cX8_send 11 = .ok (.aload_n 0, 1) := by decide +kernel
theorem dX8_send_12 : decode cX8_send 12 = .ok (.getfield 19, 3) := by decide +kernel
theorem dX8_send_15 : decode cX8_send 15 = .ok (.aload_n 0, 1) := by decide +kernel
theorem dX8_send_16 : decode cX8_send 16 = .ok (.getfield 12, 3) := by decide +kernel
theorem dX8_send_19 : decode cX8_send 19 = .ok (.iload_n 1, 1) := by decide +kernel
theorem dX8_send_20 : decode cX8_send 20 = .ok (.iload_n 2, 1) := by decide +kernel
theorem dX8_send_21 : decode cX8_send 21 = .ok (.aload_n 0, 1) := by decide +kernel
theorem dX8_send_22 : decode cX8_send 22 = .ok (.getfield 33, 3) := by decide +kernel
theorem dX8_send_25 : decode cX8_send 25 = .ok (.invokevirtual 108, 3) := by decide +kernel
theorem dX8_send_28 : decode cX8_send 28 = .ok (.invokevirtual 157, 3) := by decide +kernel
theorem dX8_send_31 : decode cX8_send 31 = .ok (.aload_n 0, 1) := by decide +kernel
theorem dX8_send_32 : decode cX8_send 32 = .ok (.getfield 33, 3) := by decide +kernel
theorem dX8_send_35 : decode cX8_send 35 = .ok (.invokevirtual 108, 3) := by decide +kernel
theorem dX8_send_38 : decode cX8_send 38 = .ok (.invokevirtual 112, 3) := by decide +kernel
theorem dX8_send_41 : decode cX8_send 41 = .ok (.ireturn, 1) := by decide +kernel
theorem dX8_tell_0 : decode cX8_tell 0 = .ok (.iload_n 1, 1) := by decide +kernel
theorem dX8_tell_1 : decode cX8_tell 1 = .ok (.invokestatic 176, 3) := by decide +kernel
theorem dX8_tell_4 : decode cX8_tell 4 = .ok (.ifCond .ne 6, 3) := by decide +kernel
theorem dX8_tell_7 : decode cX8_tell 7 = .ok (.bipush (-2), 2) := by decide +kernel
theorem dX8_tell_9 : decode cX8_tell 9 = .ok (.ireturn, 1) := by decide +kernel
theorem dX8_tell_10 : decode cX8_tell 10 = .ok (.aload_n 0, 1) := by decide +kernel
theorem dX8_tell_11 : decode cX8_tell 11 = .ok (.getfield 33, 3) := by decide +kernel
theorem dX8_tell_14 : decode cX8_tell 14 = .ok (.invokevirtual 108, 3) := by decide +kernel
theorem dX8_tell_17 : decode cX8_tell 17 = .ok (.invokevirtual 179, 3) := by decide +kernel
theorem dX8_tell_20 : decode cX8_tell 20 = .ok (.ifCond .eq 6, 3) := by decide +kernel
theorem dX8_tell_23 : decode cX8_tell 23 = .ok (.bipush (-4), 2) := by decide +kernel
theorem dX8_tell_25 : decode cX8_tell 25 = .ok (.ireturn, 1) := by decide +kernel
theorem dX8_tell_26 : decode cX8_tell 26 = .ok (.aload_n 0, 1) := by decide +kernel
theorem dX8_tell_27 : decode cX8_tell 27 = .ok (.getfield 33, 3) := by decide +kernel
theorem dX8_tell_30 : decode cX8_tell 30 = .ok (.invokevirtual 108, 3) := by decide +kernel
theorem dX8_tell_33 : decode cX8_tell 33 = .ok (.iload_n 1, 1) := by decide +kernel
theorem dX8_tell_34 : decode cX8_tell 34 = .ok (.invokevirtual 183, 3) := by decide +kernel
theorem dX8_tell_37 : decode cX8_tell 37 = .ok (.aload_n 0, 1) := by decide +kernel
theorem dX8_tell_38 : decode cX8_tell 38 = .ok (.getfield 33, 3) := by decide +kernel
theorem dX8_tell_41 : decode cX8_tell 41 = .ok (.invokevirtual 108, 3) := by decide +kernel
theorem dX8_tell_44 : decode cX8_tell 44 = .ok (.invokevirtual 112, 3) := by decide +kernel
theorem dX8_tell_47 : decode cX8_tell 47 = .ok (.ireturn, 1) := by decide +kernel
theorem dX8_alter_0 : decode cX8_alter 0 = .ok (.aload_n 0, 1) := by decide +kernel
theorem dX8_alter_1 : decode cX8_alter 1 = .ok (.getfield 33, 3) := by decide +kernel
theorem dX8_alter_4 : decode cX8_alter 4 = .ok (.invokevirtual 108, 3) := by decide +kernel
theorem dX8_alter_7 : decode cX8_alter 7 = .ok (.iload_n 1, 1) := by decide +kernel
theorem dX8_alter_8 : decode cX8_alter 8 = .ok (.invokevirtual 167, 3) := by decide +kernel
theorem dX8_alter_11 : decode cX8_alter 11 = .ok (.ifCond .ne 5, 3) := by decide +kernel
theorem dX8_alter_14 : decode cX8_alter 14 = .ok (.iconst (-1), 1) := by decide +kernel
theorem dX8_alter_15 : decode cX8_alter 15 = .ok (.ireturn, 1) := by decide +kernel
theorem dX8_alter_16 : decode cX8_alter 16 = .ok (.iload_n 2, 1) := by decide +kernel
theorem dX8_alter_17 : decode cX8_alter 17 = .ok (.invokestatic 176, 3) := by decide +kernel
theorem dX8_alter_20 : decode cX8_alter 20 = .ok (.ifCond .ne 6, 3) := by decide +kernel
theorem dX8_alter_23 : decode cX8_alter 23 = .ok (.bipush (-2), 2) := by decide +kernel
theorem dX8_alter_25 : decode cX8_alter 25 = .ok (.ireturn, 1) := by decide +kernel
theorem dX8_alter_26 : decode cX8_alter 26 = .ok (.aload_n 0, 1) := by decide +kernel
theorem dX8_alter_27 : decode cX8_alter 27 = .ok (.getfield 33, 3) := by decide +kernel
theorem dX8_alter_30 : decode cX8_alter 30 = .ok (.invokevirtual 108, 3) := by decide +kernel
theorem dX8_alter_33 : decode cX8_alter 33 = .ok (.iload_n 1, 1) := by decide +kernel
theorem dX8_alter_34 : decode cX8_alter 34 = .ok (.invokevirtual 170, 3) := by decide +kernel
theorem dX8_alter_37 : decode cX8_alter 37 = .ok (.istore_n 3, 1) := by decide +kernel
theorem dX8_alter_38 : decode cX8_alter 38 = .ok (.aload_n 0, 1) := by decide +kernel
theorem dX8_alter_39 : decode cX8_alter 39 = .ok (.getfield 33, 3) := by decide +kernel
theorem dX8_alter_42 : decode cX8_alter 42 = .ok (.invokevirtual 108, 3) := by decide +kernel
theorem dX8_alter_45 : decode cX8_alter 45 = .ok (.iload_n 1, 1) := by decide +kernel
theorem dX8_alter_46 : decode cX8_alter 46 = .ok (.iload_n 2, 1) := by decide +kernel
theorem dX8_alter_47 : decode cX8_alter 47 = .ok (.invokevirtual 186, 3) := by decide +kernel
theorem dX8_alter_50 : decode cX8_alter 50 = .ok (.iload_n 3, 1) := by decide +kernel
theorem dX8_alter_51 : decode cX8_alter 51 = .ok (.ireturn, 1) := by decide +kernel
theorem dX8_cut_0 : decode cX8_cut 0 = .ok (.aload_n 0, 1) := by decide +kernel
theorem dX8_cut_1 : decode cX8_cut 1 = .ok (.getfield 33, 3) := by decide +kernel
theorem dX8_cut_4 : decode cX8_cut 4 = .ok (.invokevirtual 108, 3) := by decide +kernel
theorem dX8_cut_7 : decode cX8_cut 7 = .ok (.invokevirtual 112, 3) := by decide +kernel
theorem dX8_cut_10 : decode cX8_cut 10 = .ok (.istore_n 2, 1) := by decide +kernel
theorem dX8_cut_11 : decode cX8_cut 11 = .ok (.iload_n 1, 1) := by decide +kernel
theorem dX8_cut_12 : decode cX8_cut 12 = .ok (.ifCond .lt 8, 3) := by decide +kernel
theorem dX8_cut_15 : decode cX8_cut 15 = .ok (.iload_n 1, 1) := by decide +kernel
theorem dX8_cut_16 : decode cX8_cut 16 = .ok (.iload_n 2, 1) := by decide +kernel
theorem dX8_cut_17 : decode cX8_cut 17 = .ok (.if_icmp .le 6, 3) := by decide +kernel
theorem dX8_cut_20 : decode cX8_cut 20 = .ok (.bipush (-2), 2) := by decide +kernel
theorem dX8_cut_22 : decode cX8_cut 22 = .ok (.ireturn, 1) := by decide +kernel
theorem dX8_cut_23 : decode cX8_cut 23 = .ok (.aload_n 0, 1) := by decide +kernel
theorem dX8_cut_24 : decode cX8_cut 24 = .ok (.getfield 33, 3) := by decide +kernel
theorem dX8_cut_27 : decode cX8_cut 27 = .ok (.invokevirtual 108, 3) := by decide +kernel
theorem dX8_cut_30 : decode cX8_cut 30 = .ok (.iload_n 1, 1) := by decide +kernel
theorem dX8_cut_31 : decode cX8_cut 31 = .ok (.invokevirtual 189, 3) := by decide +kernel
theorem dX8_cut_34 : decode cX8_cut 34 = .ok (.iload_n 2, 1) := by decide +kernel
theorem dX8_cut_35 : decode cX8_cut 35 = .ok (.ireturn, 1) := by decide +kernel
theorem dX8_trust_0 : decode cX8_trust 0 = .ok (.aload_n 0, 1) := by decide +kernel
theorem dX8_trust_1 : decode cX8_trust 1 = .ok (.getfield 33, 3) := by decide +kernel
theorem dX8_trust_4 : decode cX8_trust 4 = .ok (.aload_n 0, 1) := by decide +kernel
theorem dX8_trust_5 : decode cX8_trust 5 = .ok (.getfield 19, 3) := by decide +kernel
theorem dX8_trust_8 : decode cX8_trust 8 = .ok (.invokevirtual 98, 3) := by decide +kernel
theorem dX8_trust_11 : decode cX8_trust 11 = .ok (.invokevirtual 192, 3) := by decide +kernel
theorem dX8_trust_14 : decode cX8_trust 14 = .ok (.ireturn, 1) := by decide +kernel
theorem dX8_believe_0 : decode cX8_believe 0 = .ok (.iload_n 1, 1) := by decide +kernel
theorem dX8_believe_1 : decode cX8_believe 1 = .ok (.ifCond .ge 8, 3) := by decide +kernel
theorem dX8_believe_4 : decode cX8_believe 4 = .ok (.bipush (-2), 2) := by decide +kernel
theorem dX8_believe_6 : decode cX8_believe 6 = .ok (.goto 11, 3) := by decide +kernel
theorem dX8_believe_9 : decode cX8_believe 9 = .ok (.aload_n 0, 1) := by decide +kernel
theorem dX8_believe_10 : decode cX8_believe 10 = .ok (.getfield 33, 3) := by decide +kernel
theorem dX8_believe_13 : decode cX8_believe 13 = .ok (.iload_n 1, 1) := by decide +kernel
theorem dX8_believe_14 : decode cX8_believe 14 = .ok (.invokevirtual 192, 3) := by decide +kernel
theorem dX8_believe_17 : decode cX8_believe 17 = .ok (.ireturn, 1) := by decide +kernel
theorem dX8_read_0 : decode cX8_read 0 = .ok (.iload_n 1, 1) := by decide +kernel
theorem dX8_read_1 : decode cX8_read 1 = .ok (.iload_n 2, 1) := by decide +kernel
theorem dX8_read_2 : decode cX8_read 2 = .ok (.invokestatic 153, 3) := by decide +kernel
theorem dX8_read_5 : decode cX8_read 5 = .ok (.ifCond .eq 15, 3) := by decide +kernel
theorem dX8_read_8 : decode cX8_read 8 = .ok (.aload_n 0, 1) := by decide +kernel
theorem dX8_read_9 : decode cX8_read 9 = .ok (.getfield 33, 3) := by decide +kernel
theorem dX8_read_12 : decode cX8_read 12 = .ok (.iload_n 1, 1) := by decide +kernel
theorem dX8_read_13 : decode cX8_read 13 = .ok (.iload_n 2, 1) := by decide +kernel
theorem dX8_read_14 : decode cX8_read 14 = .ok (.invokevirtual 195, 3) := by decide +kernel
theorem dX8_read_17 : decode cX8_read 17 = .ok (.goto 5, 3) := by decide +kernel
theorem dX8_read_20 : decode cX8_read 20 = .ok (.bipush (-2), 2) := by decide +kernel
theorem dX8_read_22 : decode cX8_read 22 = .ok (.ireturn, 1) := by decide +kernel
theorem dX8_learnt_0 : decode cX8_learnt 0 = .ok (.iload_n 1, 1) := by decide +kernel
theorem dX8_learnt_1 : decode cX8_learnt 1 = .ok (.iload_n 2, 1) := by decide +kernel
theorem dX8_learnt_2 : decode cX8_learnt 2 = .ok (.invokestatic 153, 3) := by decide +kernel
theorem dX8_learnt_5 : decode cX8_learnt 5 = .ok (.ifCond .eq 12, 3) := by decide +kernel
theorem dX8_learnt_8 : decode cX8_learnt 8 = .ok (.iload_n 3, 1) := by decide +kernel
theorem dX8_learnt_9 : decode cX8_learnt 9 = .ok (.ifCond .lt 8, 3) := by decide +kernel
theorem dX8_learnt_12 : decode cX8_learnt 12 = .ok (.iload_n 3, 1) := by decide +kernel
theorem dX8_learnt_13 : decode cX8_learnt 13 = .ok (.iconst 4, 1) := by decide +kernel
theorem dX8_learnt_14 : decode cX8_learnt 14 = .ok (.if_icmp .le 6, 3) := by decide +kernel
theorem dX8_learnt_17 : decode cX8_learnt 17 = .ok (.bipush (-2), 2) := by decide +kernel
theorem dX8_learnt_19 : decode cX8_learnt 19 = .ok (.ireturn, 1) := by decide +kernel
theorem dX8_learnt_20 : decode cX8_learnt 20 = .ok (.aload_n 0, 1) := by decide +kernel
theorem dX8_learnt_21 : decode cX8_learnt 21 = .ok (.getfield 33, 3) := by decide +kernel
theorem dX8_learnt_24 : decode cX8_learnt 24 = .ok (.iload_n 1, 1) := by decide +kernel
theorem dX8_learnt_25 : decode cX8_learnt 25 = .ok (.iload_n 2, 1) := by decide +kernel
theorem dX8_learnt_26 : decode cX8_learnt 26 = .ok (.invokevirtual 195, 3) := by decide +kernel
theorem dX8_learnt_29 : decode cX8_learnt 29 = .ok (.ifCond .eq 6, 3) := by decide +kernel
theorem dX8_learnt_32 : decode cX8_learnt 32 = .ok (.bipush (-3), 2) := by decide +kernel
theorem dX8_learnt_34 : decode cX8_learnt 34 = .ok (.ireturn, 1) := by decide +kernel
theorem dX8_learnt_35 : decode cX8_learnt 35 = .ok (.aload_n 0, 1) := by decide +kernel
theorem dX8_learnt_36 : decode cX8_learnt 36 = .ok (.getfield 33, 3) := by decide +kernel
theorem dX8_learnt_39 : decode cX8_learnt 39 = .ok (.invokevirtual 198, 3) := by decide +kernel
theorem dX8_learnt_42 : decode cX8_learnt 42 = .ok (.astore 4, 2) := by decide +kernel
theorem dX8_learnt_44 : decode cX8_learnt 44 = .ok (.iload_n 3, 1) := by decide +kernel
theorem dX8_learnt_45 : decode cX8_learnt 45 = .ok (.tableswitch 61 0 3 #[31, 39, 47, 54], 31) := by decide +kernel
theorem dX8_learnt_76 : decode cX8_learnt 76 = .ok (.aload 4, 2) := by decide +kernel
theorem dX8_learnt_78 : decode cX8_learnt 78 = .ok (.iload_n 1, 1) := by decide +kernel
theorem dX8_learnt_79 : decode cX8_learnt 79 = .ok (.iload_n 2, 1) := by decide +kernel
theorem dX8_learnt_80 : decode cX8_learnt 80 = .ok (.invokevirtual 144, 3) := by decide +kernel
theorem dX8_learnt_83 : decode cX8_learnt 83 = .ok (.ireturn, 1) := by decide +kernel
theorem dX8_learnt_84 : decode cX8_learnt 84 = .ok (.aload 4, 2) := by decide +kernel
theorem dX8_learnt_86 : decode cX8_learnt 86 = .ok (.iload_n 1, 1) := by decide +kernel
theorem dX8_learnt_87 : decode cX8_learnt 87 = .ok (.iload_n 2, 1) := by decide +kernel
theorem dX8_learnt_88 : decode cX8_learnt 88 = .ok (.invokevirtual 104, 3) := by decide +kernel
theorem dX8_learnt_91 : decode cX8_learnt 91 = .ok (.ireturn, 1) := by decide +kernel
theorem dX8_learnt_92 : decode cX8_learnt 92 = .ok (.aload 4, 2) := by decide +kernel
theorem dX8_learnt_94 : decode cX8_learnt 94 = .ok (.iload_n 1, 1) := by decide +kernel
theorem dX8_learnt_95 : decode cX8_learnt 95 = .ok (.invokevirtual 202, 3) := by decide +kernel
theorem dX8_learnt_98 : decode cX8_learnt 98 = .ok (.ireturn, 1) := by decide +kernel
theorem dX8_learnt_99 : decode cX8_learnt 99 = .ok (.aload 4, 2) := by decide +kernel
theorem dX8_learnt_101 : decode cX8_learnt 101 = .ok (.iload_n 2, 1) := by decide +kernel
theorem dX8_learnt_102 : decode cX8_learnt 102 = .ok (.invokevirtual 205, 3) := by decide +kernel
theorem dX8_learnt_105 : decode cX8_learnt 105 = .ok (.ireturn, 1) := by decide +kernel
theorem dX8_learnt_106 : decode cX8_learnt 106 = .ok (.aload 4, 2) := by decide +kernel
theorem dX8_learnt_108 : decode cX8_learnt 108 = .ok (.invokevirtual 90, 3) := by decide +kernel
theorem dX8_learnt_111 : decode cX8_learnt 111 = .ok (.ireturn, 1) := by decide +kernel
theorem dX8_found_0 : decode cX8_found 0 = .ok (.iload_n 1, 1) := by decide +kernel
theorem dX8_found_1 : decode cX8_found 1 = .ok (.iload_n 2, 1) := by decide +kernel
theorem dX8_found_2 : decode cX8_found 2 = .ok (.invokestatic 153, 3) := by decide +kernel
theorem dX8_found_5 : decode cX8_found 5 = .ok (.ifCond .ne 6, 3) := by decide +kernel
theorem dX8_found_8 : decode cX8_found 8 = .ok (.bipush (-2), 2) := by decide +kernel
theorem dX8_found_10 : decode cX8_found 10 = .ok (.ireturn, 1) := by decide +kernel
theorem dX8_found_11 : decode cX8_found 11 = .ok (.aload_n 0, 1) := by decide +kernel
theorem dX8_found_12 : decode cX8_found 12 = .ok (.getfield 33, 3) := by decide +kernel
theorem dX8_found_15 : decode cX8_found 15 = .ok (.iload_n 1, 1) := by decide +kernel
theorem dX8_found_16 : decode cX8_found 16 = .ok (.iload_n 2, 1) := by decide +kernel
theorem dX8_found_17 : decode cX8_found 17 = .ok (.invokevirtual 195, 3) := by decide +kernel
theorem dX8_found_20 : decode cX8_found 20 = .ok (.ifCond .eq 6, 3) := by decide +kernel
theorem dX8_found_23 : decode cX8_found 23 = .ok (.bipush (-3), 2) := by decide +kernel
theorem dX8_found_25 : decode cX8_found 25 = .ok (.ireturn, 1) := by decide +kernel
theorem dX8_found_26 : decode cX8_found 26 = .ok (.aload_n 0, 1) := by decide +kernel
theorem dX8_found_27 : decode cX8_found 27 = .ok (.getfield 33, 3) := by decide +kernel
theorem dX8_found_30 : decode cX8_found 30 = .ok (.invokevirtual 198, 3) := by decide +kernel
theorem dX8_found_33 : decode cX8_found 33 = .ok (.astore 4, 2) := by decide +kernel
theorem dX8_found_35 : decode cX8_found 35 = .ok (.aload 4, 2) := by decide +kernel
theorem dX8_found_37 : decode cX8_found 37 = .ok (.iload_n 1, 1) := by decide +kernel
theorem dX8_found_38 : decode cX8_found 38 = .ok (.iload_n 2, 1) := by decide +kernel
theorem dX8_found_39 : decode cX8_found 39 = .ok (.iload_n 3, 1) := by decide +kernel
theorem dX8_found_40 : decode cX8_found 40 = .ok (.invokevirtual 208, 3) := by decide +kernel
theorem dX8_found_43 : decode cX8_found 43 = .ok (.istore 5, 2) := by decide +kernel
theorem dX8_found_45 : decode cX8_found 45 = .ok (.iload 5, 2) := by decide +kernel
theorem dX8_found_47 : decode cX8_found 47 = .ok (.bipush (-9), 2) := by decide +kernel
theorem dX8_found_49 : decode cX8_found 49 = .ok (.if_icmp .ne 8, 3) := by decide +kernel
theorem dX8_found_52 : decode cX8_found 52 = .ok (.bipush (-9), 2) := by decide +kernel
theorem dX8_found_54 : decode cX8_found 54 = .ok (.goto 16, 3) := by decide +kernel
theorem dX8_found_57 : decode cX8_found 57 = .ok (.bipush 100, 2) := by decide +kernel
theorem dX8_found_59 : decode cX8_found 59 = .ok (.iload 5, 2) := by decide +kernel
theorem dX8_found_61 : decode cX8_found 61 = .ok (.imul, 1) := by decide +kernel
theorem dX8_found_62 : decode cX8_found 62 = .ok (.aload 4, 2) := by decide +kernel
theorem dX8_found_64 : decode cX8_found 64 = .ok (.iload 5, 2) := by decide +kernel
theorem dX8_found_66 : decode cX8_found 66 = .ok (.invokevirtual 64, 3) := by decide +kernel
theorem dX8_found_69 : decode cX8_found 69 = .ok (.iadd, 1) := by decide +kernel
theorem dX8_found_70 : decode cX8_found 70 = .ok (.ireturn, 1) := by decide +kernel
theorem dX8_step_0 : decode cX8_step 0 = .ok (.iload_n 1, 1) := by decide +kernel
theorem dX8_step_1 : decode cX8_step 1 = .ok (.iload_n 2, 1) := by decide +kernel
theorem dX8_step_2 : decode cX8_step 2 = .ok (.invokestatic 212, 3) := by decide +kernel
theorem dX8_step_5 : decode cX8_step 5 = .ok (.ifCond .eq 15, 3) := by decide +kernel
theorem dX8_step_8 : decode cX8_step 8 = .ok (.aload_n 0, 1) := by decide +kernel
theorem dX8_step_9 : decode cX8_step 9 = .ok (.getfield 33, 3) := by decide +kernel
theorem dX8_step_12 : decode cX8_step 12 = .ok (.iload_n 1, 1) := by decide +kernel
theorem dX8_step_13 : decode cX8_step 13 = .ok (.iload_n 2, 1) := by decide +kernel
theorem dX8_step_14 : decode cX8_step 14 = .ok (.invokevirtual 215, 3) := by decide +kernel
theorem dX8_step_17 : decode cX8_step 17 = .ok (.goto 5, 3) := by decide +kernel
theorem dX8_step_20 : decode cX8_step 20 = .ok (.bipush (-2), 2) := by decide +kernel
theorem dX8_step_22 : decode cX8_step 22 = .ok (.ireturn, 1) := by decide +kernel
theorem dX8_follow_0 : decode cX8_follow 0 = .ok (.iload_n 1, 1) := by decide +kernel
theorem dX8_follow_1 : decode cX8_follow 1 = .ok (.iload_n 2, 1) := by decide +kernel
theorem dX8_follow_2 : decode cX8_follow 2 = .ok (.invokestatic 212, 3) := by decide +kernel
theorem dX8_follow_5 : decode cX8_follow 5 = .ok (.ifCond .ne 6, 3) := by decide +kernel
theorem dX8_follow_8 : decode cX8_follow 8 = .ok (.bipush (-2), 2) := by decide +kernel
theorem dX8_follow_10 : decode cX8_follow 10 = .ok (.ireturn, 1) := by decide +kernel
theorem dX8_follow_11 : decode cX8_follow 11 = .ok (.aload_n 0, 1) := by decide +kernel
theorem dX8_follow_12 : decode cX8_follow 12 = .ok (.getfield 33, 3) := by decide +kernel
theorem dX8_follow_15 : decode cX8_follow 15 = .ok (.iload_n 1, 1) := by decide +kernel
theorem dX8_follow_16 : decode cX8_follow 16 = .ok (.iload_n 2, 1) := by decide +kernel
theorem dX8_follow_17 : decode cX8_follow 17 = .ok (.invokevirtual 215, 3) := by decide +kernel
theorem dX8_follow_20 : decode cX8_follow 20 = .ok (.istore_n 3, 1) := by decide +kernel
theorem dX8_follow_21 : decode cX8_follow 21 = .ok (.iload_n 3, 1) := by decide +kernel
theorem dX8_follow_22 : decode cX8_follow 22 = .ok (.ifCond .ge 7, 3) := by decide +kernel
theorem dX8_follow_25 : decode cX8_follow 25 = .ok (.iload_n 3, 1) := by decide +kernel
theorem dX8_follow_26 : decode cX8_follow 26 = .ok (.goto 11, 3) := by decide +kernel
theorem dX8_follow_29 : decode cX8_follow 29 = .ok (.aload_n 0, 1) := by decide +kernel
theorem dX8_follow_30 : decode cX8_follow 30 = .ok (.getfield 33, 3) := by decide +kernel
theorem dX8_follow_33 : decode cX8_follow 33 = .ok (.iload_n 3, 1) := by decide +kernel
theorem dX8_follow_34 : decode cX8_follow 34 = .ok (.invokevirtual 192, 3) := by decide +kernel
theorem dX8_follow_37 : decode cX8_follow 37 = .ok (.ireturn, 1) := by decide +kernel
theorem dX8_former_0 : decode cX8_former 0 = .ok (.iload_n 1, 1) := by decide +kernel
theorem dX8_former_1 : decode cX8_former 1 = .ok (.ifCond .lt 14, 3) := by decide +kernel
theorem dX8_former_4 : decode cX8_former 4 = .ok (.iload_n 1, 1) := by decide +kernel
theorem dX8_former_5 : decode cX8_former 5 = .ok (.aload_n 0, 1) := by decide +kernel
theorem dX8_former_6 : decode cX8_former 6 = .ok (.getfield 33, 3) := by decide +kernel
theorem dX8_former_9 : decode cX8_former 9 = .ok (.invokevirtual 116, 3) := by decide +kernel
theorem dX8_former_12 : decode cX8_former 12 = .ok (.if_icmp .lt 7, 3) := by decide +kernel
theorem dX8_former_15 : decode cX8_former 15 = .ok (.iconst (-1), 1) := by decide +kernel
theorem dX8_former_16 : decode cX8_former 16 = .ok (.goto 11, 3) := by decide +kernel
theorem dX8_former_19 : decode cX8_former 19 = .ok (.aload_n 0, 1) := by decide +kernel
theorem dX8_former_20 : decode cX8_former 20 = .ok (.getfield 33, 3) := by decide +kernel
theorem dX8_former_23 : decode cX8_former 23 = .ok (.iload_n 1, 1) := by decide +kernel
theorem dX8_former_24 : decode cX8_former 24 = .ok (.invokevirtual 218, 3) := by decide +kernel
theorem dX8_former_27 : decode cX8_former 27 = .ok (.ireturn, 1) := by decide +kernel
theorem dX8_judge_0 : decode cX8_judge 0 = .ok (.iload_n 1, 1) := by decide +kernel
theorem dX8_judge_1 : decode cX8_judge 1 = .ok (.iconst 1, 1) := by decide +kernel
theorem dX8_judge_2 : decode cX8_judge 2 = .ok (.if_icmp .lt 24, 3) := by decide +kernel
theorem dX8_judge_5 : decode cX8_judge 5 = .ok (.iload_n 1, 1) := by decide +kernel
theorem dX8_judge_6 : decode cX8_judge 6 = .ok (.iconst 3, 1) := by decide +kernel
theorem dX8_judge_7 : decode cX8_judge 7 = .ok (.if_icmp .gt 19, 3) := by decide +kernel
theorem dX8_judge_10 : decode cX8_judge 10 = .ok (.lload_n 2, 1) := by decide +kernel
theorem dX8_judge_11 : decode cX8_judge 11 = .ok (.lconst 0, 1) := by decide +kernel
theorem dX8_judge_12 : decode cX8_judge 12 = .ok (.lcmp, 1) := by decide +kernel
theorem dX8_judge_13 : decode cX8_judge 13 = .ok (.ifCond .lt 13, 3) := by decide +kernel
theorem dX8_judge_16 : decode cX8_judge 16 = .ok (.iload_n 1, 1) := by decide +kernel
theorem dX8_judge_17 : decode cX8_judge 17 = .ok (.lload_n 2, 1) := by decide +kernel
theorem dX8_judge_18 : decode cX8_judge 18 = .ok (.invokestatic 221, 3) := by decide +kernel
theorem dX8_judge_21 : decode cX8_judge 21 = .ok (.lconst 0, 1) := by decide +kernel
theorem dX8_judge_22 : decode cX8_judge 22 = .ok (.lcmp, 1) := by decide +kernel
theorem dX8_judge_23 : decode cX8_judge 23 = .ok (.ifCond .eq 6, 3) := by decide +kernel
theorem dX8_judge_26 : decode cX8_judge 26 = .ok (.bipush (-2), 2) := by decide +kernel
theorem dX8_judge_28 : decode cX8_judge 28 = .ok (.ireturn, 1) := by decide +kernel
theorem dX8_judge_29 : decode cX8_judge 29 = .ok (.aload_n 0, 1) := by decide +kernel
theorem dX8_judge_30 : decode cX8_judge 30 = .ok (.getfield 43, 3) := by decide +kernel
theorem dX8_judge_33 : decode cX8_judge 33 = .ok (.aload_n 0, 1) := by decide +kernel
theorem dX8_judge_34 : decode cX8_judge 34 = .ok (.getfield 12, 3) := by decide +kernel
theorem dX8_judge_37 : decode cX8_judge 37 = .ok (.invokevirtual 225, 3) := by decide +kernel
theorem dX8_judge_40 : decode cX8_judge 40 = .ok (.iconst 0, 1) := by decide +kernel
theorem dX8_judge_41 : decode cX8_judge 41 = .ok (.istore 4, 2) := by decide +kernel
theorem dX8_judge_43 : decode cX8_judge 43 = .ok (.iload 4, 2) := by decide +kernel
theorem dX8_judge_45 : decode cX8_judge 45 = .ok (.iload_n 1, 1) := by decide +kernel
theorem dX8_judge_46 : decode cX8_judge 46 = .ok (.if_icmp .ge 34, 3) := by decide +kernel
theorem dX8_judge_49 : decode cX8_judge 49 = .ok (.aload_n 0, 1) := by decide +kernel
theorem dX8_judge_50 : decode cX8_judge 50 = .ok (.iload_n 1, 1) := by decide +kernel
theorem dX8_judge_51 : decode cX8_judge 51 = .ok (.iconst 1, 1) := by decide +kernel
theorem dX8_judge_52 : decode cX8_judge 52 = .ok (.isub, 1) := by decide +kernel
theorem dX8_judge_53 : decode cX8_judge 53 = .ok (.iload 4, 2) := by decide +kernel
theorem dX8_judge_55 : decode cX8_judge 55 = .ok (.isub, 1) := by decide +kernel
theorem dX8_judge_56 : decode cX8_judge 56 = .ok (.lload_n 2, 1) := by decide +kernel
theorem dX8_judge_57 : decode cX8_judge 57 = .ok (.invokestatic 221, 3) := by decide +kernel
theorem dX8_judge_60 : decode cX8_judge 60 = .ok (.ldc2_w 228, 3) := by decide +kernel
theorem dX8_judge_63 : decode cX8_judge 63 = .ok (.lrem, 1) := by decide +kernel
theorem dX8_judge_64 : decode cX8_judge 64 = .ok (.l2i, 1) := by decide +kernel
theorem dX8_judge_65 : decode cX8_judge 65 = .ok (.invokevirtual 230, 3) := by decide +kernel
theorem dX8_judge_68 : decode cX8_judge 68 = .ok (.ifCond .ne 6, 3) := by decide +kernel
theorem dX8_judge_71 : decode cX8_judge 71 = .ok (.iload 4, 2) := by decide +kernel
theorem dX8_judge_73 : decode cX8_judge 73 = .ok (.ireturn, 1) := by decide +kernel
theorem dX8_judge_74 : decode cX8_judge 74 = .ok (.iinc 4 1, 3) := by decide +kernel
theorem dX8_judge_77 : decode cX8_judge 77 = .ok (.goto (-34), 3) := by decide +kernel
theorem dX8_judge_80 : decode cX8_judge 80 = .ok (.bipush (-9), 2) := by decide +kernel
theorem dX8_judge_82 : decode cX8_judge 82 = .ok (.ireturn, 1) := by decide +kernel
theorem dX8_keep_0 : decode cX8_keep 0 = .ok (.iload_n 1, 1) := by decide +kernel
theorem dX8_keep_1 : decode cX8_keep 1 = .ok (.invokestatic 233, 3) := by decide +kernel
theorem dX8_keep_4 : decode cX8_keep 4 = .ok (.ifCond .ne 5, 3) := by decide +kernel
theorem dX8_keep_7 : decode cX8_keep 7 = .ok (.iconst (-1), 1) := by decide +kernel
theorem dX8_keep_8 : decode cX8_keep 8 = .ok (.ireturn, 1) := by decide +kernel
theorem dX8_keep_9 : decode cX8_keep 9 = .ok (.aload_n 0, 1) := by decide +kernel
theorem dX8_keep_10 : decode cX8_keep 10 = .ok (.getfield 39, 3) := by decide +kernel
theorem dX8_keep_13 : decode cX8_keep 13 = .ok (.iload_n 1, 1) := by decide +kernel
theorem dX8_keep_14 : decode cX8_keep 14 = .ok (.aaload, 1) := by decide +kernel
theorem dX8_keep_15 : decode cX8_keep 15 = .ok (.aload_n 0, 1) := by decide +kernel
theorem dX8_keep_16 : decode cX8_keep 16 = .ok (.getfield 12, 3) := by decide +kernel
theorem dX8_keep_19 : decode cX8_keep 19 = .ok (.invokevirtual 236, 3) := by decide +kernel
theorem dX8_keep_22 : decode cX8_keep 22 = .ok (.aload_n 0, 1) := by decide +kernel
theorem dX8_keep_23 : decode cX8_keep 23 = .ok (.getfield 12, 3) := by decide +kernel
theorem dX8_keep_26 : decode cX8_keep 26 = .ok (.invokevirtual 90, 3) := by decide +kernel
theorem dX8_keep_29 : decode cX8_keep 29 = .ok (.ireturn, 1) := by decide +kernel
theorem dX8_again_0 : decode cX8_again 0 = .ok (.iload_n 1, 1) := by decide +kernel
theorem dX8_again_1 : decode cX8_again 1 = .ok (.invokestatic 233, 3) := by decide +kernel
theorem dX8_again_4 : decode cX8_again 4 = .ok (.ifCond .ne 5, 3) := by decide +kernel
theorem dX8_again_7 : decode cX8_again 7 = .ok (.iconst (-1), 1) := by decide +kernel
theorem dX8_again_8 : decode cX8_again 8 = .ok (.ireturn, 1) := by decide +kernel
theorem dX8_again_9 : decode cX8_again 9 = .ok (.aload_n 0, 1) := by decide +kernel
theorem dX8_again_10 : decode cX8_again 10 = .ok (.getfield 39, 3) := by decide +kernel
theorem dX8_again_13 : decode cX8_again 13 = .ok (.iload_n 1, 1) := by decide +kernel
theorem dX8_again_14 : decode cX8_again 14 = .ok (.aaload, 1) := by decide +kernel
theorem dX8_again_15 : decode cX8_again 15 = .ok (.invokevirtual 239, 3) := by decide +kernel
theorem dX8_again_18 : decode cX8_again 18 = .ok (.ifCond .ne 6, 3) := by decide +kernel
theorem dX8_again_21 : decode cX8_again 21 = .ok (.bipush (-3), 2) := by decide +kernel
theorem dX8_again_23 : decode cX8_again 23 = .ok (.ireturn, 1) := by decide +kernel
theorem dX8_again_24 : decode cX8_again 24 = .ok (.aload_n 0, 1) := by decide +kernel
theorem dX8_again_25 : decode cX8_again 25 = .ok (.getfield 12, 3) := by decide +kernel
theorem dX8_again_28 : decode cX8_again 28 = .ok (.aload_n 0, 1) := by decide +kernel
theorem dX8_again_29 : decode cX8_again 29 = .ok (.getfield 39, 3) := by decide +kernel
theorem dX8_again_32 : decode cX8_again 32 = .ok (.iload_n 1, 1) := by decide +kernel
theorem dX8_again_33 : decode cX8_again 33 = .ok (.aaload, 1) := by decide +kernel
theorem dX8_again_34 : decode cX8_again 34 = .ok (.invokevirtual 242, 3) := by decide +kernel
theorem dX8_again_37 : decode cX8_again 37 = .ok (.invokevirtual 225, 3) := by decide +kernel
theorem dX8_again_40 : decode cX8_again 40 = .ok (.aload_n 0, 1) := by decide +kernel
theorem dX8_again_41 : decode cX8_again 41 = .ok (.getfield 26, 3) := by decide +kernel
theorem dX8_again_44 : decode cX8_again 44 = .ok (.invokevirtual 245, 3) := by decide +kernel
theorem dX8_again_47 : decode cX8_again 47 = .ok (.aload_n 0, 1) := by decide +kernel
theorem dX8_again_48 : decode cX8_again 48 = .ok (.getfield 19, 3) := by decide +kernel
theorem dX8_again_51 : decode cX8_again 51 = .ok (.aload_n 0, 1) := by decide +kernel
theorem dX8_again_52 : decode cX8_again 52 = .ok (.getfield 12, 3) := by decide +kernel
theorem dX8_again_55 : decode cX8_again 55 = .ok (.invokevirtual 76, 3) := by decide +kernel
theorem dX8_again_58 : decode cX8_again 58 = .ok (.aload_n 0, 1) := by decide +kernel
theorem dX8_again_59 : decode cX8_again 59 = .ok (.getfield 12, 3) := by decide +kernel
theorem dX8_again_62 : decode cX8_again 62 = .ok (.invokevirtual 90, 3) := by decide +kernel
theorem dX8_again_65 : decode cX8_again 65 = .ok (.ireturn, 1) := by decide +kernel
theorem dX8_differ_0 : decode cX8_differ 0 = .ok (.iload_n 1, 1) := by decide +kernel
theorem dX8_differ_1 : decode cX8_differ 1 = .ok (.invokestatic 233, 3) := by decide +kernel
theorem dX8_differ_4 : decode cX8_differ 4 = .ok (.ifCond .ne 5, 3) := by decide +kernel
theorem dX8_differ_7 : decode cX8_differ 7 = .ok (.iconst (-1), 1) := by decide +kernel
theorem dX8_differ_8 : decode cX8_differ 8 = .ok (.ireturn, 1) := by decide +kernel
theorem dX8_differ_9 : decode cX8_differ 9 = .ok (.aload_n 0, 1) := by decide +kernel
theorem dX8_differ_10 : decode cX8_differ 10 = .ok (.getfield 39, 3) := by decide +kernel
theorem dX8_differ_13 : decode cX8_differ 13 = .ok (.iload_n 1, 1) := by decide +kernel
theorem dX8_differ_14 : decode cX8_differ 14 = .ok (.aaload, 1) := by decide +kernel
theorem dX8_differ_15 : decode cX8_differ 15 = .ok (.invokevirtual 239, 3) := by decide +kernel
theorem dX8_differ_18 : decode cX8_differ 18 = .ok (.ifCond .ne 6, 3) := by decide +kernel
theorem dX8_differ_21 : decode cX8_differ 21 = .ok (.bipush (-3), 2) := by decide +kernel
theorem dX8_differ_23 : decode cX8_differ 23 = .ok (.ireturn, 1) := by decide +kernel
theorem dX8_differ_24 : decode cX8_differ 24 = .ok (.aload_n 0, 1) := by decide +kernel
theorem dX8_differ_25 : decode cX8_differ 25 = .ok (.getfield 39, 3) := by decide +kernel
theorem dX8_differ_28 : decode cX8_differ 28 = .ok (.iload_n 1, 1) := by decide +kernel
theorem dX8_differ_29 : decode cX8_differ 29 = .ok (.aaload, 1) := by decide +kernel
theorem dX8_differ_30 : decode cX8_differ 30 = .ok (.invokevirtual 242, 3) := by decide +kernel
theorem dX8_differ_33 : decode cX8_differ 33 = .ok (.astore_n 3, 1) := by decide +kernel
theorem dX8_differ_34 : decode cX8_differ 34 = .ok (.iload_n 2, 1) := by decide +kernel
theorem dX8_differ_35 : decode cX8_differ 35 = .ok (.tableswitch 53 0 3 #[29, 35, 41, 47], 29) := by decide +kernel
theorem dX8_differ_64 : decode cX8_differ 64 = .ok (.aload_n 0, 1) := by decide +kernel
theorem dX8_differ_65 : decode cX8_differ 65 = .ok (.aload_n 3, 1) := by decide +kernel
theorem dX8_differ_66 : decode cX8_differ 66 = .ok (.invokevirtual 248, 3) := by decide +kernel
theorem dX8_differ_69 : decode cX8_differ 69 = .ok (.ireturn, 1) := by decide +kernel
theorem dX8_differ_70 : decode cX8_differ 70 = .ok (.aload_n 0, 1) := by decide +kernel
theorem dX8_differ_71 : decode cX8_differ 71 = .ok (.aload_n 3, 1) := by decide +kernel
theorem dX8_differ_72 : decode cX8_differ 72 = .ok (.invokevirtual 252, 3) := by decide +kernel
theorem dX8_differ_75 : decode cX8_differ 75 = .ok (.ireturn, 1) := by decide +kernel
theorem dX8_differ_76 : decode cX8_differ 76 = .ok (.aload_n 0, 1) := by decide +kernel
theorem dX8_differ_77 : decode cX8_differ 77 = .ok (.aload_n 3, 1) := by decide +kernel
theorem dX8_differ_78 : decode cX8_differ 78 = .ok (.invokevirtual 255, 3) := by decide +kernel
theorem dX8_differ_81 : decode cX8_differ 81 = .ok (.ireturn, 1) := by decide +kernel
theorem dX8_differ_82 : decode cX8_differ 82 = .ok (.aload_n 0, 1) := by decide +kernel
theorem dX8_differ_83 : decode cX8_differ 83 = .ok (.aload_n 3, 1) := by decide +kernel
theorem dX8_differ_84 : decode cX8_differ 84 = .ok (.invokevirtual 258, 3) := by decide +kernel
theorem dX8_differ_87 : decode cX8_differ 87 = .ok (.ireturn, 1) := by decide +kernel
theorem dX8_differ_88 : decode cX8_differ 88 = .ok (.bipush (-2), 2) := by decide +kernel
theorem dX8_differ_90 : decode cX8_differ 90 = .ok (.ireturn, 1) := by decide +kernel
theorem dX8_withoutLast_0 : decode cX8_withoutLast 0 = .ok (.lload_n 1, 1) := by decide +kernel
theorem dX8_withoutLast_1 : decode cX8_withoutLast 1 = .ok (.lstore_n 3, 1) := by decide +kernel
theorem dX8_withoutLast_2 : decode cX8_withoutLast 2 = .ok (.iconst 0, 1) := by decide +kernel
theorem dX8_withoutLast_3 : decode cX8_withoutLast 3 = .ok (.istore 5, 2) := by decide +kernel
theorem dX8_withoutLast_5 : decode cX8_withoutLast 5 = .ok (.iload 5, 2) := by decide +kernel
theorem dX8_withoutLast_7 : decode cX8_withoutLast 7 = .ok (.iload_n 0, 1) := by decide +kernel
theorem dX8_withoutLast_8 : decode cX8_withoutLast 8 = .ok (.if_icmp .ge 15, 3) := by decide +kernel
theorem dX8_withoutLast_11 : decode cX8_withoutLast 11 = .ok (.lload_n 3, 1) := by decide +kernel
theorem dX8_withoutLast_12 : decode cX8_withoutLast 12 = .ok (.ldc2_w 228, 3) := by decide +kernel
theorem dX8_withoutLast_15 : decode cX8_withoutLast 15 = .ok (.ldiv, 1) := by decide +kernel
theorem dX8_withoutLast_16 : decode cX8_withoutLast 16 = .ok (.lstore_n 3, 1) := by decide +kernel
theorem dX8_withoutLast_17 : decode cX8_withoutLast 17 = .ok (.iinc 5 1, 3) := by decide +kernel
theorem dX8_withoutLast_20 : decode cX8_withoutLast 20 = .ok (.goto (-15), 3) := by decide +kernel
theorem dX8_withoutLast_23 : decode cX8_withoutLast 23 = .ok (.lload_n 3, 1) := by decide +kernel
theorem dX8_withoutLast_24 : decode cX8_withoutLast 24 = .ok (.lreturn, 1) := by decide +kernel
theorem dX8_canBe_0 : decode cX8_canBe 0 = .ok (.iload_n 1, 1) := by decide +kernel
theorem dX8_canBe_1 : decode cX8_canBe 1 = .ok (.bipush 100, 2) := by decide +kernel
theorem dX8_canBe_3 : decode cX8_canBe 3 = .ok (.idiv, 1) := by decide +kernel
theorem dX8_canBe_4 : decode cX8_canBe 4 = .ok (.bipush 100, 2) := by decide +kernel
theorem dX8_canBe_6 : decode cX8_canBe 6 = .ok (.irem, 1) := by decide +kernel
theorem dX8_canBe_7 : decode cX8_canBe 7 = .ok (.istore_n 2, 1) := by decide +kernel
theorem dX8_canBe_8 : decode cX8_canBe 8 = .ok (.iload_n 1, 1) := by decide +kernel
theorem dX8_canBe_9 : decode cX8_canBe 9 = .ok (.bipush 100, 2) := by decide +kernel
theorem dX8_canBe_11 : decode cX8_canBe 11 = .ok (.irem, 1) := by decide +kernel
theorem dX8_canBe_12 : decode cX8_canBe 12 = .ok (.istore_n 3, 1) := by decide +kernel
theorem dX8_canBe_13 : decode cX8_canBe 13 = .ok (.iload_n 1, 1) := by decide +kernel
theorem dX8_canBe_14 : decode cX8_canBe 14 = .ok (.sipush 10000, 3) := by decide +kernel
theorem dX8_canBe_17 : decode cX8_canBe 17 = .ok (.idiv, 1) := by decide +kernel
theorem dX8_canBe_18 : decode cX8_canBe 18 = .ok (.tableswitch 138 1 5 #[34, 41, 59, 88, 120], 34) := by decide +kernel
theorem dX8_canBe_52 : decode cX8_canBe 52 = .ok (.aload_n 0, 1) := by decide +kernel
theorem dX8_canBe_53 : decode cX8_canBe 53 = .ok (.iload_n 2, 1) := by decide +kernel
theorem dX8_canBe_54 : decode cX8_canBe 54 = .ok (.iload_n 3, 1) := by decide +kernel
theorem dX8_canBe_55 : decode cX8_canBe 55 = .ok (.invokevirtual 261, 3) := by decide +kernel
theorem dX8_canBe_58 : decode cX8_canBe 58 = .ok (.ireturn, 1) := by decide +kernel
theorem dX8_canBe_59 : decode cX8_canBe 59 = .ok (.iload_n 3, 1) := by decide +kernel
theorem dX8_canBe_60 : decode cX8_canBe 60 = .ok (.ifCond .ne 15, 3) := by decide +kernel
theorem dX8_canBe_63 : decode cX8_canBe 63 = .ok (.aload_n 0, 1) := by decide +kernel
theorem dX8_canBe_64 : decode cX8_canBe 64 = .ok (.iload_n 2, 1) := by decide +kernel
theorem dX8_canBe_65 : decode cX8_canBe 65 = .ok (.invokevirtual 264, 3) := by decide +kernel
theorem dX8_canBe_68 : decode cX8_canBe 68 = .ok (.ifCond .eq 7, 3) := by decide +kernel
theorem dX8_canBe_71 : decode cX8_canBe 71 = .ok (.iconst 1, 1) := by decide +kernel
theorem dX8_canBe_72 : decode cX8_canBe 72 = .ok (.goto 4, 3) := by decide +kernel
theorem dX8_canBe_75 : decode cX8_canBe 75 = .ok (.iconst 0, 1) := by decide +kernel
theorem dX8_canBe_76 : decode cX8_canBe 76 = .ok (.ireturn, 1) := by decide +kernel
theorem dX8_canBe_77 : decode cX8_canBe 77 = .ok (.aload_n 0, 1) := by decide +kernel
theorem dX8_canBe_78 : decode cX8_canBe 78 = .ok (.getfield 43, 3) := by decide +kernel
theorem dX8_canBe_81 : decode cX8_canBe 81 = .ok (.iload_n 2, 1) := by decide +kernel
theorem dX8_canBe_82 : decode cX8_canBe 82 = .ok (.invokevirtual 79, 3) := by decide +kernel
theorem dX8_canBe_85 : decode cX8_canBe 85 = .ok (.ifCond .eq 19, 3) := by decide +kernel
theorem dX8_canBe_88 : decode cX8_canBe 88 = .ok (.aload_n 0, 1) := by decide +kernel
theorem dX8_canBe_89 : decode cX8_canBe 89 = .ok (.getfield 43, 3) := by decide +kernel
theorem dX8_canBe_92 : decode cX8_canBe 92 = .ok (.iload_n 2, 1) := by decide +kernel
theorem dX8_canBe_93 : decode cX8_canBe 93 = .ok (.invokevirtual 64, 3) := by decide +kernel
theorem dX8_canBe_96 : decode cX8_canBe 96 = .ok (.iload_n 3, 1) := by decide +kernel
theorem dX8_canBe_97 : decode cX8_canBe 97 = .ok (.if_icmp .ne 7, 3) := by decide +kernel
theorem dX8_canBe_100 : decode cX8_canBe 100 = .ok (.iconst 1, 1) := by decide +kernel
theorem dX8_canBe_101 : decode cX8_canBe 101 = .ok (.goto 4, 3) := by decide +kernel
theorem dX8_canBe_104 : decode cX8_canBe 104 = .ok (.iconst 0, 1) := by decide +kernel
theorem dX8_canBe_105 : decode cX8_canBe 105 = .ok (.ireturn, 1) := by decide +kernel
theorem dX8_canBe_106 : decode cX8_canBe 106 = .ok (.aload_n 0, 1) := by decide +kernel
theorem dX8_canBe_107 : decode cX8_canBe 107 = .ok (.getfield 43, 3) := by decide +kernel
theorem dX8_canBe_110 : decode cX8_canBe 110 = .ok (.iload_n 2, 1) := by decide +kernel
theorem dX8_canBe_111 : decode cX8_canBe 111 = .ok (.invokevirtual 79, 3) := by decide +kernel
theorem dX8_canBe_114 : decode cX8_canBe 114 = .ok (.ifCond .eq 22, 3) := by decide +kernel
theorem dX8_canBe_117 : decode cX8_canBe 117 = .ok (.aload_n 0, 1) := by decide +kernel
theorem dX8_canBe_118 : decode cX8_canBe 118 = .ok (.invokevirtual 267, 3) := by decide +kernel
theorem dX8_canBe_121 : decode cX8_canBe 121 = .ok (.iload_n 2, 1) := by decide +kernel
theorem dX8_canBe_122 : decode cX8_canBe 122 = .ok (.invokevirtual 119, 3) := by decide +kernel
theorem dX8_canBe_125 : decode cX8_canBe 125 = .ok (.getfield 123, 3) := by decide +kernel
theorem dX8_canBe_128 : decode cX8_canBe 128 = .ok (.iload_n 3, 1) := by decide +kernel
theorem dX8_canBe_129 : decode cX8_canBe 129 = .ok (.if_icmp .ne 7, 3) := by decide +kernel
theorem dX8_canBe_132 : decode cX8_canBe 132 = .ok (.iconst 1, 1) := by decide +kernel
theorem dX8_canBe_133 : decode cX8_canBe 133 = .ok (.goto 4, 3) := by decide +kernel
theorem dX8_canBe_136 : decode cX8_canBe 136 = .ok (.iconst 0, 1) := by decide +kernel
theorem dX8_canBe_137 : decode cX8_canBe 137 = .ok (.ireturn, 1) := by decide +kernel
theorem dX8_canBe_138 : decode cX8_canBe 138 = .ok (.aload_n 0, 1) := by decide +kernel
theorem dX8_canBe_139 : decode cX8_canBe 139 = .ok (.invokevirtual 267, 3) := by decide +kernel
theorem dX8_canBe_142 : decode cX8_canBe 142 = .ok (.iload_n 2, 1) := by decide +kernel
theorem dX8_canBe_143 : decode cX8_canBe 143 = .ok (.invokevirtual 173, 3) := by decide +kernel
theorem dX8_canBe_146 : decode cX8_canBe 146 = .ok (.iload_n 3, 1) := by decide +kernel
theorem dX8_canBe_147 : decode cX8_canBe 147 = .ok (.if_icmp .ne 7, 3) := by decide +kernel
theorem dX8_canBe_150 : decode cX8_canBe 150 = .ok (.iconst 1, 1) := by decide +kernel
theorem dX8_canBe_151 : decode cX8_canBe 151 = .ok (.goto 4, 3) := by decide +kernel
theorem dX8_canBe_154 : decode cX8_canBe 154 = .ok (.iconst 0, 1) := by decide +kernel
theorem dX8_canBe_155 : decode cX8_canBe 155 = .ok (.ireturn, 1) := by decide +kernel
theorem dX8_canBe_156 : decode cX8_canBe 156 = .ok (.iconst 0, 1) := by decide +kernel
theorem dX8_canBe_157 : decode cX8_canBe 157 = .ok (.ireturn, 1) := by decide +kernel
end
section
theorem dX8_tryPut_0 : decode cX8_tryPut 0 = .ok (.aload_n 0, 1) := by decide +kernel
theorem dX8_tryPut_1 : decode cX8_tryPut 1 = .ok (.getfield 43, 3) := by decide +kernel
theorem dX8_tryPut_4 : decode cX8_tryPut 4 = .ok (.iload_n 1, 1) := by decide +kernel
theorem dX8_tryPut_5 : decode cX8_tryPut 5 = .ok (.invokevirtual 61, 3) := by decide +kernel
theorem dX8_tryPut_8 : decode cX8_tryPut 8 = .ok (.ifCond .ne 5, 3) := by decide +kernel
theorem dX8_tryPut_11 : decode cX8_tryPut 11 = .ok (.iconst 0, 1) := by decide +kernel
theorem dX8_tryPut_12 : decode cX8_tryPut 12 = .ok (.ireturn, 1) := by decide +kernel
theorem dX8_tryPut_13 : decode cX8_tryPut 13 = .ok (.aload_n 0, 1) := by decide +kernel
theorem dX8_tryPut_14 : decode cX8_tryPut 14 = .ok (.getfield 43, 3) := by decide +kernel
theorem dX8_tryPut_17 : decode cX8_tryPut 17 = .ok (.iload_n 1, 1) := by decide +kernel
theorem dX8_tryPut_18 : decode cX8_tryPut 18 = .ok (.iload_n 2, 1) := by decide +kernel
theorem dX8_tryPut_19 : decode cX8_tryPut 19 = .ok (.invokevirtual 72, 3) := by decide +kernel
theorem dX8_tryPut_22 : decode cX8_tryPut 22 = .ok (.iconst 1, 1) := by decide +kernel
theorem dX8_tryPut_23 : decode cX8_tryPut 23 = .ok (.ireturn, 1) := by decide +kernel
theorem dX8_tryRemove_0 : decode cX8_tryRemove 0 = .ok (.aload_n 0, 1) := by decide +kernel
theorem dX8_tryRemove_1 : decode cX8_tryRemove 1 = .ok (.getfield 43, 3) := by decide +kernel
theorem dX8_tryRemove_4 : decode cX8_tryRemove 4 = .ok (.iload_n 1, 1) := by decide +kernel
theorem dX8_tryRemove_5 : decode cX8_tryRemove 5 = .ok (.invokevirtual 79, 3) := by decide +kernel
theorem dX8_tryRemove_8 : decode cX8_tryRemove 8 = .ok (.ifCond .ne 5, 3) := by decide +kernel
theorem dX8_tryRemove_11 : decode cX8_tryRemove 11 = .ok (.iconst 0, 1) := by decide +kernel
theorem dX8_tryRemove_12 : decode cX8_tryRemove 12 = .ok (.ireturn, 1) := by decide +kernel
theorem dX8_tryRemove_13 : decode cX8_tryRemove 13 = .ok (.aload_n 0, 1) := by decide +kernel
theorem dX8_tryRemove_14 : decode cX8_tryRemove 14 = .ok (.getfield 43, 3) := by decide +kernel
theorem dX8_tryRemove_17 : decode cX8_tryRemove 17 = .ok (.iload_n 1, 1) := by decide +kernel
theorem dX8_tryRemove_18 : decode cX8_tryRemove 18 = .ok (.invokevirtual 82, 3) := by decide +kernel
theorem dX8_tryRemove_21 : decode cX8_tryRemove 21 = .ok (.iconst 1, 1) := by decide +kernel
theorem dX8_tryRemove_22 : decode cX8_tryRemove 22 = .ok (.ireturn, 1) := by decide +kernel
theorem dX8_trialTree_0 : decode cX8_trialTree 0 = .ok (.aload_n 0, 1) := by decide +kernel
theorem dX8_trialTree_1 : decode cX8_trialTree 1 = .ok (.getfield 46, 3) := by decide +kernel
theorem dX8_trialTree_4 : decode cX8_trialTree 4 = .ok (.aload_n 0, 1) := by decide +kernel
theorem dX8_trialTree_5 : decode cX8_trialTree 5 = .ok (.getfield 43, 3) := by decide +kernel
theorem dX8_trialTree_8 : decode cX8_trialTree 8 = .ok (.invokevirtual 76, 3) := by decide +kernel
theorem dX8_trialTree_11 : decode cX8_trialTree 11 = .ok (.aload_n 0, 1) := by decide +kernel
theorem dX8_trialTree_12 : decode cX8_trialTree 12 = .ok (.getfield 46, 3) := by decide +kernel
theorem dX8_trialTree_15 : decode cX8_trialTree 15 = .ok (.areturn, 1) := by decide +kernel
theorem dX8_countOtherwise_0 : decode cX8_countOtherwise 0 = .ok (.iconst 0, 1) := by decide +kernel
theorem dX8_countOtherwise_1 : decode cX8_countOtherwise 1 = .ok (.istore_n 2, 1) := by decide +kernel
theorem dX8_countOtherwise_2 : decode cX8_countOtherwise 2 = .ok (.iconst 0, 1) := by decide +kernel
theorem dX8_countOtherwise_3 : decode cX8_countOtherwise 3 = .ok (.istore_n 3, 1) := by decide +kernel
theorem dX8_countOtherwise_4 : decode cX8_countOtherwise 4 = .ok (.iload_n 3, 1) := by decide +kernel
theorem dX8_countOtherwise_5 : decode cX8_countOtherwise 5 = .ok (.bipush 100, 2) := by decide +kernel
theorem dX8_countOtherwise_7 : decode cX8_countOtherwise 7 = .ok (.if_icmp .ge 28, 3) := by decide +kernel
theorem dX8_countOtherwise_10 : decode cX8_countOtherwise 10 = .ok (.aload_n 0, 1) := by decide +kernel
theorem dX8_countOtherwise_11 : decode cX8_countOtherwise 11 = .ok (.getfield 12, 3) := by decide +kernel
theorem dX8_countOtherwise_14 : decode cX8_countOtherwise 14 = .ok (.iload_n 3, 1) := by decide +kernel
theorem dX8_countOtherwise_15 : decode cX8_countOtherwise 15 = .ok (.invokevirtual 64, 3) := by decide +kernel
theorem dX8_countOtherwise_18 : decode cX8_countOtherwise 18 = .ok (.aload_n 1, 1) := by decide +kernel
theorem dX8_countOtherwise_19 : decode cX8_countOtherwise 19 = .ok (.iload_n 3, 1) := by decide +kernel
theorem dX8_countOtherwise_20 : decode cX8_countOtherwise 20 = .ok (.invokevirtual 64, 3) := by decide +kernel
theorem dX8_countOtherwise_23 : decode cX8_countOtherwise 23 = .ok (.if_icmp .eq 6, 3) := by decide +kernel
theorem dX8_countOtherwise_26 : decode cX8_countOtherwise 26 = .ok (.iinc 2 1, 3) := by decide +kernel
theorem dX8_countOtherwise_29 : decode cX8_countOtherwise 29 = .ok (.iinc 3 1, 3) := by decide +kernel
theorem dX8_countOtherwise_32 : decode cX8_countOtherwise 32 = .ok (.goto (-28), 3) := by decide +kernel
theorem dX8_countOtherwise_35 : decode cX8_countOtherwise 35 = .ok (.iload_n 2, 1) := by decide +kernel
theorem dX8_countOtherwise_36 : decode cX8_countOtherwise 36 = .ok (.ireturn, 1) := by decide +kernel
theorem dX8_leastOtherwise_0 : decode cX8_leastOtherwise 0 = .ok (.iconst 0, 1) := by decide +kernel
theorem dX8_leastOtherwise_1 : decode cX8_leastOtherwise 1 = .ok (.istore_n 2, 1) := by decide +kernel
theorem dX8_leastOtherwise_2 : decode cX8_leastOtherwise 2 = .ok (.iload_n 2, 1) := by decide +kernel
theorem dX8_leastOtherwise_3 : decode cX8_leastOtherwise 3 = .ok (.bipush 100, 2) := by decide +kernel
theorem dX8_leastOtherwise_5 : decode cX8_leastOtherwise 5 = .ok (.if_icmp .ge 27, 3) := by decide +kernel
theorem dX8_leastOtherwise_8 : decode cX8_leastOtherwise 8 = .ok (.aload_n 0, 1) := by decide +kernel
theorem dX8_leastOtherwise_9 : decode cX8_leastOtherwise 9 = .ok (.getfield 12, 3) := by decide +kernel
theorem dX8_leastOtherwise_12 : decode cX8_leastOtherwise 12 = .ok (.iload_n 2, 1) := by decide +kernel
theorem dX8_leastOtherwise_13 : decode cX8_leastOtherwise 13 = .ok (.invokevirtual 64, 3) := by decide +kernel
theorem dX8_leastOtherwise_16 : decode cX8_leastOtherwise 16 = .ok (.aload_n 1, 1) := by decide +kernel
theorem dX8_leastOtherwise_17 : decode cX8_leastOtherwise 17 = .ok (.iload_n 2, 1) := by decide +kernel
theorem dX8_leastOtherwise_18 : decode cX8_leastOtherwise 18 = .ok (.invokevirtual 64, 3) := by decide +kernel
theorem dX8_leastOtherwise_21 : decode cX8_leastOtherwise 21 = .ok (.if_icmp .eq 5, 3) := by decide +kernel
theorem dX8_leastOtherwise_24 : decode cX8_leastOtherwise 24 = .ok (.iload_n 2, 1) := by decide +kernel
theorem dX8_leastOtherwise_25 : decode cX8_leastOtherwise 25 = .ok (.ireturn, 1) := by decide +kernel
theorem dX8_leastOtherwise_26 : decode cX8_leastOtherwise 26 = .ok (.iinc 2 1, 3) := by decide +kernel
theorem dX8_leastOtherwise_29 : decode cX8_leastOtherwise 29 = .ok (.goto (-27), 3) := by decide +kernel
theorem dX8_leastOtherwise_32 : decode cX8_leastOtherwise 32 = .ok (.bipush (-9), 2) := by decide +kernel
theorem dX8_leastOtherwise_34 : decode cX8_leastOtherwise 34 = .ok (.ireturn, 1) := by decide +kernel
theorem dX8_countPassedOver_0 : decode cX8_countPassedOver 0 = .ok (.aload_n 0, 1) := by decide +kernel
theorem dX8_countPassedOver_1 : decode cX8_countPassedOver 1 = .ok (.getfield 46, 3) := by decide +kernel
theorem dX8_countPassedOver_4 : decode cX8_countPassedOver 4 = .ok (.aload_n 1, 1) := by decide +kernel
theorem dX8_countPassedOver_5 : decode cX8_countPassedOver 5 = .ok (.invokevirtual 76, 3) := by decide +kernel
theorem dX8_countPassedOver_8 : decode cX8_countPassedOver 8 = .ok (.iconst 0, 1) := by decide +kernel
theorem dX8_countPassedOver_9 : decode cX8_countPassedOver 9 = .ok (.istore_n 2, 1) := by decide +kernel
theorem dX8_countPassedOver_10 : decode cX8_countPassedOver 10 = .ok (.iconst 0, 1) := by decide +kernel
theorem dX8_countPassedOver_11 : decode cX8_countPassedOver 11 = .ok (.istore_n 3, 1) := by decide +kernel
theorem dX8_countPassedOver_12 : decode cX8_countPassedOver 12 = .ok (.iload_n 3, 1) := by decide +kernel
theorem dX8_countPassedOver_13 : decode cX8_countPassedOver 13 = .ok (.bipush 100, 2) := by decide +kernel
theorem dX8_countPassedOver_15 : decode cX8_countPassedOver 15 = .ok (.if_icmp .ge 27, 3) := by decide +kernel
theorem dX8_countPassedOver_18 : decode cX8_countPassedOver 18 = .ok (.aload_n 0, 1) := by decide +kernel
theorem dX8_countPassedOver_19 : decode cX8_countPassedOver 19 = .ok (.getfield 19, 3) := by decide +kernel
theorem dX8_countPassedOver_22 : decode cX8_countPassedOver 22 = .ok (.iload_n 3, 1) := by decide +kernel
theorem dX8_countPassedOver_23 : decode cX8_countPassedOver 23 = .ok (.aload_n 0, 1) := by decide +kernel
theorem dX8_countPassedOver_24 : decode cX8_countPassedOver 24 = .ok (.getfield 46, 3) := by decide +kernel
theorem dX8_countPassedOver_27 : decode cX8_countPassedOver 27 = .ok (.invokevirtual 271, 3) := by decide +kernel
theorem dX8_countPassedOver_30 : decode cX8_countPassedOver 30 = .ok (.ifCond .eq 6, 3) := by decide +kernel
theorem dX8_countPassedOver_33 : decode cX8_countPassedOver 33 = .ok (.iinc 2 1, 3) := by decide +kernel
theorem dX8_countPassedOver_36 : decode cX8_countPassedOver 36 = .ok (.iinc 3 1, 3) := by decide +kernel
theorem dX8_countPassedOver_39 : decode cX8_countPassedOver 39 = .ok (.goto (-27), 3) := by decide +kernel
theorem dX8_countPassedOver_42 : decode cX8_countPassedOver 42 = .ok (.iload_n 2, 1) := by decide +kernel
theorem dX8_countPassedOver_43 : decode cX8_countPassedOver 43 = .ok (.ireturn, 1) := by decide +kernel
theorem dX8_countNodesPassedOver_0 : decode cX8_countNodesPassedOver 0 = .ok (.aload_n 0, 1) := by decide +kernel
theorem dX8_countNodesPassedOver_1 : decode cX8_countNodesPassedOver 1 = .ok (.getfield 46, 3) := by decide +kernel
theorem dX8_countNodesPassedOver_4 : decode cX8_countNodesPassedOver 4 = .ok (.aload_n 1, 1) := by decide +kernel
theorem dX8_countNodesPassedOver_5 : decode cX8_countNodesPassedOver 5 = .ok (.invokevirtual 76, 3) := by decide +kernel
theorem dX8_countNodesPassedOver_8 : decode cX8_countNodesPassedOver 8 = .ok (.iconst 0, 1) := by decide +kernel
theorem dX8_countNodesPassedOver_9 : decode cX8_countNodesPassedOver 9 = .ok (.istore_n 2, 1) := by decide +kernel
theorem dX8_countNodesPassedOver_10 : decode cX8_countNodesPassedOver 10 = .ok (.iconst 0, 1) := by decide +kernel
theorem dX8_countNodesPassedOver_11 : decode cX8_countNodesPassedOver 11 = .ok (.istore_n 3, 1) := by decide +kernel
theorem dX8_countNodesPassedOver_12 : decode cX8_countNodesPassedOver 12 = .ok (.iload_n 3, 1) := by decide +kernel
theorem dX8_countNodesPassedOver_13 : decode cX8_countNodesPassedOver 13 = .ok (.bipush 100, 2) := by decide +kernel
theorem dX8_countNodesPassedOver_15 : decode cX8_countNodesPassedOver 15 = .ok (.if_icmp .ge 54, 3) := by decide +kernel
theorem dX8_countNodesPassedOver_18 : decode cX8_countNodesPassedOver 18 = .ok (.aload_n 0, 1) := by decide +kernel
theorem dX8_countNodesPassedOver_19 : decode cX8_countNodesPassedOver 19 = .ok (.getfield 19, 3) := by decide +kernel
theorem dX8_countNodesPassedOver_22 : decode cX8_countNodesPassedOver 22 = .ok (.iload_n 3, 1) := by decide +kernel
theorem dX8_countNodesPassedOver_23 : decode cX8_countNodesPassedOver 23 = .ok (.aload_n 0, 1) := by decide +kernel
theorem dX8_countNodesPassedOver_24 : decode cX8_countNodesPassedOver 24 = .ok (.getfield 46, 3) := by decide +kernel
theorem dX8_countNodesPassedOver_27 : decode cX8_countNodesPassedOver 27 = .ok (.invokevirtual 271, 3) := by decide +kernel
theorem dX8_countNodesPassedOver_30 : decode cX8_countNodesPassedOver 30 = .ok (.ifCond .eq 33, 3) := by decide +kernel
theorem dX8_countNodesPassedOver_33 : decode cX8_countNodesPassedOver 33 = .ok (.aload_n 0, 1) := by decide +kernel
theorem dX8_countNodesPassedOver_34 : decode cX8_countNodesPassedOver 34 = .ok (.getfield 19, 3) := by decide +kernel
theorem dX8_countNodesPassedOver_37 : decode cX8_countNodesPassedOver 37 = .ok (.iload_n 3, 1) := by decide +kernel
theorem dX8_countNodesPassedOver_38 : decode cX8_countNodesPassedOver 38 = .ok (.invokevirtual 119, 3) := by decide +kernel
theorem dX8_countNodesPassedOver_41 : decode cX8_countNodesPassedOver 41 = .ok (.astore 4, 2) := by decide +kernel
theorem dX8_countNodesPassedOver_43 : decode cX8_countNodesPassedOver 43 = .ok (.iload_n 2, 1) := by decide +kernel
theorem dX8_countNodesPassedOver_44 : decode cX8_countNodesPassedOver 44 = .ok (.aload_n 0, 1) := by decide +kernel
theorem dX8_countNodesPassedOver_45 : decode cX8_countNodesPassedOver 45 = .ok (.getfield 12, 3) := by decide +kernel
theorem dX8_countNodesPassedOver_48 : decode cX8_countNodesPassedOver 48 = .ok (.aload 4, 2) := by decide +kernel
theorem dX8_countNodesPassedOver_50 : decode cX8_countNodesPassedOver 50 = .ok (.getfield 138, 3) := by decide +kernel
theorem dX8_countNodesPassedOver_53 : decode cX8_countNodesPassedOver 53 = .ok (.aload 4, 2) := by decide +kernel
theorem dX8_countNodesPassedOver_55 : decode cX8_countNodesPassedOver 55 = .ok (.getfield 141, 3) := by decide +kernel
theorem dX8_countNodesPassedOver_58 : decode cX8_countNodesPassedOver 58 = .ok (.invokevirtual 144, 3) := by decide +kernel
theorem dX8_countNodesPassedOver_61 : decode cX8_countNodesPassedOver 61 = .ok (.iadd, 1) := by decide +kernel
theorem dX8_countNodesPassedOver_62 : decode cX8_countNodesPassedOver 62 = .ok (.istore_n 2, 1) := by decide +kernel
theorem dX8_countNodesPassedOver_63 : decode cX8_countNodesPassedOver 63 = .ok (.iinc 3 1, 3) := by decide +kernel
theorem dX8_countNodesPassedOver_66 : decode cX8_countNodesPassedOver 66 = .ok (.goto (-54), 3) := by decide +kernel
theorem dX8_countNodesPassedOver_69 : decode cX8_countNodesPassedOver 69 = .ok (.iload_n 2, 1) := by decide +kernel
theorem dX8_countNodesPassedOver_70 : decode cX8_countNodesPassedOver 70 = .ok (.ireturn, 1) := by decide +kernel
theorem dX8_isNumber_0 : decode cX8_isNumber 0 = .ok (.iload_n 0, 1) := by decide +kernel
theorem dX8_isNumber_1 : decode cX8_isNumber 1 = .ok (.ifCond .lt 13, 3) := by decide +kernel
theorem dX8_isNumber_4 : decode cX8_isNumber 4 = .ok (.iload_n 0, 1) := by decide +kernel
theorem dX8_isNumber_5 : decode cX8_isNumber 5 = .ok (.bipush 100, 2) := by decide +kernel
theorem dX8_isNumber_7 : decode cX8_isNumber 7 = .ok (.if_icmp .ge 7, 3) := by decide +kernel
theorem dX8_isNumber_10 : decode cX8_isNumber 10 = .ok (.iconst 1, 1) := by decide +kernel
theorem dX8_isNumber_11 : decode cX8_isNumber 11 = .ok (.goto 4, 3) := by decide +kernel
theorem dX8_isNumber_14 : decode cX8_isNumber 14 = .ok (.iconst 0, 1) := by decide +kernel
theorem dX8_isNumber_15 : decode cX8_isNumber 15 = .ok (.ireturn, 1) := by decide +kernel
theorem dX8_isRange_0 : decode cX8_isRange 0 = .ok (.iconst 0, 1) := by decide +kernel
theorem dX8_isRange_1 : decode cX8_isRange 1 = .ok (.iload_n 0, 1) := by decide +kernel
theorem dX8_isRange_2 : decode cX8_isRange 2 = .ok (.if_icmp .gt 18, 3) := by decide +kernel
theorem dX8_isRange_5 : decode cX8_isRange 5 = .ok (.iload_n 0, 1) := by decide +kernel
theorem dX8_isRange_6 : decode cX8_isRange 6 = .ok (.iload_n 1, 1) := by decide +kernel
theorem dX8_isRange_7 : decode cX8_isRange 7 = .ok (.if_icmp .gt 13, 3) := by decide +kernel
theorem dX8_isRange_10 : decode cX8_isRange 10 = .ok (.iload_n 1, 1) := by decide +kernel
theorem dX8_isRange_11 : decode cX8_isRange 11 = .ok (.bipush 100, 2) := by decide +kernel
theorem dX8_isRange_13 : decode cX8_isRange 13 = .ok (.if_icmp .ge 7, 3) := by decide +kernel
theorem dX8_isRange_16 : decode cX8_isRange 16 = .ok (.iconst 1, 1) := by decide +kernel
theorem dX8_isRange_17 : decode cX8_isRange 17 = .ok (.goto 4, 3) := by decide +kernel
theorem dX8_isRange_20 : decode cX8_isRange 20 = .ok (.iconst 0, 1) := by decide +kernel
theorem dX8_isRange_21 : decode cX8_isRange 21 = .ok (.ireturn, 1) := by decide +kernel
theorem dX8_isItem_0 : decode cX8_isItem 0 = .ok (.iload_n 0, 1) := by decide +kernel
theorem dX8_isItem_1 : decode cX8_isItem 1 = .ok (.ifCond .ge 10, 3) := by decide +kernel
theorem dX8_isItem_4 : decode cX8_isItem 4 = .ok (.iload_n 0, 1) := by decide +kernel
theorem dX8_isItem_5 : decode cX8_isItem 5 = .ok (.invokestatic 275, 3) := by decide +kernel
theorem dX8_isItem_8 : decode cX8_isItem 8 = .ok (.ifCond .eq 7, 3) := by decide +kernel
theorem dX8_isItem_11 : decode cX8_isItem 11 = .ok (.iconst 1, 1) := by decide +kernel
theorem dX8_isItem_12 : decode cX8_isItem 12 = .ok (.goto 4, 3) := by decide +kernel
theorem dX8_isItem_15 : decode cX8_isItem 15 = .ok (.iconst 0, 1) := by decide +kernel
theorem dX8_isItem_16 : decode cX8_isItem 16 = .ok (.ireturn, 1) := by decide +kernel
theorem dX8_isNodeItem_0 : decode cX8_isNodeItem 0 = .ok (.iload_n 0, 1) := by decide +kernel
theorem dX8_isNodeItem_1 : decode cX8_isNodeItem 1 = .ok (.bipush (-100), 2) := by decide +kernel
theorem dX8_isNodeItem_3 : decode cX8_isNodeItem 3 = .ok (.if_icmp .gt 14, 3) := by decide +kernel
theorem dX8_isNodeItem_6 : decode cX8_isNodeItem 6 = .ok (.iload_n 0, 1) := by decide +kernel
theorem dX8_isNodeItem_7 : decode cX8_isNodeItem 7 = .ok (.sipush (-10099), 3) := by decide +kernel
theorem dX8_isNodeItem_10 : decode cX8_isNodeItem 10 = .ok (.if_icmp .lt 7, 3) := by decide +kernel
theorem dX8_isNodeItem_13 : decode cX8_isNodeItem 13 = .ok (.iconst 1, 1) := by decide +kernel
theorem dX8_isNodeItem_14 : decode cX8_isNodeItem 14 = .ok (.goto 4, 3) := by decide +kernel
theorem dX8_isNodeItem_17 : decode cX8_isNodeItem 17 = .ok (.iconst 0, 1) := by decide +kernel
theorem dX8_isNodeItem_18 : decode cX8_isNodeItem 18 = .ok (.ireturn, 1) := by decide +kernel
theorem dX8_isStep_0 : decode cX8_isStep 0 = .ok (.iload_n 0, 1) := by decide +kernel
theorem dX8_isStep_1 : decode cX8_isStep 1 = .ok (.invokestatic 57, 3) := by decide +kernel
theorem dX8_isStep_4 : decode cX8_isStep 4 = .ok (.ifCond .eq 20, 3) := by decide +kernel
theorem dX8_isStep_7 : decode cX8_isStep 7 = .ok (.iload_n 1, 1) := by decide +kernel
theorem dX8_isStep_8 : decode cX8_isStep 8 = .ok (.invokestatic 57, 3) := by decide +kernel
theorem dX8_isStep_11 : decode cX8_isStep 11 = .ok (.ifCond .ne 9, 3) := by decide +kernel
theorem dX8_isStep_14 : decode cX8_isStep 14 = .ok (.iload_n 1, 1) := by decide +kernel
theorem dX8_isStep_15 : decode cX8_isStep 15 = .ok (.bipush (-9), 2) := by decide +kernel
theorem dX8_isStep_17 : decode cX8_isStep 17 = .ok (.if_icmp .ne 7, 3) := by decide +kernel
theorem dX8_isStep_20 : decode cX8_isStep 20 = .ok (.iconst 1, 1) := by decide +kernel
theorem dX8_isStep_21 : decode cX8_isStep 21 = .ok (.goto 4, 3) := by decide +kernel
theorem dX8_isStep_24 : decode cX8_isStep 24 = .ok (.iconst 0, 1) := by decide +kernel
theorem dX8_isStep_25 : decode cX8_isStep 25 = .ok (.ireturn, 1) := by decide +kernel
theorem dX8_isSlot_0 : decode cX8_isSlot 0 = .ok (.iload_n 0, 1) := by decide +kernel
theorem dX8_isSlot_1 : decode cX8_isSlot 1 = .ok (.ifCond .lt 12, 3) := by decide +kernel
theorem dX8_isSlot_4 : decode cX8_isSlot 4 = .ok (.iload_n 0, 1) := by decide +kernel
theorem dX8_isSlot_5 : decode cX8_isSlot 5 = .ok (.iconst 2, 1) := by decide +kernel
theorem dX8_isSlot_6 : decode cX8_isSlot 6 = .ok (.if_icmp .ge 7, 3) := by decide +kernel
theorem dX8_isSlot_9 : decode cX8_isSlot 9 = .ok (.iconst 1, 1) := by decide +kernel
theorem dX8_isSlot_10 : decode cX8_isSlot 10 = .ok (.goto 4, 3) := by decide +kernel
theorem dX8_isSlot_13 : decode cX8_isSlot 13 = .ok (.iconst 0, 1) := by decide +kernel
theorem dX8_isSlot_14 : decode cX8_isSlot 14 = .ok (.ireturn, 1) := by decide +kernel
theorem dX8_rankOf_0 : decode cX8_rankOf 0 = .ok (.iload_n 0, 1) := by decide +kernel
theorem dX8_rankOf_1 : decode cX8_rankOf 1 = .ok (.i2l, 1) := by decide +kernel
theorem dX8_rankOf_2 : decode cX8_rankOf 2 = .ok (.ldc2_w 278, 3) := by decide +kernel
theorem dX8_rankOf_5 : decode cX8_rankOf 5 = .ok (.ladd, 1) := by decide +kernel
theorem dX8_rankOf_6 : decode cX8_rankOf 6 = .ok (.lstore_n 1, 1) := by decide +kernel
theorem dX8_rankOf_7 : decode cX8_rankOf 7 = .ok (.ldc2_w 280, 3) := by decide +kernel
theorem dX8_rankOf_10 : decode cX8_rankOf 10 = .ok (.lload_n 1, 1) := by decide +kernel
theorem dX8_rankOf_11 : decode cX8_rankOf 11 = .ok (.lmul, 1) := by decide +kernel
theorem dX8_rankOf_12 : decode cX8_rankOf 12 = .ok (.lload_n 1, 1) := by decide +kernel
theorem dX8_rankOf_13 : decode cX8_rankOf 13 = .ok (.lmul, 1) := by decide +kernel
theorem dX8_rankOf_14 : decode cX8_rankOf 14 = .ok (.lload_n 1, 1) := by decide +kernel
theorem dX8_rankOf_15 : decode cX8_rankOf 15 = .ok (.lmul, 1) := by decide +kernel
theorem dX8_rankOf_16 : decode cX8_rankOf 16 = .ok (.ldc2_w 282, 3) := by decide +kernel
theorem dX8_rankOf_19 : decode cX8_rankOf 19 = .ok (.lrem, 1) := by decide +kernel
theorem dX8_rankOf_20 : decode cX8_rankOf 20 = .ok (.l2i, 1) := by decide +kernel
theorem dX8_rankOf_21 : decode cX8_rankOf 21 = .ok (.ireturn, 1) := by decide +kernel
theorem dX8_isAbove_0 : decode cX8_isAbove 0 = .ok (.iload_n 0, 1) := by decide +kernel
theorem dX8_isAbove_1 : decode cX8_isAbove 1 = .ok (.invokestatic 150, 3) := by decide +kernel
theorem dX8_isAbove_4 : decode cX8_isAbove 4 = .ok (.istore_n 2, 1) := by decide +kernel
theorem dX8_isAbove_5 : decode cX8_isAbove 5 = .ok (.iload_n 1, 1) := by decide +kernel
theorem dX8_isAbove_6 : decode cX8_isAbove 6 = .ok (.invokestatic 150, 3) := by decide +kernel
theorem dX8_isAbove_9 : decode cX8_isAbove 9 = .ok (.istore_n 3, 1) := by decide +kernel
theorem dX8_isAbove_10 : decode cX8_isAbove 10 = .ok (.iload_n 2, 1) := by decide +kernel
theorem dX8_isAbove_11 : decode cX8_isAbove 11 = .ok (.iload_n 3, 1) := by decide +kernel
theorem dX8_isAbove_12 : decode cX8_isAbove 12 = .ok (.if_icmp .ne 16, 3) := by decide +kernel
theorem dX8_isAbove_15 : decode cX8_isAbove 15 = .ok (.iload_n 0, 1) := by decide +kernel
theorem dX8_isAbove_16 : decode cX8_isAbove 16 = .ok (.iload_n 1, 1) := by decide +kernel
theorem dX8_isAbove_17 : decode cX8_isAbove 17 = .ok (.if_icmp .ge 7, 3) := by decide +kernel
theorem dX8_isAbove_20 : decode cX8_isAbove 20 = .ok (.iconst 1, 1) := by decide +kernel
theorem dX8_isAbove_21 : decode cX8_isAbove 21 = .ok (.goto 17, 3) := by decide +kernel
theorem dX8_isAbove_24 : decode cX8_isAbove 24 = .ok (.iconst 0, 1) := by decide +kernel
theorem dX8_isAbove_25 : decode cX8_isAbove 25 = .ok (.goto 13, 3) := by decide +kernel
theorem dX8_isAbove_28 : decode cX8_isAbove 28 = .ok (.iload_n 2, 1) := by decide +kernel
theorem dX8_isAbove_29 : decode cX8_isAbove 29 = .ok (.iload_n 3, 1) := by decide +kernel
theorem dX8_isAbove_30 : decode cX8_isAbove 30 = .ok (.if_icmp .le 7, 3) := by decide +kernel
theorem dX8_isAbove_33 : decode cX8_isAbove 33 = .ok (.iconst 1, 1) := by decide +kernel
theorem dX8_isAbove_34 : decode cX8_isAbove 34 = .ok (.goto 4, 3) := by decide +kernel
theorem dX8_isAbove_37 : decode cX8_isAbove 37 = .ok (.iconst 0, 1) := by decide +kernel
theorem dX8_isAbove_38 : decode cX8_isAbove 38 = .ok (.ireturn, 1) := by decide +kernel
theorem dX8_digestOfNode_0 : decode cX8_digestOfNode 0 = .ok (.ldc2_w 284, 3) := by decide +kernel
theorem dX8_digestOfNode_3 : decode cX8_digestOfNode 3 = .ok (.lstore 4, 2) := by decide +kernel
theorem dX8_digestOfNode_5 : decode cX8_digestOfNode 5 = .ok (.lload 4, 2) := by decide +kernel
theorem dX8_digestOfNode_7 : decode cX8_digestOfNode 7 = .ok (.iload_n 0, 1) := by decide +kernel
theorem dX8_digestOfNode_8 : decode cX8_digestOfNode 8 = .ok (.invokestatic 286, 3) := by decide +kernel
theorem dX8_digestOfNode_11 : decode cX8_digestOfNode 11 = .ok (.lstore 4, 2) := by decide +kernel
theorem dX8_digestOfNode_13 : decode cX8_digestOfNode 13 = .ok (.lload 4, 2) := by decide +kernel
theorem dX8_digestOfNode_15 : decode cX8_digestOfNode 15 = .ok (.iload_n 1, 1) := by decide +kernel
theorem dX8_digestOfNode_16 : decode cX8_digestOfNode 16 = .ok (.invokestatic 286, 3) := by decide +kernel
theorem dX8_digestOfNode_19 : decode cX8_digestOfNode 19 = .ok (.lstore 4, 2) := by decide +kernel
theorem dX8_digestOfNode_21 : decode cX8_digestOfNode 21 = .ok (.lload 4, 2) := by decide +kernel
theorem dX8_digestOfNode_23 : decode cX8_digestOfNode 23 = .ok (.iload_n 2, 1) := by decide +kernel
theorem dX8_digestOfNode_24 : decode cX8_digestOfNode 24 = .ok (.invokestatic 286, 3) := by decide +kernel
theorem dX8_digestOfNode_27 : decode cX8_digestOfNode 27 = .ok (.lstore 4, 2) := by decide +kernel
theorem dX8_digestOfNode_29 : decode cX8_digestOfNode 29 = .ok (.lload 4, 2) := by decide +kernel
theorem dX8_digestOfNode_31 : decode cX8_digestOfNode 31 = .ok (.iload_n 3, 1) := by decide +kernel
theorem dX8_digestOfNode_32 : decode cX8_digestOfNode 32 = .ok (.invokestatic 286, 3) := by decide +kernel
theorem dX8_digestOfNode_35 : decode cX8_digestOfNode 35 = .ok (.lstore 4, 2) := by decide +kernel
theorem dX8_digestOfNode_37 : decode cX8_digestOfNode 37 = .ok (.lconst 1, 1) := by decide +kernel
theorem dX8_digestOfNode_38 : decode cX8_digestOfNode 38 = .ok (.lload 4, 2) := by decide +kernel
theorem dX8_digestOfNode_40 : decode cX8_digestOfNode 40 = .ok (.ladd, 1) := by decide +kernel
theorem dX8_digestOfNode_41 : decode cX8_digestOfNode 41 = .ok (.l2i, 1) := by decide +kernel
theorem dX8_digestOfNode_42 : decode cX8_digestOfNode 42 = .ok (.ireturn, 1) := by decide +kernel
theorem dX8_mixed_0 : decode cX8_mixed 0 = .ok (.ldc2_w 290, 3) := by decide +kernel
theorem dX8_mixed_3 : decode cX8_mixed 3 = .ok (.lload_n 0, 1) := by decide +kernel
theorem dX8_mixed_4 : decode cX8_mixed 4 = .ok (.lmul, 1) := by decide +kernel
theorem dX8_mixed_5 : decode cX8_mixed 5 = .ok (.iload_n 2, 1) := by decide +kernel
theorem dX8_mixed_6 : decode cX8_mixed 6 = .ok (.i2l, 1) := by decide +kernel
theorem dX8_mixed_7 : decode cX8_mixed 7 = .ok (.ladd, 1) := by decide +kernel
theorem dX8_mixed_8 : decode cX8_mixed 8 = .ok (.ldc2_w 292, 3) := by decide +kernel
theorem dX8_mixed_11 : decode cX8_mixed 11 = .ok (.lrem, 1) := by decide +kernel
theorem dX8_mixed_12 : decode cX8_mixed 12 = .ok (.lreturn, 1) := by decide +kernel
theorem dX8_nodeItem_0 : decode cX8_nodeItem 0 = .ok (.bipush (-100), 2) := by decide +kernel
theorem dX8_nodeItem_2 : decode cX8_nodeItem 2 = .ok (.bipush 100, 2) := by decide +kernel
theorem dX8_nodeItem_4 : decode cX8_nodeItem 4 = .ok (.iload_n 0, 1) := by decide +kernel
theorem dX8_nodeItem_5 : decode cX8_nodeItem 5 = .ok (.imul, 1) := by decide +kernel
theorem dX8_nodeItem_6 : decode cX8_nodeItem 6 = .ok (.iload_n 1, 1) := by decide +kernel
theorem dX8_nodeItem_7 : decode cX8_nodeItem 7 = .ok (.iadd, 1) := by decide +kernel
theorem dX8_nodeItem_8 : decode cX8_nodeItem 8 = .ok (.isub, 1) := by decide +kernel
theorem dX8_nodeItem_9 : decode cX8_nodeItem 9 = .ok (.ireturn, 1) := by decide +kernel
theorem dX8_keyOfItem_0 : decode cX8_keyOfItem 0 = .ok (.bipush (-100), 2) := by decide +kernel
theorem dX8_keyOfItem_2 : decode cX8_keyOfItem 2 = .ok (.iload_n 0, 1) := by decide +kernel
theorem dX8_keyOfItem_3 : decode cX8_keyOfItem 3 = .ok (.isub, 1) := by decide +kernel
theorem dX8_keyOfItem_4 : decode cX8_keyOfItem 4 = .ok (.bipush 100, 2) := by decide +kernel
theorem dX8_keyOfItem_6 : decode cX8_keyOfItem 6 = .ok (.idiv, 1) := by decide +kernel
theorem dX8_keyOfItem_7 : decode cX8_keyOfItem 7 = .ok (.ireturn, 1) := by decide +kernel
theorem dX8_valueOfItem_0 : decode cX8_valueOfItem 0 = .ok (.bipush (-100), 2) := by decide +kernel
theorem dX8_valueOfItem_2 : decode cX8_valueOfItem 2 = .ok (.iload_n 0, 1) := by decide +kernel
theorem dX8_valueOfItem_3 : decode cX8_valueOfItem 3 = .ok (.isub, 1) := by decide +kernel
theorem dX8_valueOfItem_4 : decode cX8_valueOfItem 4 = .ok (.bipush 100, 2) := by decide +kernel
theorem dX8_valueOfItem_6 : decode cX8_valueOfItem 6 = .ok (.irem, 1) := by decide +kernel
theorem dX8_valueOfItem_7 : decode cX8_valueOfItem 7 = .ok (.ireturn, 1) := by decide +kernel
theorem dX9_init_0 : decode cX9_init 0 = .ok (.aload_n 0, 1) := by decide +kernel
theorem dX9_init_1 : decode cX9_init 1 = .ok (.invokespecial 1, 3) := by decide +kernel
theorem dX9_init_4 : decode cX9_init 4 = .ok (.aload_n 0, 1) := by decide +kernel
theorem dX9_init_5 : decode cX9_init 5 = .ok (.bipush 100, 2) := by decide +kernel
theorem dX9_init_7 : decode cX9_init 7 = .ok (.newarray .int, 2) := by decide +kernel
theorem dX9_init_9 : decode cX9_init 9 = .ok (.putfield 7, 3) := by decide +kernel
theorem dX9_init_12 : decode cX9_init 12 = .ok (.aload_n 0, 1) := by decide +kernel
theorem dX9_init_13 : decode cX9_init 13 = .ok (.bipush 100, 2) := by decide +kernel
theorem dX9_init_15 : decode cX9_init 15 = .ok (.newarray .int, 2) := by decide +kernel
theorem dX9_init_17 : decode cX9_init 17 = .ok (.putfield 13, 3) := by decide +kernel
theorem dX9_init_20 : decode cX9_init 20 = .ok (.aload_n 0, 1) := by decide +kernel
theorem dX9_init_21 : decode cX9_init 21 = .ok (.sipush 1400, 3) := by decide +kernel
theorem dX9_init_24 : decode cX9_init 24 = .ok (.newarray .int, 2) := by decide +kernel
theorem dX9_init_26 : decode cX9_init 26 = .ok (.putfield 16, 3) := by decide +kernel
theorem dX9_init_29 : decode cX9_init 29 = .ok (.aload_n 0, 1) := by decide +kernel
theorem dX9_init_30 : decode cX9_init 30 = .ok (.sipush 200, 3) := by decide +kernel
theorem dX9_init_33 : decode cX9_init 33 = .ok (.newarray .int, 2) := by decide +kernel
theorem dX9_init_35 : decode cX9_init 35 = .ok (.putfield 19, 3) := by decide +kernel
theorem dX9_init_38 : decode cX9_init 38 = .ok (.aload_n 0, 1) := by decide +kernel
theorem dX9_init_39 : decode cX9_init 39 = .ok (.iconst 2, 1) := by decide +kernel
theorem dX9_init_40 : decode cX9_init 40 = .ok (.newarray .boolean, 2) := by decide +kernel
theorem dX9_init_42 : decode cX9_init 42 = .ok (.putfield 22, 3) := by decide +kernel
theorem dX9_init_45 : decode cX9_init 45 = .ok (.aload_n 0, 1) := by decide +kernel
theorem dX9_init_46 : decode cX9_init 46 = .ok (.sipush 200, 3) := by decide +kernel
theorem dX9_init_49 : decode cX9_init 49 = .ok (.newarray .int, 2) := by decide +kernel
theorem dX9_init_51 : decode cX9_init 51 = .ok (.putfield 26, 3) := by decide +kernel
theorem dX9_init_54 : decode cX9_init 54 = .ok (.aload_n 0, 1) := by decide +kernel
theorem dX9_init_55 : decode cX9_init 55 = .ok (.sipush 200, 3) := by decide +kernel
theorem dX9_init_58 : decode cX9_init 58 = .ok (.newarray .int, 2) := by decide +kernel
theorem dX9_init_60 : decode cX9_init 60 = .ok (.putfield 29, 3) := by decide +kernel
theorem dX9_init_63 : decode cX9_init 63 = .ok (.aload_n 0, 1) := by decide +kernel
theorem dX9_init_64 : decode cX9_init 64 = .ok (.sipush 200, 3) := by decide +kernel
theorem dX9_init_67 : decode cX9_init 67 = .ok (.newarray .int, 2) := by decide +kernel
theorem dX9_init_69 : decode cX9_init 69 = .ok (.putfield 32, 3) := by decide +kernel
theorem dX9_init_72 : decode cX9_init 72 = .ok (.aload_n 0, 1) := by decide +kernel
theorem dX9_init_73 : decode cX9_init 73 = .ok (.sipush 200, 3) := by decide +kernel
theorem dX9_init_76 : decode cX9_init 76 = .ok (.newarray .int, 2) := by decide +kernel
theorem dX9_init_78 : decode cX9_init 78 = .ok (.putfield 35, 3) := by decide +kernel
theorem dX9_init_81 : decode cX9_init 81 = .ok (.aload_n 0, 1) := by decide +kernel
theorem dX9_init_82 : decode cX9_init 82 = .ok (.sipush 200, 3) := by decide +kernel
theorem dX9_init_85 : decode cX9_init 85 = .ok (.newarray .int, 2) := by decide +kernel
theorem dX9_init_87 : decode cX9_init 87 = .ok (.putfield 38, 3) := by decide +kernel
theorem dX9_init_90 : decode cX9_init 90 = .ok (.aload_n 0, 1) := by decide +kernel
theorem dX9_init_91 : decode cX9_init 91 = .ok (.sipush 200, 3) := by decide +kernel
theorem dX9_init_94 : decode cX9_init 94 = .ok (.newarray .int, 2) := by decide +kernel
theorem dX9_init_96 : decode cX9_init 96 = .ok (.putfield 41, 3) := by decide +kernel
theorem dX9_init_99 : decode cX9_init 99 = .ok (.aload_n 0, 1) := by decide +kernel
theorem dX9_init_100 : decode cX9_init 100 = .ok (.sipush 200, 3) := by decide +kernel
theorem dX9_init_103 : decode cX9_init 103 = .ok (.newarray .int, 2) := by decide +kernel
theorem dX9_init_105 : decode cX9_init 105 = .ok (.putfield 44, 3) := by decide +kernel
theorem dX9_init_108 : decode cX9_init 108 = .ok (.aload_n 0, 1) := by decide +kernel
theorem dX9_init_109 : decode cX9_init 109 = .ok (.sipush 200, 3) := by decide +kernel
theorem dX9_init_112 : decode cX9_init 112 = .ok (.newarray .int, 2) := by decide +kernel
theorem dX9_init_114 : decode cX9_init 114 = .ok (.putfield 47, 3) := by decide +kernel
theorem dX9_init_117 : decode cX9_init 117 = .ok (.aload_n 0, 1) := by decide +kernel
theorem dX9_init_118 : decode cX9_init 118 = .ok (.iconst 2, 1) := by decide +kernel
theorem dX9_init_119 : decode cX9_init 119 = .ok (.newarray .int, 2) := by decide +kernel
theorem dX9_init_121 : decode cX9_init 121 = .ok (.putfield 50, 3) := by decide +kernel
theorem dX9_init_124 : decode cX9_init 124 = .ok (.aload_n 0, 1) := by decide +kernel
theorem dX9_init_125 : decode cX9_init 125 = .ok (.bipush 100, 2) := by decide +kernel
theorem dX9_init_127 : decode cX9_init 127 = .ok (.newarray .int, 2) := by decide +kernel
theorem dX9_init_129 : decode cX9_init 129 = .ok (.putfield 53, 3) := by decide +kernel
theorem dX9_init_132 : decode cX9_init 132 = .ok (.aload_n 0, 1) := by decide +kernel
theorem dX9_init_133 : decode cX9_init 133 = .ok (.bipush 110, 2) := by decide +kernel
theorem dX9_init_135 : decode cX9_init 135 = .ok (.newarray .int, 2) := by decide +kernel
theorem dX9_init_137 : decode cX9_init 137 = .ok (.putfield 56, 3) := by decide +kernel
theorem dX9_init_140 : decode cX9_init 140 = .ok (.aload_n 0, 1) := by decide +kernel
theorem dX9_init_141 : decode cX9_init 141 = .ok (.bipush 110, 2) := by decide +kernel
theorem dX9_init_143 : decode cX9_init 143 = .ok (.newarray .int, 2) := by decide +kernel
theorem dX9_init_145 : decode cX9_init 145 = .ok (.putfield 59, 3) := by decide +kernel
theorem dX9_init_148 : decode cX9_init 148 = .ok (.aload_n 0, 1) := by decide +kernel
theorem dX9_init_149 : decode cX9_init 149 = .ok (.bipush 110, 2) := by decide +kernel
theorem dX9_init_151 : decode cX9_init 151 = .ok (.newarray .int, 2) := by decide +kernel
theorem dX9_init_153 : decode cX9_init 153 = .ok (.putfield 62, 3) := by decide +kernel
theorem dX9_init_156 : decode cX9_init 156 = .ok (.aload_n 0, 1) := by decide +kernel
theorem dX9_init_157 : decode cX9_init 157 = .ok (.bipush 110, 2) := by decide +kernel
theorem dX9_init_159 : decode cX9_init 159 = .ok (.newarray .int, 2) := by decide +kernel
theorem dX9_init_161 : decode cX9_init 161 = .ok (.putfield 65, 3) := by decide +kernel
theorem dX9_init_164 : decode cX9_init 164 = .ok (.aload_n 0, 1) := by decide +kernel
theorem dX9_init_165 : decode cX9_init 165 = .ok (.bipush 100, 2) := by decide +kernel
theorem dX9_init_167 : decode cX9_init 167 = .ok (.newarray .int, 2) := by decide +kernel
theorem dX9_init_169 : decode cX9_init 169 = .ok (.putfield 68, 3) := by decide +kernel
theorem dX9_init_172 : decode cX9_init 172 = .ok (.aload_n 0, 1) := by decide +kernel
theorem dX9_init_173 : decode cX9_init 173 = .ok (.bipush 100, 2) := by decide +kernel
theorem dX9_init_175 : decode cX9_init 175 = .ok (.newarray .int, 2) := by decide +kernel
theorem dX9_init_177 : decode cX9_init 177 = .ok (.putfield 71, 3) := by decide +kernel
theorem dX9_init_180 : decode cX9_init 180 = .ok (.aload_n 0, 1) := by decide +kernel
theorem dX9_init_181 : decode cX9_init 181 = .ok (.bipush 8, 2) := by decide +kernel
theorem dX9_init_183 : decode cX9_init 183 = .ok (.newarray .int, 2) := by decide +kernel
theorem dX9_init_185 : decode cX9_init 185 = .ok (.putfield 74, 3) := by decide +kernel
theorem dX9_init_188 : decode cX9_init 188 = .ok (.aload_n 0, 1) := by decide +kernel
theorem dX9_init_189 : decode cX9_init 189 = .ok (.bipush 100, 2) := by decide +kernel
theorem dX9_init_191 : decode cX9_init 191 = .ok (.newarray .int, 2) := by decide +kernel
theorem dX9_init_193 : decode cX9_init 193 = .ok (.putfield 77, 3) := by decide +kernel
theorem dX9_init_196 : decode cX9_init 196 = .ok (.aload_n 0, 1) := by decide +kernel
theorem dX9_init_197 : decode cX9_init 197 = .ok (.bipush 100, 2) := by decide +kernel
theorem dX9_init_199 : decode cX9_init 199 = .ok (.newarray .int, 2) := by decide +kernel
theorem dX9_init_201 : decode cX9_init 201 = .ok (.putfield 80, 3) := by decide +kernel
theorem dX9_init_204 : decode cX9_init 204 = .ok (.aload_n 0, 1) := by decide +kernel
theorem dX9_init_205 : decode cX9_init 205 = .ok (.bipush 100, 2) := by decide +kernel
theorem dX9_init_207 : decode cX9_init 207 = .ok (.newarray .int, 2) := by decide +kernel
theorem dX9_init_209 : decode cX9_init 209 = .ok (.putfield 83, 3) := by decide +kernel
theorem dX9_init_212 : decode cX9_init 212 = .ok (.aload_n 0, 1) := by decide +kernel
theorem dX9_init_213 : decode cX9_init 213 = .ok (.bipush 100, 2) := by decide +kernel
theorem dX9_init_215 : decode cX9_init 215 = .ok (.newarray .int, 2) := by decide +kernel
theorem dX9_init_217 : decode cX9_init 217 = .ok (.putfield 86, 3) := by decide +kernel
theorem dX9_init_220 : decode cX9_init 220 = .ok (.aload_n 0, 1) := by decide +kernel
theorem dX9_init_221 : decode cX9_init 221 = .ok (.bipush 100, 2) := by decide +kernel
theorem dX9_init_223 : decode cX9_init 223 = .ok (.newarray .int, 2) := by decide +kernel
theorem dX9_init_225 : decode cX9_init 225 = .ok (.putfield 89, 3) := by decide +kernel
theorem dX9_init_228 : decode cX9_init 228 = .ok (.aload_n 0, 1) := by decide +kernel
theorem dX9_init_229 : decode cX9_init 229 = .ok (.bipush 100, 2) := by decide +kernel
theorem dX9_init_231 : decode cX9_init 231 = .ok (.newarray .int, 2) := by decide +kernel
theorem dX9_init_233 : decode cX9_init 233 = .ok (.putfield 92, 3) := by decide +kernel
theorem dX9_init_236 : decode cX9_init 236 = .ok (.aload_n 0, 1) := by decide +kernel
theorem dX9_init_237 : decode cX9_init 237 = .ok (.bipush 100, 2) := by decide +kernel
theorem dX9_init_239 : decode cX9_init 239 = .ok (.newarray .int, 2) := by decide +kernel
theorem dX9_init_241 : decode cX9_init 241 = .ok (.putfield 95, 3) := by decide +kernel
theorem dX9_init_244 : decode cX9_init 244 = .ok (.aload_n 0, 1) := by decide +kernel
theorem dX9_init_245 : decode cX9_init 245 = .ok (.bipush 102, 2) := by decide +kernel
theorem dX9_init_247 : decode cX9_init 247 = .ok (.newarray .int, 2) := by decide +kernel
theorem dX9_init_249 : decode cX9_init 249 = .ok (.putfield 98, 3) := by decide +kernel
theorem dX9_init_252 : decode cX9_init 252 = .ok (.aload_n 0, 1) := by decide +kernel
theorem dX9_init_253 : decode cX9_init 253 = .ok (.bipush 102, 2) := by decide +kernel
theorem dX9_init_255 : decode cX9_init 255 = .ok (.newarray .int, 2) := by decide +kernel
theorem dX9_init_257 : decode cX9_init 257 = .ok (.putfield 101, 3) := by decide +kernel
theorem dX9_init_260 : decode cX9_init 260 = .ok (.aload_n 0, 1) := by decide +kernel
theorem dX9_init_261 : decode cX9_init 261 = .ok (.bipush 103, 2) := by decide +kernel
theorem dX9_init_263 : decode cX9_init 263 = .ok (.newarray .int, 2) := by decide +kernel
theorem dX9_init_265 : decode cX9_init 265 = .ok (.putfield 104, 3) := by decide +kernel
theorem dX9_init_268 : decode cX9_init 268 = .ok (.aload_n 0, 1) := by decide +kernel
theorem dX9_init_269 : decode cX9_init 269 = .ok (.bipush 102, 2) := by decide +kernel
theorem dX9_init_271 : decode cX9_init 271 = .ok (.newarray .int, 2) := by decide +kernel
theorem dX9_init_273 : decode cX9_init 273 = .ok (.putfield 107, 3) := by decide +kernel
theorem dX9_init_276 : decode cX9_init 276 = .ok (.aload_n 0, 1) := by decide +kernel
theorem dX9_init_277 : decode cX9_init 277 = .ok (.bipush 102, 2) := by decide +kernel
theorem dX9_init_279 : decode cX9_init 279 = .ok (.newarray .int, 2) := by decide +kernel
theorem dX9_init_281 : decode cX9_init 281 = .ok (.putfield 110, 3) := by decide +kernel
theorem dX9_init_284 : decode cX9_init 284 = .ok (.aload_n 0, 1) := by decide +kernel
theorem dX9_init_285 : decode cX9_init 285 = .ok (.bipush 102, 2) := by decide +kernel
theorem dX9_init_287 : decode cX9_init 287 = .ok (.newarray .int, 2) := by decide +kernel
theorem dX9_init_289 : decode cX9_init 289 = .ok (.putfield 113, 3) := by decide +kernel
theorem dX9_init_292 : decode cX9_init 292 = .ok (.aload_n 0, 1) := by decide +kernel
theorem dX9_init_293 : decode cX9_init 293 = .ok (.bipush 102, 2) := by decide +kernel
theorem dX9_init_295 : decode cX9_init 295 = .ok (.newarray .int, 2) := by decide +kernel
theorem dX9_init_297 : decode cX9_init 297 = .ok (.putfield 116, 3) := by decide +kernel
theorem dX9_init_300 : decode cX9_init 300 = .ok (.iconst 0, 1) := by decide +kernel
theorem dX9_init_301 : decode cX9_init 301 = .ok (.istore_n 1, 1) := by decide +kernel
theorem dX9_init_302 : decode cX9_init 302 = .ok (.iload_n 1, 1) := by decide +kernel
theorem dX9_init_303 : decode cX9_init 303 = .ok (.bipush 100, 2) := by decide +kernel
theorem dX9_init_305 : decode cX9_init 305 = .ok (.if_icmp .ge 17, 3) := by decide +kernel
theorem dX9_init_308 : decode cX9_init 308 = .ok (.aload_n 0, 1) := by decide +kernel
theorem dX9_init_309 : decode cX9_init 309 = .ok (.getfield 7, 3) := by decide +kernel
theorem dX9_init_312 : decode cX9_init 312 = .ok (.iload_n 1, 1) := by decide +kernel
theorem dX9_init_313 : decode cX9_init 313 = .ok (.bipush (-9), 2) := by decide +kernel
theorem dX9_init_315 : decode cX9_init 315 = .ok (.iastore, 1) := by decide +kernel
theorem dX9_init_316 : decode cX9_init 316 = .ok (.iinc 1 1, 3) := by decide +kernel
theorem dX9_init_319 : decode cX9_init 319 = .ok (.goto (-17), 3) := by decide +kernel
theorem dX9_init_322 : decode cX9_init 322 = .ok (.return_, 1) := by decide +kernel
theorem dX9_in_0 : decode cX9_in 0 = .ok (.lload_n 0, 1) := by decide +kernel
theorem dX9_in_1 : decode cX9_in 1 = .ok (.lload_n 2, 1) := by decide +kernel
theorem dX9_in_2 : decode cX9_in 2 = .ok (.lcmp, 1) := by decide +kernel
theorem dX9_in_3 : decode cX9_in 3 = .ok (.ifCond .lt 14, 3) := by decide +kernel
theorem dX9_in_6 : decode cX9_in 6 = .ok (.lload_n 0, 1) := by decide +kernel
theorem dX9_in_7 : decode cX9_in 7 = .ok (.lload 4, 2) := by decide +kernel
theorem dX9_in_9 : decode cX9_in 9 = .ok (.lcmp, 1) := by decide +kernel
theorem dX9_in_10 : decode cX9_in 10 = .ok (.ifCond .gt 7, 3) := by decide +kernel
theorem dX9_in_13 : decode cX9_in 13 = .ok (.iconst 1, 1) := by decide +kernel
theorem dX9_in_14 : decode cX9_in 14 = .ok (.goto 4, 3) := by decide +kernel
theorem dX9_in_17 : decode cX9_in 17 = .ok (.iconst 0, 1) := by decide +kernel
theorem dX9_in_18 : decode cX9_in 18 = .ok (.ireturn, 1) := by decide +kernel
theorem dX9_isNumber_0 : decode cX9_isNumber 0 = .ok (.iload_n 0, 1) := by decide +kernel
theorem dX9_isNumber_1 : decode cX9_isNumber 1 = .ok (.i2l, 1) := by decide +kernel
theorem dX9_isNumber_2 : decode cX9_isNumber 2 = .ok (.lconst 0, 1) := by decide +kernel
theorem dX9_isNumber_3 : decode cX9_isNumber 3 = .ok (.ldc2_w 119, 3) := by decide +kernel
theorem dX9_isNumber_6 : decode cX9_isNumber 6 = .ok (.invokestatic 121, 3) := by decide +kernel
theorem dX9_isNumber_9 : decode cX9_isNumber 9 = .ok (.ireturn, 1) := by decide +kernel
theorem dX9_isRange_0 : decode cX9_isRange 0 = .ok (.iload_n 0, 1) := by decide +kernel
theorem dX9_isRange_1 : decode cX9_isRange 1 = .ok (.invokestatic 125, 3) := by decide +kernel
theorem dX9_isRange_4 : decode cX9_isRange 4 = .ok (.ifCond .eq 19, 3) := by decide +kernel
theorem dX9_isRange_7 : decode cX9_isRange 7 = .ok (.iload_n 1, 1) := by decide +kernel
theorem dX9_isRange_8 : decode cX9_isRange 8 = .ok (.invokestatic 125, 3) := by decide +kernel
theorem dX9_isRange_11 : decode cX9_isRange 11 = .ok (.ifCond .eq 12, 3) := by decide +kernel
theorem dX9_isRange_14 : decode cX9_isRange 14 = .ok (.iload_n 0, 1) := by decide +kernel
theorem dX9_isRange_15 : decode cX9_isRange 15 = .ok (.iload_n 1, 1) := by decide +kernel
theorem dX9_isRange_16 : decode cX9_isRange 16 = .ok (.if_icmp .gt 7, 3) := by decide +kernel
theorem dX9_isRange_19 : decode cX9_isRange 19 = .ok (.iconst 1, 1) := by decide +kernel
theorem dX9_isRange_20 : decode cX9_isRange 20 = .ok (.goto 4, 3) := by decide +kernel
theorem dX9_isRange_23 : decode cX9_isRange 23 = .ok (.iconst 0, 1) := by decide +kernel
theorem dX9_isRange_24 : decode cX9_isRange 24 = .ok (.ireturn, 1) := by decide +kernel
theorem dX9_rankOf_0 : decode cX9_rankOf 0 = .ok (.iload_n 0, 1) := by decide +kernel
theorem dX9_rankOf_1 : decode cX9_rankOf 1 = .ok (.i2l, 1) := by decide +kernel
theorem dX9_rankOf_2 : decode cX9_rankOf 2 = .ok (.ldc2_w 129, 3) := by decide +kernel
theorem dX9_rankOf_5 : decode cX9_rankOf 5 = .ok (.ladd, 1) := by decide +kernel
theorem dX9_rankOf_6 : decode cX9_rankOf 6 = .ok (.iload_n 0, 1) := by decide +kernel
theorem dX9_rankOf_7 : decode cX9_rankOf 7 = .ok (.i2l, 1) := by decide +kernel
theorem dX9_rankOf_8 : decode cX9_rankOf 8 = .ok (.ldc2_w 129, 3) := by decide +kernel
theorem dX9_rankOf_11 : decode cX9_rankOf 11 = .ok (.ladd, 1) := by decide +kernel
theorem dX9_rankOf_12 : decode cX9_rankOf 12 = .ok (.lmul, 1) := by decide +kernel
theorem dX9_rankOf_13 : decode cX9_rankOf 13 = .ok (.iload_n 0, 1) := by decide +kernel
theorem dX9_rankOf_14 : decode cX9_rankOf 14 = .ok (.i2l, 1) := by decide +kernel
theorem dX9_rankOf_15 : decode cX9_rankOf 15 = .ok (.ldc2_w 129, 3) := by decide +kernel
theorem dX9_rankOf_18 : decode cX9_rankOf 18 = .ok (.ladd, 1) := by decide +kernel
theorem dX9_rankOf_19 : decode cX9_rankOf 19 = .ok (.lmul, 1) := by decide +kernel
theorem dX9_rankOf_20 : decode cX9_rankOf 20 = .ok (.lstore_n 1, 1) := by decide +kernel
theorem dX9_rankOf_21 : decode cX9_rankOf 21 = .ok (.ldc2_w 131, 3) := by decide +kernel
theorem dX9_rankOf_24 : decode cX9_rankOf 24 = .ok (.lload_n 1, 1) := by decide +kernel
theorem dX9_rankOf_25 : decode cX9_rankOf 25 = .ok (.lmul, 1) := by decide +kernel
theorem dX9_rankOf_26 : decode cX9_rankOf 26 = .ok (.ldc2_w 133, 3) := by decide +kernel
theorem dX9_rankOf_29 : decode cX9_rankOf 29 = .ok (.lrem, 1) := by decide +kernel
theorem dX9_rankOf_30 : decode cX9_rankOf 30 = .ok (.l2i, 1) := by decide +kernel
theorem dX9_rankOf_31 : decode cX9_rankOf 31 = .ok (.ireturn, 1) := by decide +kernel
theorem dX9_isAbove_0 : decode cX9_isAbove 0 = .ok (.iload_n 0, 1) := by decide +kernel
theorem dX9_isAbove_1 : decode cX9_isAbove 1 = .ok (.invokestatic 135, 3) := by decide +kernel
theorem dX9_isAbove_4 : decode cX9_isAbove 4 = .ok (.iload_n 1, 1) := by decide +kernel
theorem dX9_isAbove_5 : decode cX9_isAbove 5 = .ok (.invokestatic 135, 3) := by decide +kernel
theorem dX9_isAbove_8 : decode cX9_isAbove 8 = .ok (.if_icmp .gt 19, 3) := by decide +kernel
theorem dX9_isAbove_11 : decode cX9_isAbove 11 = .ok (.iload_n 0, 1) := by decide +kernel
theorem dX9_isAbove_12 : decode cX9_isAbove 12 = .ok (.invokestatic 135, 3) := by decide +kernel
theorem dX9_isAbove_15 : decode cX9_isAbove 15 = .ok (.iload_n 1, 1) := by decide +kernel
theorem dX9_isAbove_16 : decode cX9_isAbove 16 = .ok (.invokestatic 135, 3) := by decide +kernel
theorem dX9_isAbove_19 : decode cX9_isAbove 19 = .ok (.if_icmp .ne 12, 3) := by decide +kernel
theorem dX9_isAbove_22 : decode cX9_isAbove 22 = .ok (.iload_n 0, 1) := by decide +kernel
theorem dX9_isAbove_23 : decode cX9_isAbove 23 = .ok (.iload_n 1, 1) := by decide +kernel
theorem dX9_isAbove_24 : decode cX9_isAbove 24 = .ok (.if_icmp .ge 7, 3) := by decide +kernel
theorem dX9_isAbove_27 : decode cX9_isAbove 27 = .ok (.iconst 1, 1) := by decide +kernel
theorem dX9_isAbove_28 : decode cX9_isAbove 28 = .ok (.goto 4, 3) := by decide +kernel
theorem dX9_isAbove_31 : decode cX9_isAbove 31 = .ok (.iconst 0, 1) := by decide +kernel
theorem dX9_isAbove_32 : decode cX9_isAbove 32 = .ok (.ireturn, 1) := by decide +kernel
theorem dX9_digestOf_0 : decode cX9_digestOf 0 = .ok (.ldc2_w 139, 3) := by decide +kernel
theorem dX9_digestOf_3 : decode cX9_digestOf 3 = .ok (.lstore 4, 2) := by decide +kernel
theorem dX9_digestOf_5 : decode cX9_digestOf 5 = .ok (.ldc2_w 141, 3) := by decide +kernel
theorem dX9_digestOf_8 : decode cX9_digestOf 8 = .ok (.lload 4, 2) := by decide +kernel
theorem dX9_digestOf_10 : decode cX9_digestOf 10 = .ok (.lmul, 1) := by decide +kernel
theorem dX9_digestOf_11 : decode cX9_digestOf 11 = .ok (.iload_n 0, 1) := by decide +kernel
theorem dX9_digestOf_12 : decode cX9_digestOf 12 = .ok (.i2l, 1) := by decide +kernel
theorem dX9_digestOf_13 : decode cX9_digestOf 13 = .ok (.ladd, 1) := by decide +kernel
theorem dX9_digestOf_14 : decode cX9_digestOf 14 = .ok (.ldc2_w 143, 3) := by decide +kernel
theorem dX9_digestOf_17 : decode cX9_digestOf 17 = .ok (.lrem, 1) := by decide +kernel
theorem dX9_digestOf_18 : decode cX9_digestOf 18 = .ok (.lstore 4, 2) := by decide +kernel
theorem dX9_digestOf_20 : decode cX9_digestOf 20 = .ok (.ldc2_w 141, 3) := by decide +kernel
theorem dX9_digestOf_23 : decode cX9_digestOf 23 = .ok (.lload 4, 2) := by decide +kernel
theorem dX9_digestOf_25 : decode cX9_digestOf 25 = .ok (.lmul, 1) := by decide +kernel
theorem dX9_digestOf_26 : decode cX9_digestOf 26 = .ok (.iload_n 1, 1) := by decide +kernel
theorem dX9_digestOf_27 : decode cX9_digestOf 27 = .ok (.i2l, 1) := by decide +kernel
theorem dX9_digestOf_28 : decode cX9_digestOf 28 = .ok (.ladd, 1) := by decide +kernel
theorem dX9_digestOf_29 : decode cX9_digestOf 29 = .ok (.ldc2_w 143, 3) := by decide +kernel
theorem dX9_digestOf_32 : decode cX9_digestOf 32 = .ok (.lrem, 1) := by decide +kernel
theorem dX9_digestOf_33 : decode cX9_digestOf 33 = .ok (.lstore 4, 2) := by decide +kernel
theorem dX9_digestOf_35 : decode cX9_digestOf 35 = .ok (.ldc2_w 141, 3) := by decide +kernel
theorem dX9_digestOf_38 : decode cX9_digestOf 38 = .ok (.lload 4, 2) := by decide +kernel
theorem dX9_digestOf_40 : decode cX9_digestOf 40 = .ok (.lmul, 1) := by decide +kernel
theorem dX9_digestOf_41 : decode cX9_digestOf 41 = .ok (.iload_n 2, 1) := by decide +kernel
theorem dX9_digestOf_42 : decode cX9_digestOf 42 = .ok (.i2l, 1) := by decide +kernel
theorem dX9_digestOf_43 : decode cX9_digestOf 43 = .ok (.ladd, 1) := by decide +kernel
theorem dX9_digestOf_44 : decode cX9_digestOf 44 = .ok (.ldc2_w 143, 3) := by decide +kernel
theorem dX9_digestOf_47 : decode cX9_digestOf 47 = .ok (.lrem, 1) := by decide +kernel
theorem dX9_digestOf_48 : decode cX9_digestOf 48 = .ok (.lstore 4, 2) := by decide +kernel
theorem dX9_digestOf_50 : decode cX9_digestOf 50 = .ok (.ldc2_w 141, 3) := by decide +kernel
theorem dX9_digestOf_53 : decode cX9_digestOf 53 = .ok (.lload 4, 2) := by decide +kernel
theorem dX9_digestOf_55 : decode cX9_digestOf 55 = .ok (.lmul, 1) := by decide +kernel
theorem dX9_digestOf_56 : decode cX9_digestOf 56 = .ok (.iload_n 3, 1) := by decide +kernel
theorem dX9_digestOf_57 : decode cX9_digestOf 57 = .ok (.i2l, 1) := by decide +kernel
theorem dX9_digestOf_58 : decode cX9_digestOf 58 = .ok (.ladd, 1) := by decide +kernel
theorem dX9_digestOf_59 : decode cX9_digestOf 59 = .ok (.ldc2_w 143, 3) := by decide +kernel
theorem dX9_digestOf_62 : decode cX9_digestOf 62 = .ok (.lrem, 1) := by decide +kernel
theorem dX9_digestOf_63 : decode cX9_digestOf 63 = .ok (.lstore 4, 2) := by decide +kernel
theorem dX9_digestOf_65 : decode cX9_digestOf 65 = .ok (.lload 4, 2) := by decide +kernel
theorem dX9_digestOf_67 : decode cX9_digestOf 67 = .ok (.l2i, 1) := by decide +kernel
theorem dX9_digestOf_68 : decode cX9_digestOf 68 = .ok (.iconst 1, 1) := by decide +kernel
theorem dX9_digestOf_69 : decode cX9_digestOf 69 = .ok (.iadd, 1) := by decide +kernel
theorem dX9_digestOf_70 : decode cX9_digestOf 70 = .ok (.ireturn, 1) := by decide +kernel
theorem dX9_manyOf_0 : decode cX9_manyOf 0 = .ok (.iconst 0, 1) := by decide +kernel
theorem dX9_manyOf_1 : decode cX9_manyOf 1 = .ok (.istore_n 1, 1) := by decide +kernel
theorem dX9_manyOf_2 : decode cX9_manyOf 2 = .ok (.iconst 0, 1) := by decide +kernel
theorem dX9_manyOf_3 : decode cX9_manyOf 3 = .ok (.istore_n 2, 1) := by decide +kernel
theorem dX9_manyOf_4 : decode cX9_manyOf 4 = .ok (.iload_n 2, 1) := by decide +kernel
theorem dX9_manyOf_5 : decode cX9_manyOf 5 = .ok (.bipush 100, 2) := by decide +kernel
theorem dX9_manyOf_7 : decode cX9_manyOf 7 = .ok (.if_icmp .ge 25, 3) := by decide +kernel
theorem dX9_manyOf_10 : decode cX9_manyOf 10 = .ok (.iload_n 1, 1) := by decide +kernel
theorem dX9_manyOf_11 : decode cX9_manyOf 11 = .ok (.aload_n 0, 1) := by decide +kernel
theorem dX9_manyOf_12 : decode cX9_manyOf 12 = .ok (.iload_n 2, 1) := by decide +kernel
theorem dX9_manyOf_13 : decode cX9_manyOf 13 = .ok (.iaload, 1) := by decide +kernel
theorem dX9_manyOf_14 : decode cX9_manyOf 14 = .ok (.bipush (-9), 2) := by decide +kernel
theorem dX9_manyOf_16 : decode cX9_manyOf 16 = .ok (.if_icmp .ne 7, 3) := by decide +kernel
theorem dX9_manyOf_19 : decode cX9_manyOf 19 = .ok (.iconst 0, 1) := by decide +kernel
theorem dX9_manyOf_20 : decode cX9_manyOf 20 = .ok (.goto 4, 3) := by decide +kernel
theorem dX9_manyOf_23 : decode cX9_manyOf 23 = .ok (.iconst 1, 1) := by decide +kernel
theorem dX9_manyOf_24 : decode cX9_manyOf 24 = .ok (.iadd, 1) := by decide +kernel
theorem dX9_manyOf_25 : decode cX9_manyOf 25 = .ok (.istore_n 1, 1) := by decide +kernel
theorem dX9_manyOf_26 : decode cX9_manyOf 26 = .ok (.iinc 2 1, 3) := by decide +kernel
theorem dX9_manyOf_29 : decode cX9_manyOf 29 = .ok (.goto (-25), 3) := by decide +kernel
theorem dX9_manyOf_32 : decode cX9_manyOf 32 = .ok (.iload_n 1, 1) := by decide +kernel
theorem dX9_manyOf_33 : decode cX9_manyOf 33 = .ok (.ireturn, 1) := by decide +kernel
theorem dX9_want_0 : decode cX9_want 0 = .ok (.aload_n 0, 1) := by decide +kernel
theorem dX9_want_1 : decode cX9_want 1 = .ok (.getfield 56, 3) := by decide +kernel
theorem dX9_want_4 : decode cX9_want 4 = .ok (.aload_n 0, 1) := by decide +kernel
theorem dX9_want_5 : decode cX9_want 5 = .ok (.getfield 145, 3) := by decide +kernel
theorem dX9_want_8 : decode cX9_want 8 = .ok (.iload_n 1, 1) := by decide +kernel
theorem dX9_want_9 : decode cX9_want 9 = .ok (.iastore, 1) := by decide +kernel
theorem dX9_want_10 : decode cX9_want 10 = .ok (.aload_n 0, 1) := by decide +kernel
theorem dX9_want_11 : decode cX9_want 11 = .ok (.getfield 59, 3) := by decide +kernel
theorem dX9_want_14 : decode cX9_want 14 = .ok (.aload_n 0, 1) := by decide +kernel
theorem dX9_want_15 : decode cX9_want 15 = .ok (.getfield 145, 3) := by decide +kernel
theorem dX9_want_18 : decode cX9_want 18 = .ok (.iload_n 2, 1) := by decide +kernel
theorem dX9_want_19 : decode cX9_want 19 = .ok (.iastore, 1) := by decide +kernel
theorem dX9_want_20 : decode cX9_want 20 = .ok (.aload_n 0, 1) := by decide +kernel
theorem dX9_want_21 : decode cX9_want 21 = .ok (.getfield 62, 3) := by decide +kernel
theorem dX9_want_24 : decode cX9_want 24 = .ok (.aload_n 0, 1) := by decide +kernel
theorem dX9_want_25 : decode cX9_want 25 = .ok (.getfield 145, 3) := by decide +kernel
theorem dX9_want_28 : decode cX9_want 28 = .ok (.iload_n 3, 1) := by decide +kernel
theorem dX9_want_29 : decode cX9_want 29 = .ok (.iastore, 1) := by decide +kernel
theorem dX9_want_30 : decode cX9_want 30 = .ok (.aload_n 0, 1) := by decide +kernel
theorem dX9_want_31 : decode cX9_want 31 = .ok (.getfield 65, 3) := by decide +kernel
theorem dX9_want_34 : decode cX9_want 34 = .ok (.aload_n 0, 1) := by decide +kernel
theorem dX9_want_35 : decode cX9_want 35 = .ok (.getfield 145, 3) := by decide +kernel
theorem dX9_want_38 : decode cX9_want 38 = .ok (.iload 4, 2) := by decide +kernel
theorem dX9_want_40 : decode cX9_want 40 = .ok (.iastore, 1) := by decide +kernel
theorem dX9_want_41 : decode cX9_want 41 = .ok (.aload_n 0, 1) := by decide +kernel
theorem dX9_want_42 : decode cX9_want 42 = .ok (.dup, 1) := by decide +kernel
theorem dX9_want_43 : decode cX9_want 43 = .ok (.getfield 145, 3) := by decide +kernel
theorem dX9_want_46 : decode cX9_want 46 = .ok (.iconst 1, 1) := by decide +kernel
theorem dX9_want_47 : decode cX9_want 47 = .ok (.iadd, 1) := by decide +kernel
theorem dX9_want_48 : decode cX9_want 48 = .ok (.putfield 145, 3) := by decide +kernel
theorem dX9_want_51 : decode cX9_want 51 = .ok (.return_, 1) := by decide +kernel
theorem dX9_uppermost_0 : decode cX9_uppermost 0 = .ok (.bipush (-9), 2) := by decide +kernel
theorem dX9_uppermost_2 : decode cX9_uppermost 2 = .ok (.istore_n 3, 1) := by decide +kernel
theorem dX9_uppermost_3 : decode cX9_uppermost 3 = .ok (.iload_n 1, 1) := by decide +kernel
theorem dX9_uppermost_4 : decode cX9_uppermost 4 = .ok (.istore 4, 2) := by decide +kernel
theorem dX9_uppermost_6 : decode cX9_uppermost 6 = .ok (.iload 4, 2) := by decide +kernel
theorem dX9_uppermost_8 : decode cX9_uppermost 8 = .ok (.iload_n 2, 1) := by decide +kernel
theorem dX9_uppermost_9 : decode cX9_uppermost 9 = .ok (.if_icmp .gt 40, 3) := by decide +kernel
theorem dX9_uppermost_12 : decode cX9_uppermost 12 = .ok (.aload_n 0, 1) := by decide +kernel
theorem dX9_uppermost_13 : decode cX9_uppermost 13 = .ok (.iload 4, 2) := by decide +kernel
theorem dX9_uppermost_15 : decode cX9_uppermost 15 = .ok (.iaload, 1) := by decide +kernel
theorem dX9_uppermost_16 : decode cX9_uppermost 16 = .ok (.bipush (-9), 2) := by decide +kernel
theorem dX9_uppermost_18 : decode cX9_uppermost 18 = .ok (.if_icmp .eq 23, 3) := by decide +kernel
theorem dX9_uppermost_21 : decode cX9_uppermost 21 = .ok (.iload_n 3, 1) := by decide +kernel
theorem dX9_uppermost_22 : decode cX9_uppermost 22 = .ok (.bipush (-9), 2) := by decide +kernel
theorem dX9_uppermost_24 : decode cX9_uppermost 24 = .ok (.if_icmp .eq 12, 3) := by decide +kernel
theorem dX9_uppermost_27 : decode cX9_uppermost 27 = .ok (.iload 4, 2) := by decide +kernel
theorem dX9_uppermost_29 : decode cX9_uppermost 29 = .ok (.iload_n 3, 1) := by decide +kernel
theorem dX9_uppermost_30 : decode cX9_uppermost 30 = .ok (.invokestatic 149, 3) := by decide +kernel
theorem dX9_uppermost_33 : decode cX9_uppermost 33 = .ok (.ifCond .eq 8, 3) := by decide +kernel
theorem dX9_uppermost_36 : decode cX9_uppermost 36 = .ok (.iload 4, 2) := by decide +kernel
theorem dX9_uppermost_38 : decode cX9_uppermost 38 = .ok (.goto 4, 3) := by decide +kernel
theorem dX9_uppermost_41 : decode cX9_uppermost 41 = .ok (.iload_n 3, 1) := by decide +kernel
theorem dX9_uppermost_42 : decode cX9_uppermost 42 = .ok (.istore_n 3, 1) := by decide +kernel
theorem dX9_uppermost_43 : decode cX9_uppermost 43 = .ok (.iinc 4 1, 3) := by decide +kernel
theorem dX9_uppermost_46 : decode cX9_uppermost 46 = .ok (.goto (-40), 3) := by decide +kernel
theorem dX9_uppermost_49 : decode cX9_uppermost 49 = .ok (.iload_n 3, 1) := by decide +kernel
theorem dX9_uppermost_50 : decode cX9_uppermost 50 = .ok (.ireturn, 1) := by decide +kernel
theorem dX9_make_0 : decode cX9_make 0 = .ok (.bipush 100, 2) := by decide +kernel
theorem dX9_make_2 : decode cX9_make 2 = .ok (.iload_n 2, 1) := by decide +kernel
theorem dX9_make_3 : decode cX9_make 3 = .ok (.imul, 1) := by decide +kernel
theorem dX9_make_4 : decode cX9_make 4 = .ok (.istore_n 3, 1) := by decide +kernel
theorem dX9_make_5 : decode cX9_make 5 = .ok (.iconst 0, 1) := by decide +kernel
theorem dX9_make_6 : decode cX9_make 6 = .ok (.istore 4, 2) := by decide +kernel
theorem dX9_make_8 : decode cX9_make 8 = .ok (.aload_n 0, 1) := by decide +kernel
theorem dX9_make_9 : decode cX9_make 9 = .ok (.iconst 0, 1) := by decide +kernel
theorem dX9_make_10 : decode cX9_make 10 = .ok (.putfield 145, 3) := by decide +kernel
theorem dX9_make_13 : decode cX9_make 13 = .ok (.aload_n 0, 1) := by decide +kernel
theorem dX9_make_14 : decode cX9_make 14 = .ok (.getfield 50, 3) := by decide +kernel
theorem dX9_make_17 : decode cX9_make 17 = .ok (.iload_n 2, 1) := by decide +kernel
theorem dX9_make_18 : decode cX9_make 18 = .ok (.bipush (-9), 2) := by decide +kernel
theorem dX9_make_20 : decode cX9_make 20 = .ok (.iastore, 1) := by decide +kernel
theorem dX9_make_21 : decode cX9_make 21 = .ok (.aload_n 0, 1) := by decide +kernel
theorem dX9_make_22 : decode cX9_make 22 = .ok (.iconst 0, 1) := by decide +kernel
theorem dX9_make_23 : decode cX9_make 23 = .ok (.bipush 99, 2) := by decide +kernel
theorem dX9_make_25 : decode cX9_make 25 = .ok (.bipush (-9), 2) := by decide +kernel
theorem dX9_make_27 : decode cX9_make 27 = .ok (.iconst 0, 1) := by decide +kernel
theorem dX9_make_28 : decode cX9_make 28 = .ok (.invokevirtual 153, 3) := by decide +kernel
theorem dX9_make_31 : decode cX9_make 31 = .ok (.aload_n 0, 1) := by decide +kernel
theorem dX9_make_32 : decode cX9_make 32 = .ok (.getfield 145, 3) := by decide +kernel
theorem dX9_make_35 : decode cX9_make 35 = .ok (.ifCond .le 227, 3) := by decide +kernel
theorem dX9_make_38 : decode cX9_make 38 = .ok (.aload_n 0, 1) := by decide +kernel
theorem dX9_make_39 : decode cX9_make 39 = .ok (.dup, 1) := by decide +kernel
theorem dX9_make_40 : decode cX9_make 40 = .ok (.getfield 145, 3) := by decide +kernel
theorem dX9_make_43 : decode cX9_make 43 = .ok (.iconst 1, 1) := by decide +kernel
theorem dX9_make_44 : decode cX9_make 44 = .ok (.isub, 1) := by decide +kernel
theorem dX9_make_45 : decode cX9_make 45 = .ok (.putfield 145, 3) := by decide +kernel
theorem dX9_make_48 : decode cX9_make 48 = .ok (.aload_n 0, 1) := by decide +kernel
theorem dX9_make_49 : decode cX9_make 49 = .ok (.getfield 56, 3) := by decide +kernel
theorem dX9_make_52 : decode cX9_make 52 = .ok (.aload_n 0, 1) := by decide +kernel
theorem dX9_make_53 : decode cX9_make 53 = .ok (.getfield 145, 3) := by decide +kernel
theorem dX9_make_56 : decode cX9_make 56 = .ok (.iaload, 1) := by decide +kernel
theorem dX9_make_57 : decode cX9_make 57 = .ok (.istore 5, 2) := by decide +kernel
theorem dX9_make_59 : decode cX9_make 59 = .ok (.aload_n 0, 1) := by decide +kernel
theorem dX9_make_60 : decode cX9_make 60 = .ok (.getfield 59, 3) := by decide +kernel
theorem dX9_make_63 : decode cX9_make 63 = .ok (.aload_n 0, 1) := by decide +kernel
theorem dX9_make_64 : decode cX9_make 64 = .ok (.getfield 145, 3) := by decide +kernel
theorem dX9_make_67 : decode cX9_make 67 = .ok (.iaload, 1) := by decide +kernel
theorem dX9_make_68 : decode cX9_make 68 = .ok (.istore 6, 2) := by decide +kernel
theorem dX9_make_70 : decode cX9_make 70 = .ok (.aload_n 0, 1) := by decide +kernel
theorem dX9_make_71 : decode cX9_make 71 = .ok (.getfield 62, 3) := by decide +kernel
theorem dX9_make_74 : decode cX9_make 74 = .ok (.aload_n 0, 1) := by decide +kernel
theorem dX9_make_75 : decode cX9_make 75 = .ok (.getfield 145, 3) := by decide +kernel
theorem dX9_make_78 : decode cX9_make 78 = .ok (.iaload, 1) := by decide +kernel
theorem dX9_make_79 : decode cX9_make 79 = .ok (.istore 7, 2) := by decide +kernel
theorem dX9_make_81 : decode cX9_make 81 = .ok (.aload_n 0, 1) := by decide +kernel
theorem dX9_make_82 : decode cX9_make 82 = .ok (.getfield 65, 3) := by decide +kernel
theorem dX9_make_85 : decode cX9_make 85 = .ok (.aload_n 0, 1) := by decide +kernel
theorem dX9_make_86 : decode cX9_make 86 = .ok (.getfield 145, 3) := by decide +kernel
theorem dX9_make_89 : decode cX9_make 89 = .ok (.iaload, 1) := by decide +kernel
theorem dX9_make_90 : decode cX9_make 90 = .ok (.istore 8, 2) := by decide +kernel
theorem dX9_make_92 : decode cX9_make 92 = .ok (.aload_n 1, 1) := by decide +kernel
theorem dX9_make_93 : decode cX9_make 93 = .ok (.iload 5, 2) := by decide +kernel
theorem dX9_make_95 : decode cX9_make 95 = .ok (.iload 6, 2) := by decide +kernel
theorem dX9_make_97 : decode cX9_make 97 = .ok (.invokestatic 157, 3) := by decide +kernel
theorem dX9_make_100 : decode cX9_make 100 = .ok (.istore 9, 2) := by decide +kernel
theorem dX9_make_102 : decode cX9_make 102 = .ok (.iload 7, 2) := by decide +kernel
theorem dX9_make_104 : decode cX9_make 104 = .ok (.bipush (-9), 2) := by decide +kernel
theorem dX9_make_106 : decode cX9_make 106 = .ok (.if_icmp .ne 14, 3) := by decide +kernel
theorem dX9_make_109 : decode cX9_make 109 = .ok (.aload_n 0, 1) := by decide +kernel
theorem dX9_make_110 : decode cX9_make 110 = .ok (.getfield 50, 3) := by decide +kernel
theorem dX9_make_113 : decode cX9_make 113 = .ok (.iload_n 2, 1) := by decide +kernel
theorem dX9_make_114 : decode cX9_make 114 = .ok (.iload 9, 2) := by decide +kernel
theorem dX9_make_116 : decode cX9_make 116 = .ok (.iastore, 1) := by decide +kernel
theorem dX9_make_117 : decode cX9_make 117 = .ok (.goto 33, 3) := by decide +kernel
theorem dX9_make_120 : decode cX9_make 120 = .ok (.iload 8, 2) := by decide +kernel
theorem dX9_make_122 : decode cX9_make 122 = .ok (.ifCond .ne 17, 3) := by decide +kernel
theorem dX9_make_125 : decode cX9_make 125 = .ok (.aload_n 0, 1) := by decide +kernel
theorem dX9_make_126 : decode cX9_make 126 = .ok (.getfield 29, 3) := by decide +kernel
theorem dX9_make_129 : decode cX9_make 129 = .ok (.iload_n 3, 1) := by decide +kernel
theorem dX9_make_130 : decode cX9_make 130 = .ok (.iload 7, 2) := by decide +kernel
theorem dX9_make_132 : decode cX9_make 132 = .ok (.iadd, 1) := by decide +kernel
theorem dX9_make_133 : decode cX9_make 133 = .ok (.iload 9, 2) := by decide +kernel
theorem dX9_make_135 : decode cX9_make 135 = .ok (.iastore, 1) := by decide +kernel
theorem dX9_make_136 : decode cX9_make 136 = .ok (.goto 14, 3) := by decide +kernel
theorem dX9_make_139 : decode cX9_make 139 = .ok (.aload_n 0, 1) := by decide +kernel
theorem dX9_make_140 : decode cX9_make 140 = .ok (.getfield 32, 3) := by decide +kernel
theorem dX9_make_143 : decode cX9_make 143 = .ok (.iload_n 3, 1) := by decide +kernel
theorem dX9_make_144 : decode cX9_make 144 = .ok (.iload 7, 2) := by decide +kernel
theorem dX9_make_146 : decode cX9_make 146 = .ok (.iadd, 1) := by decide +kernel
theorem dX9_make_147 : decode cX9_make 147 = .ok (.iload 9, 2) := by decide +kernel
theorem dX9_make_149 : decode cX9_make 149 = .ok (.iastore, 1) := by decide +kernel
theorem dX9_make_150 : decode cX9_make 150 = .ok (.iload 9, 2) := by decide +kernel
theorem dX9_make_152 : decode cX9_make 152 = .ok (.bipush (-9), 2) := by decide +kernel
theorem dX9_make_154 : decode cX9_make 154 = .ok (.if_icmp .eq 105, 3) := by decide +kernel
theorem dX9_make_157 : decode cX9_make 157 = .ok (.aload_n 0, 1) := by decide +kernel
theorem dX9_make_158 : decode cX9_make 158 = .ok (.getfield 53, 3) := by decide +kernel
theorem dX9_make_161 : decode cX9_make 161 = .ok (.iload 4, 2) := by decide +kernel
theorem dX9_make_163 : decode cX9_make 163 = .ok (.iload 9, 2) := by decide +kernel
theorem dX9_make_165 : decode cX9_make 165 = .ok (.iastore, 1) := by decide +kernel
theorem dX9_make_166 : decode cX9_make 166 = .ok (.iinc 4 1, 3) := by decide +kernel
theorem dX9_make_169 : decode cX9_make 169 = .ok (.aload_n 0, 1) := by decide +kernel
theorem dX9_make_170 : decode cX9_make 170 = .ok (.getfield 26, 3) := by decide +kernel
theorem dX9_make_173 : decode cX9_make 173 = .ok (.iload_n 3, 1) := by decide +kernel
theorem dX9_make_174 : decode cX9_make 174 = .ok (.iload 9, 2) := by decide +kernel
theorem dX9_make_176 : decode cX9_make 176 = .ok (.iadd, 1) := by decide +kernel
theorem dX9_make_177 : decode cX9_make 177 = .ok (.iload 7, 2) := by decide +kernel
theorem dX9_make_179 : decode cX9_make 179 = .ok (.iastore, 1) := by decide +kernel
theorem dX9_make_180 : decode cX9_make 180 = .ok (.aload_n 0, 1) := by decide +kernel
theorem dX9_make_181 : decode cX9_make 181 = .ok (.getfield 35, 3) := by decide +kernel
theorem dX9_make_184 : decode cX9_make 184 = .ok (.iload_n 3, 1) := by decide +kernel
theorem dX9_make_185 : decode cX9_make 185 = .ok (.iload 9, 2) := by decide +kernel
theorem dX9_make_187 : decode cX9_make 187 = .ok (.iadd, 1) := by decide +kernel
theorem dX9_make_188 : decode cX9_make 188 = .ok (.iload 7, 2) := by decide +kernel
theorem dX9_make_190 : decode cX9_make 190 = .ok (.bipush (-9), 2) := by decide +kernel
theorem dX9_make_192 : decode cX9_make 192 = .ok (.if_icmp .ne 7, 3) := by decide +kernel
theorem dX9_make_195 : decode cX9_make 195 = .ok (.iconst 0, 1) := by decide +kernel
theorem dX9_make_196 : decode cX9_make 196 = .ok (.goto 14, 3) := by decide +kernel
theorem dX9_make_199 : decode cX9_make 199 = .ok (.aload_n 0, 1) := by decide +kernel
theorem dX9_make_200 : decode cX9_make 200 = .ok (.getfield 35, 3) := by decide +kernel
theorem dX9_make_203 : decode cX9_make 203 = .ok (.iload_n 3, 1) := by decide +kernel
theorem dX9_make_204 : decode cX9_make 204 = .ok (.iload 7, 2) := by decide +kernel
theorem dX9_make_206 : decode cX9_make 206 = .ok (.iadd, 1) := by decide +kernel
theorem dX9_make_207 : decode cX9_make 207 = .ok (.iaload, 1) := by decide +kernel
theorem dX9_make_208 : decode cX9_make 208 = .ok (.iconst 1, 1) := by decide +kernel
theorem dX9_make_209 : decode cX9_make 209 = .ok (.iadd, 1) := by decide +kernel
theorem dX9_make_210 : decode cX9_make 210 = .ok (.iastore, 1) := by decide +kernel
theorem dX9_make_211 : decode cX9_make 211 = .ok (.aload_n 0, 1) := by decide +kernel
theorem dX9_make_212 : decode cX9_make 212 = .ok (.getfield 38, 3) := by decide +kernel
theorem dX9_make_215 : decode cX9_make 215 = .ok (.iload_n 3, 1) := by decide +kernel
theorem dX9_make_216 : decode cX9_make 216 = .ok (.iload 9, 2) := by decide +kernel
theorem dX9_make_218 : decode cX9_make 218 = .ok (.iadd, 1) := by decide +kernel
theorem dX9_make_219 : decode cX9_make 219 = .ok (.iload 5, 2) := by decide +kernel
theorem dX9_make_221 : decode cX9_make 221 = .ok (.iastore, 1) := by decide +kernel
theorem dX9_make_222 : decode cX9_make 222 = .ok (.aload_n 0, 1) := by decide +kernel
theorem dX9_make_223 : decode cX9_make 223 = .ok (.getfield 41, 3) := by decide +kernel
theorem dX9_make_226 : decode cX9_make 226 = .ok (.iload_n 3, 1) := by decide +kernel
theorem dX9_make_227 : decode cX9_make 227 = .ok (.iload 9, 2) := by decide +kernel
theorem dX9_make_229 : decode cX9_make 229 = .ok (.iadd, 1) := by decide +kernel
theorem dX9_make_230 : decode cX9_make 230 = .ok (.iload 6, 2) := by decide +kernel
theorem dX9_make_232 : decode cX9_make 232 = .ok (.iastore, 1) := by decide +kernel
theorem dX9_make_233 : decode cX9_make 233 = .ok (.aload_n 0, 1) := by decide +kernel
theorem dX9_make_234 : decode cX9_make 234 = .ok (.iload 9, 2) := by decide +kernel
theorem dX9_make_236 : decode cX9_make 236 = .ok (.iconst 1, 1) := by decide +kernel
theorem dX9_make_237 : decode cX9_make 237 = .ok (.iadd, 1) := by decide +kernel
theorem dX9_make_238 : decode cX9_make 238 = .ok (.iload 6, 2) := by decide +kernel
theorem dX9_make_240 : decode cX9_make 240 = .ok (.iload 9, 2) := by decide +kernel
theorem dX9_make_242 : decode cX9_make 242 = .ok (.iconst 1, 1) := by decide +kernel
theorem dX9_make_243 : decode cX9_make 243 = .ok (.invokevirtual 153, 3) := by decide +kernel
theorem dX9_make_246 : decode cX9_make 246 = .ok (.aload_n 0, 1) := by decide +kernel
theorem dX9_make_247 : decode cX9_make 247 = .ok (.iload 5, 2) := by decide +kernel
theorem dX9_make_249 : decode cX9_make 249 = .ok (.iload 9, 2) := by decide +kernel
theorem dX9_make_251 : decode cX9_make 251 = .ok (.iconst 1, 1) := by decide +kernel
theorem dX9_make_252 : decode cX9_make 252 = .ok (.isub, 1) := by decide +kernel
theorem dX9_make_253 : decode cX9_make 253 = .ok (.iload 9, 2) := by decide +kernel
theorem dX9_make_255 : decode cX9_make 255 = .ok (.iconst 0, 1) := by decide +kernel
theorem dX9_make_256 : decode cX9_make 256 = .ok (.invokevirtual 153, 3) := by decide +kernel
theorem dX9_make_259 : decode cX9_make 259 = .ok (.goto (-228), 3) := by decide +kernel
theorem dX9_make_262 : decode cX9_make 262 = .ok (.iload 4, 2) := by decide +kernel
theorem dX9_make_264 : decode cX9_make 264 = .ok (.iconst 1, 1) := by decide +kernel
theorem dX9_make_265 : decode cX9_make 265 = .ok (.isub, 1) := by decide +kernel
theorem dX9_make_266 : decode cX9_make 266 = .ok (.istore 5, 2) := by decide +kernel
theorem dX9_make_268 : decode cX9_make 268 = .ok (.iload 5, 2) := by decide +kernel
theorem dX9_make_270 : decode cX9_make 270 = .ok (.ifCond .lt 150, 3) := by decide +kernel
theorem dX9_make_273 : decode cX9_make 273 = .ok (.aload_n 0, 1) := by decide +kernel
theorem dX9_make_274 : decode cX9_make 274 = .ok (.getfield 53, 3) := by decide +kernel
theorem dX9_make_277 : decode cX9_make 277 = .ok (.iload 5, 2) := by decide +kernel
theorem dX9_make_279 : decode cX9_make 279 = .ok (.iaload, 1) := by decide +kernel
theorem dX9_make_280 : decode cX9_make 280 = .ok (.istore 6, 2) := by decide +kernel
theorem dX9_make_282 : decode cX9_make 282 = .ok (.aload_n 0, 1) := by decide +kernel
theorem dX9_make_283 : decode cX9_make 283 = .ok (.getfield 29, 3) := by decide +kernel
theorem dX9_make_286 : decode cX9_make 286 = .ok (.iload_n 3, 1) := by decide +kernel
theorem dX9_make_287 : decode cX9_make 287 = .ok (.iload 6, 2) := by decide +kernel
theorem dX9_make_289 : decode cX9_make 289 = .ok (.iadd, 1) := by decide +kernel
theorem dX9_make_290 : decode cX9_make 290 = .ok (.iaload, 1) := by decide +kernel
theorem dX9_make_291 : decode cX9_make 291 = .ok (.istore 7, 2) := by decide +kernel
theorem dX9_make_293 : decode cX9_make 293 = .ok (.aload_n 0, 1) := by decide +kernel
theorem dX9_make_294 : decode cX9_make 294 = .ok (.getfield 32, 3) := by decide +kernel
theorem dX9_make_297 : decode cX9_make 297 = .ok (.iload_n 3, 1) := by decide +kernel
theorem dX9_make_298 : decode cX9_make 298 = .ok (.iload 6, 2) := by decide +kernel
theorem dX9_make_300 : decode cX9_make 300 = .ok (.iadd, 1) := by decide +kernel
theorem dX9_make_301 : decode cX9_make 301 = .ok (.iaload, 1) := by decide +kernel
theorem dX9_make_302 : decode cX9_make 302 = .ok (.istore 8, 2) := by decide +kernel
theorem dX9_make_304 : decode cX9_make 304 = .ok (.aload_n 0, 1) := by decide +kernel
theorem dX9_make_305 : decode cX9_make 305 = .ok (.getfield 44, 3) := by decide +kernel
theorem dX9_make_308 : decode cX9_make 308 = .ok (.iload_n 3, 1) := by decide +kernel
theorem dX9_make_309 : decode cX9_make 309 = .ok (.iload 6, 2) := by decide +kernel
theorem dX9_make_311 : decode cX9_make 311 = .ok (.iadd, 1) := by decide +kernel
theorem dX9_make_312 : decode cX9_make 312 = .ok (.iconst 1, 1) := by decide +kernel
theorem dX9_make_313 : decode cX9_make 313 = .ok (.iload 7, 2) := by decide +kernel
theorem dX9_make_315 : decode cX9_make 315 = .ok (.bipush (-9), 2) := by decide +kernel
theorem dX9_make_317 : decode cX9_make 317 = .ok (.if_icmp .ne 7, 3) := by decide +kernel
theorem dX9_make_320 : decode cX9_make 320 = .ok (.iconst 0, 1) := by decide +kernel
theorem dX9_make_321 : decode cX9_make 321 = .ok (.goto 12, 3) := by decide +kernel
theorem dX9_make_324 : decode cX9_make 324 = .ok (.aload_n 0, 1) := by decide +kernel
theorem dX9_make_325 : decode cX9_make 325 = .ok (.getfield 44, 3) := by decide +kernel
theorem dX9_make_328 : decode cX9_make 328 = .ok (.iload_n 3, 1) := by decide +kernel
theorem dX9_make_329 : decode cX9_make 329 = .ok (.iload 7, 2) := by decide +kernel
theorem dX9_make_331 : decode cX9_make 331 = .ok (.iadd, 1) := by decide +kernel
theorem dX9_make_332 : decode cX9_make 332 = .ok (.iaload, 1) := by decide +kernel
theorem dX9_make_333 : decode cX9_make 333 = .ok (.iadd, 1) := by decide +kernel
theorem dX9_make_334 : decode cX9_make 334 = .ok (.iload 8, 2) := by decide +kernel
theorem dX9_make_336 : decode cX9_make 336 = .ok (.bipush (-9), 2) := by decide +kernel
theorem dX9_make_338 : decode cX9_make 338 = .ok (.if_icmp .ne 7, 3) := by decide +kernel
theorem dX9_make_341 : decode cX9_make 341 = .ok (.iconst 0, 1) := by decide +kernel
theorem dX9_make_342 : decode cX9_make 342 = .ok (.goto 12, 3) := by decide +kernel
theorem dX9_make_345 : decode cX9_make 345 = .ok (.aload_n 0, 1) := by decide +kernel
theorem dX9_make_346 : decode cX9_make 346 = .ok (.getfield 44, 3) := by decide +kernel
theorem dX9_make_349 : decode cX9_make 349 = .ok (.iload_n 3, 1) := by decide +kernel
theorem dX9_make_350 : decode cX9_make 350 = .ok (.iload 8, 2) := by decide +kernel
theorem dX9_make_352 : decode cX9_make 352 = .ok (.iadd, 1) := by decide +kernel
theorem dX9_make_353 : decode cX9_make 353 = .ok (.iaload, 1) := by decide +kernel
theorem dX9_make_354 : decode cX9_make 354 = .ok (.iadd, 1) := by decide +kernel
theorem dX9_make_355 : decode cX9_make 355 = .ok (.iastore, 1) := by decide +kernel
theorem dX9_make_356 : decode cX9_make 356 = .ok (.aload_n 0, 1) := by decide +kernel
theorem dX9_make_357 : decode cX9_make 357 = .ok (.getfield 47, 3) := by decide +kernel
theorem dX9_make_360 : decode cX9_make 360 = .ok (.iload_n 3, 1) := by decide +kernel
theorem dX9_make_361 : decode cX9_make 361 = .ok (.iload 6, 2) := by decide +kernel
theorem dX9_make_363 : decode cX9_make 363 = .ok (.iadd, 1) := by decide +kernel
theorem dX9_make_364 : decode cX9_make 364 = .ok (.iload 6, 2) := by decide +kernel
theorem dX9_make_366 : decode cX9_make 366 = .ok (.aload_n 1, 1) := by decide +kernel
theorem dX9_make_367 : decode cX9_make 367 = .ok (.iload 6, 2) := by decide +kernel
theorem dX9_make_369 : decode cX9_make 369 = .ok (.iaload, 1) := by decide +kernel
theorem dX9_make_370 : decode cX9_make 370 = .ok (.iload 7, 2) := by decide +kernel
theorem dX9_make_372 : decode cX9_make 372 = .ok (.bipush (-9), 2) := by decide +kernel
theorem dX9_make_374 : decode cX9_make 374 = .ok (.if_icmp .ne 7, 3) := by decide +kernel
theorem dX9_make_377 : decode cX9_make 377 = .ok (.iconst 0, 1) := by decide +kernel
theorem dX9_make_378 : decode cX9_make 378 = .ok (.goto 12, 3) := by decide +kernel
theorem dX9_make_381 : decode cX9_make 381 = .ok (.aload_n 0, 1) := by decide +kernel
theorem dX9_make_382 : decode cX9_make 382 = .ok (.getfield 47, 3) := by decide +kernel
theorem dX9_make_385 : decode cX9_make 385 = .ok (.iload_n 3, 1) := by decide +kernel
theorem dX9_make_386 : decode cX9_make 386 = .ok (.iload 7, 2) := by decide +kernel
theorem dX9_make_388 : decode cX9_make 388 = .ok (.iadd, 1) := by decide +kernel
theorem dX9_make_389 : decode cX9_make 389 = .ok (.iaload, 1) := by decide +kernel
theorem dX9_make_390 : decode cX9_make 390 = .ok (.iload 8, 2) := by decide +kernel
theorem dX9_make_392 : decode cX9_make 392 = .ok (.bipush (-9), 2) := by decide +kernel
theorem dX9_make_394 : decode cX9_make 394 = .ok (.if_icmp .ne 7, 3) := by decide +kernel
theorem dX9_make_397 : decode cX9_make 397 = .ok (.iconst 0, 1) := by decide +kernel
theorem dX9_make_398 : decode cX9_make 398 = .ok (.goto 12, 3) := by decide +kernel
theorem dX9_make_401 : decode cX9_make 401 = .ok (.aload_n 0, 1) := by decide +kernel
theorem dX9_make_402 : decode cX9_make 402 = .ok (.getfield 47, 3) := by decide +kernel
theorem dX9_make_405 : decode cX9_make 405 = .ok (.iload_n 3, 1) := by decide +kernel
theorem dX9_make_406 : decode cX9_make 406 = .ok (.iload 8, 2) := by decide +kernel
theorem dX9_make_408 : decode cX9_make 408 = .ok (.iadd, 1) := by decide +kernel
theorem dX9_make_409 : decode cX9_make 409 = .ok (.iaload, 1) := by decide +kernel
theorem dX9_make_410 : decode cX9_make 410 = .ok (.invokestatic 161, 3) := by decide +kernel
theorem dX9_make_413 : decode cX9_make 413 = .ok (.iastore, 1) := by decide +kernel
theorem dX9_make_414 : decode cX9_make 414 = .ok (.iinc 5 (-1), 3) := by decide +kernel
theorem dX9_make_417 : decode cX9_make 417 = .ok (.goto (-149), 3) := by decide +kernel
theorem dX9_make_420 : decode cX9_make 420 = .ok (.return_, 1) := by decide +kernel
end
section
theorem dX9_rootOf_0 : decode cX9_rootOf 0 = .ok (.aload_n 0, 1) := by decide +kernel
theorem dX9_rootOf_1 : decode cX9_rootOf 1 = .ok (.aload_n 1, 1) := by decide +kernel
theorem dX9_rootOf_2 : decode cX9_rootOf 2 = .ok (.iconst 0, 1) := by decide +kernel
theorem dX9_rootOf_3 : decode cX9_rootOf 3 = .ok (.invokevirtual 165, 3) := by decide +kernel
theorem dX9_rootOf_6 : decode cX9_rootOf 6 = .ok (.aload_n 0, 1) := by decide +kernel
theorem dX9_rootOf_7 : decode cX9_rootOf 7 = .ok (.getfield 50, 3) := by decide +kernel
theorem dX9_rootOf_10 : decode cX9_rootOf 10 = .ok (.iconst 0, 1) := by decide +kernel
theorem dX9_rootOf_11 : decode cX9_rootOf 11 = .ok (.iaload, 1) := by decide +kernel
theorem dX9_rootOf_12 : decode cX9_rootOf 12 = .ok (.bipush (-9), 2) := by decide +kernel
theorem dX9_rootOf_14 : decode cX9_rootOf 14 = .ok (.if_icmp .ne 7, 3) := by decide +kernel
theorem dX9_rootOf_17 : decode cX9_rootOf 17 = .ok (.iconst 0, 1) := by decide +kernel
theorem dX9_rootOf_18 : decode cX9_rootOf 18 = .ok (.goto 14, 3) := by decide +kernel
theorem dX9_rootOf_21 : decode cX9_rootOf 21 = .ok (.aload_n 0, 1) := by decide +kernel
theorem dX9_rootOf_22 : decode cX9_rootOf 22 = .ok (.getfield 47, 3) := by decide +kernel
theorem dX9_rootOf_25 : decode cX9_rootOf 25 = .ok (.aload_n 0, 1) := by decide +kernel
theorem dX9_rootOf_26 : decode cX9_rootOf 26 = .ok (.getfield 50, 3) := by decide +kernel
theorem dX9_rootOf_29 : decode cX9_rootOf 29 = .ok (.iconst 0, 1) := by decide +kernel
theorem dX9_rootOf_30 : decode cX9_rootOf 30 = .ok (.iaload, 1) := by decide +kernel
theorem dX9_rootOf_31 : decode cX9_rootOf 31 = .ok (.iaload, 1) := by decide +kernel
theorem dX9_rootOf_32 : decode cX9_rootOf 32 = .ok (.ireturn, 1) := by decide +kernel
theorem dX9_note_0 : decode cX9_note 0 = .ok (.iconst 0, 1) := by decide +kernel
theorem dX9_note_1 : decode cX9_note 1 = .ok (.istore_n 1, 1) := by decide +kernel
theorem dX9_note_2 : decode cX9_note 2 = .ok (.iload_n 1, 1) := by decide +kernel
theorem dX9_note_3 : decode cX9_note 3 = .ok (.bipush 100, 2) := by decide +kernel
theorem dX9_note_5 : decode cX9_note 5 = .ok (.if_icmp .ge 29, 3) := by decide +kernel
theorem dX9_note_8 : decode cX9_note 8 = .ok (.aload_n 0, 1) := by decide +kernel
theorem dX9_note_9 : decode cX9_note 9 = .ok (.getfield 16, 3) := by decide +kernel
theorem dX9_note_12 : decode cX9_note 12 = .ok (.bipush 100, 2) := by decide +kernel
theorem dX9_note_14 : decode cX9_note 14 = .ok (.aload_n 0, 1) := by decide +kernel
theorem dX9_note_15 : decode cX9_note 15 = .ok (.getfield 169, 3) := by decide +kernel
theorem dX9_note_18 : decode cX9_note 18 = .ok (.imul, 1) := by decide +kernel
theorem dX9_note_19 : decode cX9_note 19 = .ok (.iload_n 1, 1) := by decide +kernel
theorem dX9_note_20 : decode cX9_note 20 = .ok (.iadd, 1) := by decide +kernel
theorem dX9_note_21 : decode cX9_note 21 = .ok (.aload_n 0, 1) := by decide +kernel
theorem dX9_note_22 : decode cX9_note 22 = .ok (.getfield 7, 3) := by decide +kernel
theorem dX9_note_25 : decode cX9_note 25 = .ok (.iload_n 1, 1) := by decide +kernel
theorem dX9_note_26 : decode cX9_note 26 = .ok (.iaload, 1) := by decide +kernel
theorem dX9_note_27 : decode cX9_note 27 = .ok (.iastore, 1) := by decide +kernel
theorem dX9_note_28 : decode cX9_note 28 = .ok (.iinc 1 1, 3) := by decide +kernel
theorem dX9_note_31 : decode cX9_note 31 = .ok (.goto (-29), 3) := by decide +kernel
theorem dX9_note_34 : decode cX9_note 34 = .ok (.aload_n 0, 1) := by decide +kernel
theorem dX9_note_35 : decode cX9_note 35 = .ok (.aload_n 0, 1) := by decide +kernel
theorem dX9_note_36 : decode cX9_note 36 = .ok (.getfield 169, 3) := by decide +kernel
theorem dX9_note_39 : decode cX9_note 39 = .ok (.iconst 1, 1) := by decide +kernel
theorem dX9_note_40 : decode cX9_note 40 = .ok (.iadd, 1) := by decide +kernel
theorem dX9_note_41 : decode cX9_note 41 = .ok (.bipush 14, 2) := by decide +kernel
theorem dX9_note_43 : decode cX9_note 43 = .ok (.irem, 1) := by decide +kernel
theorem dX9_note_44 : decode cX9_note 44 = .ok (.putfield 169, 3) := by decide +kernel
theorem dX9_note_47 : decode cX9_note 47 = .ok (.aload_n 0, 1) := by decide +kernel
theorem dX9_note_48 : decode cX9_note 48 = .ok (.aload_n 0, 1) := by decide +kernel
theorem dX9_note_49 : decode cX9_note 49 = .ok (.getfield 172, 3) := by decide +kernel
theorem dX9_note_52 : decode cX9_note 52 = .ok (.bipush 14, 2) := by decide +kernel
theorem dX9_note_54 : decode cX9_note 54 = .ok (.if_icmp .ge 12, 3) := by decide +kernel
theorem dX9_note_57 : decode cX9_note 57 = .ok (.aload_n 0, 1) := by decide +kernel
theorem dX9_note_58 : decode cX9_note 58 = .ok (.getfield 172, 3) := by decide +kernel
theorem dX9_note_61 : decode cX9_note 61 = .ok (.iconst 1, 1) := by decide +kernel
theorem dX9_note_62 : decode cX9_note 62 = .ok (.iadd, 1) := by decide +kernel
theorem dX9_note_63 : decode cX9_note 63 = .ok (.goto 5, 3) := by decide +kernel
theorem dX9_note_66 : decode cX9_note 66 = .ok (.bipush 14, 2) := by decide +kernel
theorem dX9_note_68 : decode cX9_note 68 = .ok (.putfield 172, 3) := by decide +kernel
theorem dX9_note_71 : decode cX9_note 71 = .ok (.return_, 1) := by decide +kernel
theorem dX9_mayPut_0 : decode cX9_mayPut 0 = .ok (.aload_n 0, 1) := by decide +kernel
theorem dX9_mayPut_1 : decode cX9_mayPut 1 = .ok (.iload_n 1, 1) := by decide +kernel
theorem dX9_mayPut_2 : decode cX9_mayPut 2 = .ok (.iaload, 1) := by decide +kernel
theorem dX9_mayPut_3 : decode cX9_mayPut 3 = .ok (.bipush (-9), 2) := by decide +kernel
theorem dX9_mayPut_5 : decode cX9_mayPut 5 = .ok (.if_icmp .ne 12, 3) := by decide +kernel
theorem dX9_mayPut_8 : decode cX9_mayPut 8 = .ok (.aload_n 0, 1) := by decide +kernel
theorem dX9_mayPut_9 : decode cX9_mayPut 9 = .ok (.invokestatic 175, 3) := by decide +kernel
theorem dX9_mayPut_12 : decode cX9_mayPut 12 = .ok (.bipush 40, 2) := by decide +kernel
theorem dX9_mayPut_14 : decode cX9_mayPut 14 = .ok (.if_icmp .ge 7, 3) := by decide +kernel
theorem dX9_mayPut_17 : decode cX9_mayPut 17 = .ok (.iconst 1, 1) := by decide +kernel
theorem dX9_mayPut_18 : decode cX9_mayPut 18 = .ok (.goto 4, 3) := by decide +kernel
theorem dX9_mayPut_21 : decode cX9_mayPut 21 = .ok (.iconst 0, 1) := by decide +kernel
theorem dX9_mayPut_22 : decode cX9_mayPut 22 = .ok (.ireturn, 1) := by decide +kernel
theorem dX9_put_0 : decode cX9_put 0 = .ok (.iload_n 1, 1) := by decide +kernel
theorem dX9_put_1 : decode cX9_put 1 = .ok (.invokestatic 125, 3) := by decide +kernel
theorem dX9_put_4 : decode cX9_put 4 = .ok (.ifCond .eq 10, 3) := by decide +kernel
theorem dX9_put_7 : decode cX9_put 7 = .ok (.iload_n 2, 1) := by decide +kernel
theorem dX9_put_8 : decode cX9_put 8 = .ok (.invokestatic 125, 3) := by decide +kernel
theorem dX9_put_11 : decode cX9_put 11 = .ok (.ifCond .ne 6, 3) := by decide +kernel
theorem dX9_put_14 : decode cX9_put 14 = .ok (.bipush (-2), 2) := by decide +kernel
theorem dX9_put_16 : decode cX9_put 16 = .ok (.ireturn, 1) := by decide +kernel
theorem dX9_put_17 : decode cX9_put 17 = .ok (.aload_n 0, 1) := by decide +kernel
theorem dX9_put_18 : decode cX9_put 18 = .ok (.getfield 7, 3) := by decide +kernel
theorem dX9_put_21 : decode cX9_put 21 = .ok (.iload_n 1, 1) := by decide +kernel
theorem dX9_put_22 : decode cX9_put 22 = .ok (.invokestatic 179, 3) := by decide +kernel
theorem dX9_put_25 : decode cX9_put 25 = .ok (.ifCond .ne 6, 3) := by decide +kernel
theorem dX9_put_28 : decode cX9_put 28 = .ok (.bipush (-4), 2) := by decide +kernel
theorem dX9_put_30 : decode cX9_put 30 = .ok (.ireturn, 1) := by decide +kernel
theorem dX9_put_31 : decode cX9_put 31 = .ok (.aload_n 0, 1) := by decide +kernel
theorem dX9_put_32 : decode cX9_put 32 = .ok (.invokevirtual 183, 3) := by decide +kernel
theorem dX9_put_35 : decode cX9_put 35 = .ok (.aload_n 0, 1) := by decide +kernel
theorem dX9_put_36 : decode cX9_put 36 = .ok (.getfield 7, 3) := by decide +kernel
theorem dX9_put_39 : decode cX9_put 39 = .ok (.iload_n 1, 1) := by decide +kernel
theorem dX9_put_40 : decode cX9_put 40 = .ok (.iaload, 1) := by decide +kernel
theorem dX9_put_41 : decode cX9_put 41 = .ok (.istore_n 3, 1) := by decide +kernel
theorem dX9_put_42 : decode cX9_put 42 = .ok (.aload_n 0, 1) := by decide +kernel
theorem dX9_put_43 : decode cX9_put 43 = .ok (.getfield 7, 3) := by decide +kernel
theorem dX9_put_46 : decode cX9_put 46 = .ok (.iload_n 1, 1) := by decide +kernel
theorem dX9_put_47 : decode cX9_put 47 = .ok (.iload_n 2, 1) := by decide +kernel
theorem dX9_put_48 : decode cX9_put 48 = .ok (.iastore, 1) := by decide +kernel
theorem dX9_put_49 : decode cX9_put 49 = .ok (.iload_n 3, 1) := by decide +kernel
theorem dX9_put_50 : decode cX9_put 50 = .ok (.ireturn, 1) := by decide +kernel
theorem dX9_remove_0 : decode cX9_remove 0 = .ok (.iload_n 1, 1) := by decide +kernel
theorem dX9_remove_1 : decode cX9_remove 1 = .ok (.invokestatic 125, 3) := by decide +kernel
theorem dX9_remove_4 : decode cX9_remove 4 = .ok (.ifCond .ne 6, 3) := by decide +kernel
theorem dX9_remove_7 : decode cX9_remove 7 = .ok (.bipush (-2), 2) := by decide +kernel
theorem dX9_remove_9 : decode cX9_remove 9 = .ok (.ireturn, 1) := by decide +kernel
theorem dX9_remove_10 : decode cX9_remove 10 = .ok (.aload_n 0, 1) := by decide +kernel
theorem dX9_remove_11 : decode cX9_remove 11 = .ok (.getfield 7, 3) := by decide +kernel
theorem dX9_remove_14 : decode cX9_remove 14 = .ok (.iload_n 1, 1) := by decide +kernel
theorem dX9_remove_15 : decode cX9_remove 15 = .ok (.iaload, 1) := by decide +kernel
theorem dX9_remove_16 : decode cX9_remove 16 = .ok (.bipush (-9), 2) := by decide +kernel
theorem dX9_remove_18 : decode cX9_remove 18 = .ok (.if_icmp .ne 5, 3) := by decide +kernel
theorem dX9_remove_21 : decode cX9_remove 21 = .ok (.iconst (-1), 1) := by decide +kernel
theorem dX9_remove_22 : decode cX9_remove 22 = .ok (.ireturn, 1) := by decide +kernel
theorem dX9_remove_23 : decode cX9_remove 23 = .ok (.aload_n 0, 1) := by decide +kernel
theorem dX9_remove_24 : decode cX9_remove 24 = .ok (.invokevirtual 183, 3) := by decide +kernel
theorem dX9_remove_27 : decode cX9_remove 27 = .ok (.aload_n 0, 1) := by decide +kernel
theorem dX9_remove_28 : decode cX9_remove 28 = .ok (.getfield 7, 3) := by decide +kernel
theorem dX9_remove_31 : decode cX9_remove 31 = .ok (.iload_n 1, 1) := by decide +kernel
theorem dX9_remove_32 : decode cX9_remove 32 = .ok (.iaload, 1) := by decide +kernel
theorem dX9_remove_33 : decode cX9_remove 33 = .ok (.istore_n 2, 1) := by decide +kernel
theorem dX9_remove_34 : decode cX9_remove 34 = .ok (.aload_n 0, 1) := by decide +kernel
theorem dX9_remove_35 : decode cX9_remove 35 = .ok (.getfield 7, 3) := by decide +kernel
theorem dX9_remove_38 : decode cX9_remove 38 = .ok (.iload_n 1, 1) := by decide +kernel
theorem dX9_remove_39 : decode cX9_remove 39 = .ok (.bipush (-9), 2) := by decide +kernel
theorem dX9_remove_41 : decode cX9_remove 41 = .ok (.iastore, 1) := by decide +kernel
theorem dX9_remove_42 : decode cX9_remove 42 = .ok (.iload_n 2, 1) := by decide +kernel
theorem dX9_remove_43 : decode cX9_remove 43 = .ok (.ireturn, 1) := by decide +kernel
theorem dX9_get_0 : decode cX9_get 0 = .ok (.iload_n 1, 1) := by decide +kernel
theorem dX9_get_1 : decode cX9_get 1 = .ok (.invokestatic 125, 3) := by decide +kernel
theorem dX9_get_4 : decode cX9_get 4 = .ok (.ifCond .eq 12, 3) := by decide +kernel
theorem dX9_get_7 : decode cX9_get 7 = .ok (.aload_n 0, 1) := by decide +kernel
theorem dX9_get_8 : decode cX9_get 8 = .ok (.getfield 7, 3) := by decide +kernel
theorem dX9_get_11 : decode cX9_get 11 = .ok (.iload_n 1, 1) := by decide +kernel
theorem dX9_get_12 : decode cX9_get 12 = .ok (.iaload, 1) := by decide +kernel
theorem dX9_get_13 : decode cX9_get 13 = .ok (.goto 5, 3) := by decide +kernel
theorem dX9_get_16 : decode cX9_get 16 = .ok (.bipush (-2), 2) := by decide +kernel
theorem dX9_get_18 : decode cX9_get 18 = .ok (.ireturn, 1) := by decide +kernel
theorem dX9_scatter_0 : decode cX9_scatter 0 = .ok (.iload_n 1, 1) := by decide +kernel
theorem dX9_scatter_1 : decode cX9_scatter 1 = .ok (.i2l, 1) := by decide +kernel
theorem dX9_scatter_2 : decode cX9_scatter 2 = .ok (.lconst 1, 1) := by decide +kernel
theorem dX9_scatter_3 : decode cX9_scatter 3 = .ok (.ldc2_w 186, 3) := by decide +kernel
theorem dX9_scatter_6 : decode cX9_scatter 6 = .ok (.invokestatic 121, 3) := by decide +kernel
theorem dX9_scatter_9 : decode cX9_scatter 9 = .ok (.ifCond .ne 6, 3) := by decide +kernel
theorem dX9_scatter_12 : decode cX9_scatter 12 = .ok (.bipush (-2), 2) := by decide +kernel
theorem dX9_scatter_14 : decode cX9_scatter 14 = .ok (.ireturn, 1) := by decide +kernel
theorem dX9_scatter_15 : decode cX9_scatter 15 = .ok (.aload_n 0, 1) := by decide +kernel
theorem dX9_scatter_16 : decode cX9_scatter 16 = .ok (.invokevirtual 183, 3) := by decide +kernel
theorem dX9_scatter_19 : decode cX9_scatter 19 = .ok (.lload_n 2, 1) := by decide +kernel
theorem dX9_scatter_20 : decode cX9_scatter 20 = .ok (.lstore 4, 2) := by decide +kernel
theorem dX9_scatter_22 : decode cX9_scatter 22 = .ok (.iconst 0, 1) := by decide +kernel
theorem dX9_scatter_23 : decode cX9_scatter 23 = .ok (.istore 6, 2) := by decide +kernel
theorem dX9_scatter_25 : decode cX9_scatter 25 = .ok (.iload 6, 2) := by decide +kernel
theorem dX9_scatter_27 : decode cX9_scatter 27 = .ok (.iload_n 1, 1) := by decide +kernel
theorem dX9_scatter_28 : decode cX9_scatter 28 = .ok (.if_icmp .ge 63, 3) := by decide +kernel
theorem dX9_scatter_31 : decode cX9_scatter 31 = .ok (.lload 4, 2) := by decide +kernel
theorem dX9_scatter_33 : decode cX9_scatter 33 = .ok (.ldc2_w 188, 3) := by decide +kernel
theorem dX9_scatter_36 : decode cX9_scatter 36 = .ok (.lmul, 1) := by decide +kernel
theorem dX9_scatter_37 : decode cX9_scatter 37 = .ok (.ldc2_w 190, 3) := by decide +kernel
theorem dX9_scatter_40 : decode cX9_scatter 40 = .ok (.ladd, 1) := by decide +kernel
theorem dX9_scatter_41 : decode cX9_scatter 41 = .ok (.lstore 4, 2) := by decide +kernel
theorem dX9_scatter_43 : decode cX9_scatter 43 = .ok (.lload 4, 2) := by decide +kernel
theorem dX9_scatter_45 : decode cX9_scatter 45 = .ok (.bipush 33, 2) := by decide +kernel
theorem dX9_scatter_47 : decode cX9_scatter 47 = .ok (.lushr, 1) := by decide +kernel
theorem dX9_scatter_48 : decode cX9_scatter 48 = .ok (.l2i, 1) := by decide +kernel
theorem dX9_scatter_49 : decode cX9_scatter 49 = .ok (.istore 7, 2) := by decide +kernel
theorem dX9_scatter_51 : decode cX9_scatter 51 = .ok (.aload_n 0, 1) := by decide +kernel
theorem dX9_scatter_52 : decode cX9_scatter 52 = .ok (.getfield 7, 3) := by decide +kernel
theorem dX9_scatter_55 : decode cX9_scatter 55 = .ok (.iload 7, 2) := by decide +kernel
theorem dX9_scatter_57 : decode cX9_scatter 57 = .ok (.bipush 100, 2) := by decide +kernel
theorem dX9_scatter_59 : decode cX9_scatter 59 = .ok (.irem, 1) := by decide +kernel
theorem dX9_scatter_60 : decode cX9_scatter 60 = .ok (.invokestatic 179, 3) := by decide +kernel
theorem dX9_scatter_63 : decode cX9_scatter 63 = .ok (.ifCond .eq 22, 3) := by decide +kernel
theorem dX9_scatter_66 : decode cX9_scatter 66 = .ok (.aload_n 0, 1) := by decide +kernel
theorem dX9_scatter_67 : decode cX9_scatter 67 = .ok (.getfield 7, 3) := by decide +kernel
theorem dX9_scatter_70 : decode cX9_scatter 70 = .ok (.iload 7, 2) := by decide +kernel
theorem dX9_scatter_72 : decode cX9_scatter 72 = .ok (.bipush 100, 2) := by decide +kernel
theorem dX9_scatter_74 : decode cX9_scatter 74 = .ok (.irem, 1) := by decide +kernel
theorem dX9_scatter_75 : decode cX9_scatter 75 = .ok (.iload 7, 2) := by decide +kernel
theorem dX9_scatter_77 : decode cX9_scatter 77 = .ok (.sipush 128, 3) := by decide +kernel
theorem dX9_scatter_80 : decode cX9_scatter 80 = .ok (.idiv, 1) := by decide +kernel
theorem dX9_scatter_81 : decode cX9_scatter 81 = .ok (.bipush 100, 2) := by decide +kernel
theorem dX9_scatter_83 : decode cX9_scatter 83 = .ok (.irem, 1) := by decide +kernel
theorem dX9_scatter_84 : decode cX9_scatter 84 = .ok (.iastore, 1) := by decide +kernel
theorem dX9_scatter_85 : decode cX9_scatter 85 = .ok (.iinc 6 1, 3) := by decide +kernel
theorem dX9_scatter_88 : decode cX9_scatter 88 = .ok (.goto (-63), 3) := by decide +kernel
theorem dX9_scatter_91 : decode cX9_scatter 91 = .ok (.aload_n 0, 1) := by decide +kernel
theorem dX9_scatter_92 : decode cX9_scatter 92 = .ok (.getfield 7, 3) := by decide +kernel
theorem dX9_scatter_95 : decode cX9_scatter 95 = .ok (.invokestatic 175, 3) := by decide +kernel
theorem dX9_scatter_98 : decode cX9_scatter 98 = .ok (.ireturn, 1) := by decide +kernel
theorem dX9_undo_0 : decode cX9_undo 0 = .ok (.aload_n 0, 1) := by decide +kernel
theorem dX9_undo_1 : decode cX9_undo 1 = .ok (.getfield 172, 3) := by decide +kernel
theorem dX9_undo_4 : decode cX9_undo 4 = .ok (.ifCond .ne 6, 3) := by decide +kernel
theorem dX9_undo_7 : decode cX9_undo 7 = .ok (.bipush (-3), 2) := by decide +kernel
theorem dX9_undo_9 : decode cX9_undo 9 = .ok (.ireturn, 1) := by decide +kernel
theorem dX9_undo_10 : decode cX9_undo 10 = .ok (.aload_n 0, 1) := by decide +kernel
theorem dX9_undo_11 : decode cX9_undo 11 = .ok (.dup, 1) := by decide +kernel
theorem dX9_undo_12 : decode cX9_undo 12 = .ok (.getfield 172, 3) := by decide +kernel
theorem dX9_undo_15 : decode cX9_undo 15 = .ok (.iconst 1, 1) := by decide +kernel
theorem dX9_undo_16 : decode cX9_undo 16 = .ok (.isub, 1) := by decide +kernel
theorem dX9_undo_17 : decode cX9_undo 17 = .ok (.putfield 172, 3) := by decide +kernel
theorem dX9_undo_20 : decode cX9_undo 20 = .ok (.aload_n 0, 1) := by decide +kernel
theorem dX9_undo_21 : decode cX9_undo 21 = .ok (.aload_n 0, 1) := by decide +kernel
theorem dX9_undo_22 : decode cX9_undo 22 = .ok (.getfield 169, 3) := by decide +kernel
theorem dX9_undo_25 : decode cX9_undo 25 = .ok (.bipush 14, 2) := by decide +kernel
theorem dX9_undo_27 : decode cX9_undo 27 = .ok (.iadd, 1) := by decide +kernel
theorem dX9_undo_28 : decode cX9_undo 28 = .ok (.iconst 1, 1) := by decide +kernel
theorem dX9_undo_29 : decode cX9_undo 29 = .ok (.isub, 1) := by decide +kernel
theorem dX9_undo_30 : decode cX9_undo 30 = .ok (.bipush 14, 2) := by decide +kernel
theorem dX9_undo_32 : decode cX9_undo 32 = .ok (.irem, 1) := by decide +kernel
theorem dX9_undo_33 : decode cX9_undo 33 = .ok (.putfield 169, 3) := by decide +kernel
theorem dX9_undo_36 : decode cX9_undo 36 = .ok (.iconst 0, 1) := by decide +kernel
theorem dX9_undo_37 : decode cX9_undo 37 = .ok (.istore_n 1, 1) := by decide +kernel
theorem dX9_undo_38 : decode cX9_undo 38 = .ok (.iload_n 1, 1) := by decide +kernel
theorem dX9_undo_39 : decode cX9_undo 39 = .ok (.bipush 100, 2) := by decide +kernel
theorem dX9_undo_41 : decode cX9_undo 41 = .ok (.if_icmp .ge 29, 3) := by decide +kernel
theorem dX9_undo_44 : decode cX9_undo 44 = .ok (.aload_n 0, 1) := by decide +kernel
theorem dX9_undo_45 : decode cX9_undo 45 = .ok (.getfield 7, 3) := by decide +kernel
theorem dX9_undo_48 : decode cX9_undo 48 = .ok (.iload_n 1, 1) := by decide +kernel
theorem dX9_undo_49 : decode cX9_undo 49 = .ok (.aload_n 0, 1) := by decide +kernel
theorem dX9_undo_50 : decode cX9_undo 50 = .ok (.getfield 16, 3) := by decide +kernel
theorem dX9_undo_53 : decode cX9_undo 53 = .ok (.bipush 100, 2) := by decide +kernel
theorem dX9_undo_55 : decode cX9_undo 55 = .ok (.aload_n 0, 1) := by decide +kernel
theorem dX9_undo_56 : decode cX9_undo 56 = .ok (.getfield 169, 3) := by decide +kernel
theorem dX9_undo_59 : decode cX9_undo 59 = .ok (.imul, 1) := by decide +kernel
theorem dX9_undo_60 : decode cX9_undo 60 = .ok (.iload_n 1, 1) := by decide +kernel
theorem dX9_undo_61 : decode cX9_undo 61 = .ok (.iadd, 1) := by decide +kernel
theorem dX9_undo_62 : decode cX9_undo 62 = .ok (.iaload, 1) := by decide +kernel
theorem dX9_undo_63 : decode cX9_undo 63 = .ok (.iastore, 1) := by decide +kernel
theorem dX9_undo_64 : decode cX9_undo 64 = .ok (.iinc 1 1, 3) := by decide +kernel
theorem dX9_undo_67 : decode cX9_undo 67 = .ok (.goto (-29), 3) := by decide +kernel
theorem dX9_undo_70 : decode cX9_undo 70 = .ok (.aload_n 0, 1) := by decide +kernel
theorem dX9_undo_71 : decode cX9_undo 71 = .ok (.getfield 172, 3) := by decide +kernel
theorem dX9_undo_74 : decode cX9_undo 74 = .ok (.ireturn, 1) := by decide +kernel
theorem dX9_height_0 : decode cX9_height 0 = .ok (.aload_n 0, 1) := by decide +kernel
theorem dX9_height_1 : decode cX9_height 1 = .ok (.aload_n 0, 1) := by decide +kernel
theorem dX9_height_2 : decode cX9_height 2 = .ok (.getfield 7, 3) := by decide +kernel
theorem dX9_height_5 : decode cX9_height 5 = .ok (.iconst 0, 1) := by decide +kernel
theorem dX9_height_6 : decode cX9_height 6 = .ok (.invokevirtual 165, 3) := by decide +kernel
theorem dX9_height_9 : decode cX9_height 9 = .ok (.iconst 0, 1) := by decide +kernel
theorem dX9_height_10 : decode cX9_height 10 = .ok (.istore_n 1, 1) := by decide +kernel
theorem dX9_height_11 : decode cX9_height 11 = .ok (.iconst 0, 1) := by decide +kernel
theorem dX9_height_12 : decode cX9_height 12 = .ok (.istore_n 2, 1) := by decide +kernel
theorem dX9_height_13 : decode cX9_height 13 = .ok (.iload_n 2, 1) := by decide +kernel
theorem dX9_height_14 : decode cX9_height 14 = .ok (.bipush 100, 2) := by decide +kernel
theorem dX9_height_16 : decode cX9_height 16 = .ok (.if_icmp .ge 45, 3) := by decide +kernel
theorem dX9_height_19 : decode cX9_height 19 = .ok (.aload_n 0, 1) := by decide +kernel
theorem dX9_height_20 : decode cX9_height 20 = .ok (.getfield 7, 3) := by decide +kernel
theorem dX9_height_23 : decode cX9_height 23 = .ok (.iload_n 2, 1) := by decide +kernel
theorem dX9_height_24 : decode cX9_height 24 = .ok (.iaload, 1) := by decide +kernel
theorem dX9_height_25 : decode cX9_height 25 = .ok (.bipush (-9), 2) := by decide +kernel
theorem dX9_height_27 : decode cX9_height 27 = .ok (.if_icmp .eq 26, 3) := by decide +kernel
theorem dX9_height_30 : decode cX9_height 30 = .ok (.aload_n 0, 1) := by decide +kernel
theorem dX9_height_31 : decode cX9_height 31 = .ok (.getfield 35, 3) := by decide +kernel
theorem dX9_height_34 : decode cX9_height 34 = .ok (.iload_n 2, 1) := by decide +kernel
theorem dX9_height_35 : decode cX9_height 35 = .ok (.iaload, 1) := by decide +kernel
theorem dX9_height_36 : decode cX9_height 36 = .ok (.iconst 1, 1) := by decide +kernel
theorem dX9_height_37 : decode cX9_height 37 = .ok (.iadd, 1) := by decide +kernel
theorem dX9_height_38 : decode cX9_height 38 = .ok (.iload_n 1, 1) := by decide +kernel
theorem dX9_height_39 : decode cX9_height 39 = .ok (.if_icmp .le 14, 3) := by decide +kernel
theorem dX9_height_42 : decode cX9_height 42 = .ok (.aload_n 0, 1) := by decide +kernel
theorem dX9_height_43 : decode cX9_height 43 = .ok (.getfield 35, 3) := by decide +kernel
theorem dX9_height_46 : decode cX9_height 46 = .ok (.iload_n 2, 1) := by decide +kernel
theorem dX9_height_47 : decode cX9_height 47 = .ok (.iaload, 1) := by decide +kernel
theorem dX9_height_48 : decode cX9_height 48 = .ok (.iconst 1, 1) := by decide +kernel
theorem dX9_height_49 : decode cX9_height 49 = .ok (.iadd, 1) := by decide +kernel
theorem dX9_height_50 : decode cX9_height 50 = .ok (.goto 4, 3) := by decide +kernel
theorem dX9_height_53 : decode cX9_height 53 = .ok (.iload_n 1, 1) := by decide +kernel
theorem dX9_height_54 : decode cX9_height 54 = .ok (.istore_n 1, 1) := by decide +kernel
theorem dX9_height_55 : decode cX9_height 55 = .ok (.iinc 2 1, 3) := by decide +kernel
theorem dX9_height_58 : decode cX9_height 58 = .ok (.goto (-45), 3) := by decide +kernel
theorem dX9_height_61 : decode cX9_height 61 = .ok (.iload_n 1, 1) := by decide +kernel
theorem dX9_height_62 : decode cX9_height 62 = .ok (.ireturn, 1) := by decide +kernel
theorem dX9_values_0 : decode cX9_values 0 = .ok (.iconst 0, 1) := by decide +kernel
theorem dX9_values_1 : decode cX9_values 1 = .ok (.istore_n 1, 1) := by decide +kernel
theorem dX9_values_2 : decode cX9_values 2 = .ok (.iconst 0, 1) := by decide +kernel
theorem dX9_values_3 : decode cX9_values 3 = .ok (.istore_n 2, 1) := by decide +kernel
theorem dX9_values_4 : decode cX9_values 4 = .ok (.iload_n 2, 1) := by decide +kernel
theorem dX9_values_5 : decode cX9_values 5 = .ok (.bipush 100, 2) := by decide +kernel
theorem dX9_values_7 : decode cX9_values 7 = .ok (.if_icmp .ge 33, 3) := by decide +kernel
theorem dX9_values_10 : decode cX9_values 10 = .ok (.iload_n 1, 1) := by decide +kernel
theorem dX9_values_11 : decode cX9_values 11 = .ok (.aload_n 0, 1) := by decide +kernel
theorem dX9_values_12 : decode cX9_values 12 = .ok (.getfield 7, 3) := by decide +kernel
theorem dX9_values_15 : decode cX9_values 15 = .ok (.iload_n 2, 1) := by decide +kernel
theorem dX9_values_16 : decode cX9_values 16 = .ok (.iaload, 1) := by decide +kernel
theorem dX9_values_17 : decode cX9_values 17 = .ok (.bipush (-9), 2) := by decide +kernel
theorem dX9_values_19 : decode cX9_values 19 = .ok (.if_icmp .ne 7, 3) := by decide +kernel
theorem dX9_values_22 : decode cX9_values 22 = .ok (.iconst 0, 1) := by decide +kernel
theorem dX9_values_23 : decode cX9_values 23 = .ok (.goto 9, 3) := by decide +kernel
theorem dX9_values_26 : decode cX9_values 26 = .ok (.aload_n 0, 1) := by decide +kernel
theorem dX9_values_27 : decode cX9_values 27 = .ok (.getfield 7, 3) := by decide +kernel
theorem dX9_values_30 : decode cX9_values 30 = .ok (.iload_n 2, 1) := by decide +kernel
theorem dX9_values_31 : decode cX9_values 31 = .ok (.iaload, 1) := by decide +kernel
theorem dX9_values_32 : decode cX9_values 32 = .ok (.iadd, 1) := by decide +kernel
theorem dX9_values_33 : decode cX9_values 33 = .ok (.istore_n 1, 1) := by decide +kernel
theorem dX9_values_34 : decode cX9_values 34 = .ok (.iinc 2 1, 3) := by decide +kernel
theorem dX9_values_37 : decode cX9_values 37 = .ok (.goto (-33), 3) := by decide +kernel
theorem dX9_values_40 : decode cX9_values 40 = .ok (.iload_n 1, 1) := by decide +kernel
theorem dX9_values_41 : decode cX9_values 41 = .ok (.ireturn, 1) := by decide +kernel
theorem dX9_about_0 : decode cX9_about 0 = .ok (.iload_n 1, 1) := by decide +kernel
theorem dX9_about_1 : decode cX9_about 1 = .ok (.tableswitch 94 0 7 #[47, 55, 64, 69, 74, 79, 84, 89], 47) := by decide +kernel
theorem dX9_about_48 : decode cX9_about 48 = .ok (.aload_n 0, 1) := by decide +kernel
theorem dX9_about_49 : decode cX9_about 49 = .ok (.getfield 7, 3) := by decide +kernel
theorem dX9_about_52 : decode cX9_about 52 = .ok (.invokestatic 175, 3) := by decide +kernel
theorem dX9_about_55 : decode cX9_about 55 = .ok (.ireturn, 1) := by decide +kernel
theorem dX9_about_56 : decode cX9_about 56 = .ok (.aload_n 0, 1) := by decide +kernel
theorem dX9_about_57 : decode cX9_about 57 = .ok (.aload_n 0, 1) := by decide +kernel
theorem dX9_about_58 : decode cX9_about 58 = .ok (.getfield 7, 3) := by decide +kernel
theorem dX9_about_61 : decode cX9_about 61 = .ok (.invokevirtual 192, 3) := by decide +kernel
theorem dX9_about_64 : decode cX9_about 64 = .ok (.ireturn, 1) := by decide +kernel
theorem dX9_about_65 : decode cX9_about 65 = .ok (.aload_n 0, 1) := by decide +kernel
theorem dX9_about_66 : decode cX9_about 66 = .ok (.invokevirtual 195, 3) := by decide +kernel
theorem dX9_about_69 : decode cX9_about 69 = .ok (.ireturn, 1) := by decide +kernel
theorem dX9_about_70 : decode cX9_about 70 = .ok (.aload_n 0, 1) := by decide +kernel
theorem dX9_about_71 : decode cX9_about 71 = .ok (.invokevirtual 199, 3) := by decide +kernel
theorem dX9_about_74 : decode cX9_about 74 = .ok (.ireturn, 1) := by decide +kernel
theorem dX9_about_75 : decode cX9_about 75 = .ok (.aload_n 0, 1) := by decide +kernel
theorem dX9_about_76 : decode cX9_about 76 = .ok (.getfield 172, 3) := by decide +kernel
theorem dX9_about_79 : decode cX9_about 79 = .ok (.ireturn, 1) := by decide +kernel
theorem dX9_about_80 : decode cX9_about 80 = .ok (.aload_n 0, 1) := by decide +kernel
theorem dX9_about_81 : decode cX9_about 81 = .ok (.getfield 202, 3) := by decide +kernel
theorem dX9_about_84 : decode cX9_about 84 = .ok (.ireturn, 1) := by decide +kernel
theorem dX9_about_85 : decode cX9_about 85 = .ok (.aload_n 0, 1) := by decide +kernel
theorem dX9_about_86 : decode cX9_about 86 = .ok (.getfield 205, 3) := by decide +kernel
theorem dX9_about_89 : decode cX9_about 89 = .ok (.ireturn, 1) := by decide +kernel
theorem dX9_about_90 : decode cX9_about 90 = .ok (.aload_n 0, 1) := by decide +kernel
theorem dX9_about_91 : decode cX9_about 91 = .ok (.getfield 208, 3) := by decide +kernel
theorem dX9_about_94 : decode cX9_about 94 = .ok (.ireturn, 1) := by decide +kernel
theorem dX9_about_95 : decode cX9_about 95 = .ok (.bipush (-2), 2) := by decide +kernel
theorem dX9_about_97 : decode cX9_about 97 = .ok (.ireturn, 1) := by decide +kernel
theorem dX9_node_0 : decode cX9_node 0 = .ok (.iload_n 1, 1) := by decide +kernel
theorem dX9_node_1 : decode cX9_node 1 = .ok (.invokestatic 125, 3) := by decide +kernel
theorem dX9_node_4 : decode cX9_node 4 = .ok (.ifCond .eq 14, 3) := by decide +kernel
theorem dX9_node_7 : decode cX9_node 7 = .ok (.aload_n 0, 1) := by decide +kernel
theorem dX9_node_8 : decode cX9_node 8 = .ok (.getfield 7, 3) := by decide +kernel
theorem dX9_node_11 : decode cX9_node 11 = .ok (.iload_n 1, 1) := by decide +kernel
theorem dX9_node_12 : decode cX9_node 12 = .ok (.iaload, 1) := by decide +kernel
theorem dX9_node_13 : decode cX9_node 13 = .ok (.bipush (-9), 2) := by decide +kernel
theorem dX9_node_15 : decode cX9_node 15 = .ok (.if_icmp .ne 5, 3) := by decide +kernel
theorem dX9_node_18 : decode cX9_node 18 = .ok (.iconst (-1), 1) := by decide +kernel
theorem dX9_node_19 : decode cX9_node 19 = .ok (.ireturn, 1) := by decide +kernel
theorem dX9_node_20 : decode cX9_node 20 = .ok (.aload_n 0, 1) := by decide +kernel
theorem dX9_node_21 : decode cX9_node 21 = .ok (.aload_n 0, 1) := by decide +kernel
theorem dX9_node_22 : decode cX9_node 22 = .ok (.getfield 7, 3) := by decide +kernel
theorem dX9_node_25 : decode cX9_node 25 = .ok (.iconst 0, 1) := by decide +kernel
theorem dX9_node_26 : decode cX9_node 26 = .ok (.invokevirtual 165, 3) := by decide +kernel
theorem dX9_node_29 : decode cX9_node 29 = .ok (.iload_n 2, 1) := by decide +kernel
theorem dX9_node_30 : decode cX9_node 30 = .ok (.tableswitch 102 0 7 #[46, 53, 60, 67, 74, 81, 88, 95], 46) := by decide +kernel
theorem dX9_node_76 : decode cX9_node 76 = .ok (.aload_n 0, 1) := by decide +kernel
theorem dX9_node_77 : decode cX9_node 77 = .ok (.getfield 35, 3) := by decide +kernel
theorem dX9_node_80 : decode cX9_node 80 = .ok (.iload_n 1, 1) := by decide +kernel
theorem dX9_node_81 : decode cX9_node 81 = .ok (.iaload, 1) := by decide +kernel
theorem dX9_node_82 : decode cX9_node 82 = .ok (.ireturn, 1) := by decide +kernel
theorem dX9_node_83 : decode cX9_node 83 = .ok (.aload_n 0, 1) := by decide +kernel
theorem dX9_node_84 : decode cX9_node 84 = .ok (.getfield 26, 3) := by decide +kernel
theorem dX9_node_87 : decode cX9_node 87 = .ok (.iload_n 1, 1) := by decide +kernel
theorem dX9_node_88 : decode cX9_node 88 = .ok (.iaload, 1) := by decide +kernel
theorem dX9_node_89 : decode cX9_node 89 = .ok (.ireturn, 1) := by decide +kernel
theorem dX9_node_90 : decode cX9_node 90 = .ok (.aload_n 0, 1) := by decide +kernel
theorem dX9_node_91 : decode cX9_node 91 = .ok (.getfield 29, 3) := by decide +kernel
theorem dX9_node_94 : decode cX9_node 94 = .ok (.iload_n 1, 1) := by decide +kernel
theorem dX9_node_95 : decode cX9_node 95 = .ok (.iaload, 1) := by decide +kernel
theorem dX9_node_96 : decode cX9_node 96 = .ok (.ireturn, 1) := by decide +kernel
theorem dX9_node_97 : decode cX9_node 97 = .ok (.aload_n 0, 1) := by decide +kernel
theorem dX9_node_98 : decode cX9_node 98 = .ok (.getfield 32, 3) := by decide +kernel
theorem dX9_node_101 : decode cX9_node 101 = .ok (.iload_n 1, 1) := by decide +kernel
theorem dX9_node_102 : decode cX9_node 102 = .ok (.iaload, 1) := by decide +kernel
theorem dX9_node_103 : decode cX9_node 103 = .ok (.ireturn, 1) := by decide +kernel
theorem dX9_node_104 : decode cX9_node 104 = .ok (.aload_n 0, 1) := by decide +kernel
theorem dX9_node_105 : decode cX9_node 105 = .ok (.getfield 44, 3) := by decide +kernel
theorem dX9_node_108 : decode cX9_node 108 = .ok (.iload_n 1, 1) := by decide +kernel
theorem dX9_node_109 : decode cX9_node 109 = .ok (.iaload, 1) := by decide +kernel
theorem dX9_node_110 : decode cX9_node 110 = .ok (.ireturn, 1) := by decide +kernel
theorem dX9_node_111 : decode cX9_node 111 = .ok (.aload_n 0, 1) := by decide +kernel
theorem dX9_node_112 : decode cX9_node 112 = .ok (.getfield 47, 3) := by decide +kernel
theorem dX9_node_115 : decode cX9_node 115 = .ok (.iload_n 1, 1) := by decide +kernel
theorem dX9_node_116 : decode cX9_node 116 = .ok (.iaload, 1) := by decide +kernel
theorem dX9_node_117 : decode cX9_node 117 = .ok (.ireturn, 1) := by decide +kernel
theorem dX9_node_118 : decode cX9_node 118 = .ok (.aload_n 0, 1) := by decide +kernel
theorem dX9_node_119 : decode cX9_node 119 = .ok (.getfield 38, 3) := by decide +kernel
theorem dX9_node_122 : decode cX9_node 122 = .ok (.iload_n 1, 1) := by decide +kernel
theorem dX9_node_123 : decode cX9_node 123 = .ok (.iaload, 1) := by decide +kernel
theorem dX9_node_124 : decode cX9_node 124 = .ok (.ireturn, 1) := by decide +kernel
theorem dX9_node_125 : decode cX9_node 125 = .ok (.aload_n 0, 1) := by decide +kernel
theorem dX9_node_126 : decode cX9_node 126 = .ok (.getfield 41, 3) := by decide +kernel
theorem dX9_node_129 : decode cX9_node 129 = .ok (.iload_n 1, 1) := by decide +kernel
theorem dX9_node_130 : decode cX9_node 130 = .ok (.iaload, 1) := by decide +kernel
theorem dX9_node_131 : decode cX9_node 131 = .ok (.ireturn, 1) := by decide +kernel
theorem dX9_node_132 : decode cX9_node 132 = .ok (.bipush (-2), 2) := by decide +kernel
theorem dX9_node_134 : decode cX9_node 134 = .ok (.ireturn, 1) := by decide +kernel
theorem dX9_rank_0 : decode cX9_rank 0 = .ok (.iload_n 1, 1) := by decide +kernel
theorem dX9_rank_1 : decode cX9_rank 1 = .ok (.invokestatic 125, 3) := by decide +kernel
theorem dX9_rank_4 : decode cX9_rank 4 = .ok (.ifCond .eq 10, 3) := by decide +kernel
theorem dX9_rank_7 : decode cX9_rank 7 = .ok (.iload_n 1, 1) := by decide +kernel
theorem dX9_rank_8 : decode cX9_rank 8 = .ok (.invokestatic 135, 3) := by decide +kernel
theorem dX9_rank_11 : decode cX9_rank 11 = .ok (.goto 5, 3) := by decide +kernel
theorem dX9_rank_14 : decode cX9_rank 14 = .ok (.bipush (-2), 2) := by decide +kernel
theorem dX9_rank_16 : decode cX9_rank 16 = .ok (.ireturn, 1) := by decide +kernel
theorem dX9_itemOf_0 : decode cX9_itemOf 0 = .ok (.bipush (-100), 2) := by decide +kernel
theorem dX9_itemOf_2 : decode cX9_itemOf 2 = .ok (.bipush 100, 2) := by decide +kernel
theorem dX9_itemOf_4 : decode cX9_itemOf 4 = .ok (.iload_n 0, 1) := by decide +kernel
theorem dX9_itemOf_5 : decode cX9_itemOf 5 = .ok (.imul, 1) := by decide +kernel
theorem dX9_itemOf_6 : decode cX9_itemOf 6 = .ok (.iload_n 1, 1) := by decide +kernel
theorem dX9_itemOf_7 : decode cX9_itemOf 7 = .ok (.iadd, 1) := by decide +kernel
theorem dX9_itemOf_8 : decode cX9_itemOf 8 = .ok (.isub, 1) := by decide +kernel
theorem dX9_itemOf_9 : decode cX9_itemOf 9 = .ok (.ireturn, 1) := by decide +kernel
theorem dX9_prove_0 : decode cX9_prove 0 = .ok (.aload_n 0, 1) := by decide +kernel
theorem dX9_prove_1 : decode cX9_prove 1 = .ok (.aload_n 1, 1) := by decide +kernel
theorem dX9_prove_2 : decode cX9_prove 2 = .ok (.iconst 0, 1) := by decide +kernel
theorem dX9_prove_3 : decode cX9_prove 3 = .ok (.invokevirtual 165, 3) := by decide +kernel
theorem dX9_prove_6 : decode cX9_prove 6 = .ok (.aload_n 0, 1) := by decide +kernel
theorem dX9_prove_7 : decode cX9_prove 7 = .ok (.iconst 0, 1) := by decide +kernel
theorem dX9_prove_8 : decode cX9_prove 8 = .ok (.putfield 211, 3) := by decide +kernel
theorem dX9_prove_11 : decode cX9_prove 11 = .ok (.aload_n 0, 1) := by decide +kernel
theorem dX9_prove_12 : decode cX9_prove 12 = .ok (.iconst 0, 1) := by decide +kernel
theorem dX9_prove_13 : decode cX9_prove 13 = .ok (.putfield 145, 3) := by decide +kernel
theorem dX9_prove_16 : decode cX9_prove 16 = .ok (.aload_n 0, 1) := by decide +kernel
theorem dX9_prove_17 : decode cX9_prove 17 = .ok (.iconst 0, 1) := by decide +kernel
theorem dX9_prove_18 : decode cX9_prove 18 = .ok (.bipush 99, 2) := by decide +kernel
theorem dX9_prove_20 : decode cX9_prove 20 = .ok (.aload_n 0, 1) := by decide +kernel
theorem dX9_prove_21 : decode cX9_prove 21 = .ok (.getfield 50, 3) := by decide +kernel
theorem dX9_prove_24 : decode cX9_prove 24 = .ok (.iconst 0, 1) := by decide +kernel
theorem dX9_prove_25 : decode cX9_prove 25 = .ok (.iaload, 1) := by decide +kernel
theorem dX9_prove_26 : decode cX9_prove 26 = .ok (.iconst 0, 1) := by decide +kernel
theorem dX9_prove_27 : decode cX9_prove 27 = .ok (.invokevirtual 153, 3) := by decide +kernel
theorem dX9_prove_30 : decode cX9_prove 30 = .ok (.aload_n 0, 1) := by decide +kernel
theorem dX9_prove_31 : decode cX9_prove 31 = .ok (.getfield 145, 3) := by decide +kernel
theorem dX9_prove_34 : decode cX9_prove 34 = .ok (.ifCond .le 185, 3) := by decide +kernel
theorem dX9_prove_37 : decode cX9_prove 37 = .ok (.aload_n 0, 1) := by decide +kernel
theorem dX9_prove_38 : decode cX9_prove 38 = .ok (.dup, 1) := by decide +kernel
theorem dX9_prove_39 : decode cX9_prove 39 = .ok (.getfield 145, 3) := by decide +kernel
theorem dX9_prove_42 : decode cX9_prove 42 = .ok (.iconst 1, 1) := by decide +kernel
theorem dX9_prove_43 : decode cX9_prove 43 = .ok (.isub, 1) := by decide +kernel
theorem dX9_prove_44 : decode cX9_prove 44 = .ok (.putfield 145, 3) := by decide +kernel
theorem dX9_prove_47 : decode cX9_prove 47 = .ok (.aload_n 0, 1) := by decide +kernel
theorem dX9_prove_48 : decode cX9_prove 48 = .ok (.getfield 56, 3) := by decide +kernel
theorem dX9_prove_51 : decode cX9_prove 51 = .ok (.aload_n 0, 1) := by decide +kernel
theorem dX9_prove_52 : decode cX9_prove 52 = .ok (.getfield 145, 3) := by decide +kernel
theorem dX9_prove_55 : decode cX9_prove 55 = .ok (.iaload, 1) := by decide +kernel
theorem dX9_prove_56 : decode cX9_prove 56 = .ok (.istore 4, 2) := by decide +kernel
theorem dX9_prove_58 : decode cX9_prove 58 = .ok (.aload_n 0, 1) := by decide +kernel
theorem dX9_prove_59 : decode cX9_prove 59 = .ok (.getfield 59, 3) := by decide +kernel
theorem dX9_prove_62 : decode cX9_prove 62 = .ok (.aload_n 0, 1) := by decide +kernel
theorem dX9_prove_63 : decode cX9_prove 63 = .ok (.getfield 145, 3) := by decide +kernel
theorem dX9_prove_66 : decode cX9_prove 66 = .ok (.iaload, 1) := by decide +kernel
theorem dX9_prove_67 : decode cX9_prove 67 = .ok (.istore 5, 2) := by decide +kernel
theorem dX9_prove_69 : decode cX9_prove 69 = .ok (.aload_n 0, 1) := by decide +kernel
theorem dX9_prove_70 : decode cX9_prove 70 = .ok (.getfield 62, 3) := by decide +kernel
theorem dX9_prove_73 : decode cX9_prove 73 = .ok (.aload_n 0, 1) := by decide +kernel
theorem dX9_prove_74 : decode cX9_prove 74 = .ok (.getfield 145, 3) := by decide +kernel
theorem dX9_prove_77 : decode cX9_prove 77 = .ok (.iaload, 1) := by decide +kernel
theorem dX9_prove_78 : decode cX9_prove 78 = .ok (.istore 6, 2) := by decide +kernel
theorem dX9_prove_80 : decode cX9_prove 80 = .ok (.iload 4, 2) := by decide +kernel
theorem dX9_prove_82 : decode cX9_prove 82 = .ok (.iload_n 2, 1) := by decide +kernel
theorem dX9_prove_83 : decode cX9_prove 83 = .ok (.if_icmp .le 8, 3) := by decide +kernel
theorem dX9_prove_86 : decode cX9_prove 86 = .ok (.iload 4, 2) := by decide +kernel
theorem dX9_prove_88 : decode cX9_prove 88 = .ok (.goto 4, 3) := by decide +kernel
theorem dX9_prove_91 : decode cX9_prove 91 = .ok (.iload_n 2, 1) := by decide +kernel
theorem dX9_prove_92 : decode cX9_prove 92 = .ok (.iload 5, 2) := by decide +kernel
theorem dX9_prove_94 : decode cX9_prove 94 = .ok (.iload_n 3, 1) := by decide +kernel
theorem dX9_prove_95 : decode cX9_prove 95 = .ok (.if_icmp .ge 8, 3) := by decide +kernel
theorem dX9_prove_98 : decode cX9_prove 98 = .ok (.iload 5, 2) := by decide +kernel
theorem dX9_prove_100 : decode cX9_prove 100 = .ok (.goto 4, 3) := by decide +kernel
theorem dX9_prove_103 : decode cX9_prove 103 = .ok (.iload_n 3, 1) := by decide +kernel
theorem dX9_prove_104 : decode cX9_prove 104 = .ok (.if_icmp .gt 7, 3) := by decide +kernel
theorem dX9_prove_107 : decode cX9_prove 107 = .ok (.iconst 1, 1) := by decide +kernel
theorem dX9_prove_108 : decode cX9_prove 108 = .ok (.goto 4, 3) := by decide +kernel
theorem dX9_prove_111 : decode cX9_prove 111 = .ok (.iconst 0, 1) := by decide +kernel
theorem dX9_prove_112 : decode cX9_prove 112 = .ok (.istore 7, 2) := by decide +kernel
theorem dX9_prove_114 : decode cX9_prove 114 = .ok (.aload_n 0, 1) := by decide +kernel
theorem dX9_prove_115 : decode cX9_prove 115 = .ok (.getfield 68, 3) := by decide +kernel
theorem dX9_prove_118 : decode cX9_prove 118 = .ok (.aload_n 0, 1) := by decide +kernel
theorem dX9_prove_119 : decode cX9_prove 119 = .ok (.getfield 211, 3) := by decide +kernel
theorem dX9_prove_122 : decode cX9_prove 122 = .ok (.iload 6, 2) := by decide +kernel
theorem dX9_prove_124 : decode cX9_prove 124 = .ok (.bipush (-9), 2) := by decide +kernel
theorem dX9_prove_126 : decode cX9_prove 126 = .ok (.if_icmp .ne 7, 3) := by decide +kernel
theorem dX9_prove_129 : decode cX9_prove 129 = .ok (.iconst 0, 1) := by decide +kernel
theorem dX9_prove_130 : decode cX9_prove 130 = .ok (.goto 27, 3) := by decide +kernel
theorem dX9_prove_133 : decode cX9_prove 133 = .ok (.iload 7, 2) := by decide +kernel
theorem dX9_prove_135 : decode cX9_prove 135 = .ok (.ifCond .eq 15, 3) := by decide +kernel
theorem dX9_prove_138 : decode cX9_prove 138 = .ok (.iload 6, 2) := by decide +kernel
theorem dX9_prove_140 : decode cX9_prove 140 = .ok (.aload_n 1, 1) := by decide +kernel
theorem dX9_prove_141 : decode cX9_prove 141 = .ok (.iload 6, 2) := by decide +kernel
theorem dX9_prove_143 : decode cX9_prove 143 = .ok (.iaload, 1) := by decide +kernel
theorem dX9_prove_144 : decode cX9_prove 144 = .ok (.invokestatic 214, 3) := by decide +kernel
theorem dX9_prove_147 : decode cX9_prove 147 = .ok (.goto 10, 3) := by decide +kernel
theorem dX9_prove_150 : decode cX9_prove 150 = .ok (.aload_n 0, 1) := by decide +kernel
theorem dX9_prove_151 : decode cX9_prove 151 = .ok (.getfield 47, 3) := by decide +kernel
theorem dX9_prove_154 : decode cX9_prove 154 = .ok (.iload 6, 2) := by decide +kernel
theorem dX9_prove_156 : decode cX9_prove 156 = .ok (.iaload, 1) := by decide +kernel
theorem dX9_prove_157 : decode cX9_prove 157 = .ok (.iastore, 1) := by decide +kernel
theorem dX9_prove_158 : decode cX9_prove 158 = .ok (.aload_n 0, 1) := by decide +kernel
theorem dX9_prove_159 : decode cX9_prove 159 = .ok (.dup, 1) := by decide +kernel
theorem dX9_prove_160 : decode cX9_prove 160 = .ok (.getfield 211, 3) := by decide +kernel
theorem dX9_prove_163 : decode cX9_prove 163 = .ok (.iconst 1, 1) := by decide +kernel
theorem dX9_prove_164 : decode cX9_prove 164 = .ok (.iadd, 1) := by decide +kernel
theorem dX9_prove_165 : decode cX9_prove 165 = .ok (.putfield 211, 3) := by decide +kernel
theorem dX9_prove_168 : decode cX9_prove 168 = .ok (.iload 6, 2) := by decide +kernel
theorem dX9_prove_170 : decode cX9_prove 170 = .ok (.bipush (-9), 2) := by decide +kernel
theorem dX9_prove_172 : decode cX9_prove 172 = .ok (.if_icmp .eq 44, 3) := by decide +kernel
theorem dX9_prove_175 : decode cX9_prove 175 = .ok (.iload 7, 2) := by decide +kernel
theorem dX9_prove_177 : decode cX9_prove 177 = .ok (.ifCond .eq 39, 3) := by decide +kernel
theorem dX9_prove_180 : decode cX9_prove 180 = .ok (.aload_n 0, 1) := by decide +kernel
theorem dX9_prove_181 : decode cX9_prove 181 = .ok (.iload 6, 2) := by decide +kernel
theorem dX9_prove_183 : decode cX9_prove 183 = .ok (.iconst 1, 1) := by decide +kernel
theorem dX9_prove_184 : decode cX9_prove 184 = .ok (.iadd, 1) := by decide +kernel
theorem dX9_prove_185 : decode cX9_prove 185 = .ok (.iload 5, 2) := by decide +kernel
theorem dX9_prove_187 : decode cX9_prove 187 = .ok (.aload_n 0, 1) := by decide +kernel
theorem dX9_prove_188 : decode cX9_prove 188 = .ok (.getfield 32, 3) := by decide +kernel
theorem dX9_prove_191 : decode cX9_prove 191 = .ok (.iload 6, 2) := by decide +kernel
theorem dX9_prove_193 : decode cX9_prove 193 = .ok (.iaload, 1) := by decide +kernel
theorem dX9_prove_194 : decode cX9_prove 194 = .ok (.iconst 0, 1) := by decide +kernel
theorem dX9_prove_195 : decode cX9_prove 195 = .ok (.invokevirtual 153, 3) := by decide +kernel
theorem dX9_prove_198 : decode cX9_prove 198 = .ok (.aload_n 0, 1) := by decide +kernel
theorem dX9_prove_199 : decode cX9_prove 199 = .ok (.iload 4, 2) := by decide +kernel
theorem dX9_prove_201 : decode cX9_prove 201 = .ok (.iload 6, 2) := by decide +kernel
theorem dX9_prove_203 : decode cX9_prove 203 = .ok (.iconst 1, 1) := by decide +kernel
theorem dX9_prove_204 : decode cX9_prove 204 = .ok (.isub, 1) := by decide +kernel
theorem dX9_prove_205 : decode cX9_prove 205 = .ok (.aload_n 0, 1) := by decide +kernel
theorem dX9_prove_206 : decode cX9_prove 206 = .ok (.getfield 29, 3) := by decide +kernel
theorem dX9_prove_209 : decode cX9_prove 209 = .ok (.iload 6, 2) := by decide +kernel
theorem dX9_prove_211 : decode cX9_prove 211 = .ok (.iaload, 1) := by decide +kernel
theorem dX9_prove_212 : decode cX9_prove 212 = .ok (.iconst 0, 1) := by decide +kernel
theorem dX9_prove_213 : decode cX9_prove 213 = .ok (.invokevirtual 153, 3) := by decide +kernel
theorem dX9_prove_216 : decode cX9_prove 216 = .ok (.goto (-186), 3) := by decide +kernel
theorem dX9_prove_219 : decode cX9_prove 219 = .ok (.return_, 1) := by decide +kernel
theorem dX9_proof_0 : decode cX9_proof 0 = .ok (.iload_n 1, 1) := by decide +kernel
theorem dX9_proof_1 : decode cX9_proof 1 = .ok (.iload_n 2, 1) := by decide +kernel
theorem dX9_proof_2 : decode cX9_proof 2 = .ok (.invokestatic 218, 3) := by decide +kernel
theorem dX9_proof_5 : decode cX9_proof 5 = .ok (.ifCond .eq 15, 3) := by decide +kernel
theorem dX9_proof_8 : decode cX9_proof 8 = .ok (.iload_n 3, 1) := by decide +kernel
theorem dX9_proof_9 : decode cX9_proof 9 = .ok (.i2l, 1) := by decide +kernel
theorem dX9_proof_10 : decode cX9_proof 10 = .ok (.lconst 0, 1) := by decide +kernel
theorem dX9_proof_11 : decode cX9_proof 11 = .ok (.ldc2_w 221, 3) := by decide +kernel
theorem dX9_proof_14 : decode cX9_proof 14 = .ok (.invokestatic 121, 3) := by decide +kernel
theorem dX9_proof_17 : decode cX9_proof 17 = .ok (.ifCond .ne 6, 3) := by decide +kernel
theorem dX9_proof_20 : decode cX9_proof 20 = .ok (.bipush (-2), 2) := by decide +kernel
theorem dX9_proof_22 : decode cX9_proof 22 = .ok (.ireturn, 1) := by decide +kernel
theorem dX9_proof_23 : decode cX9_proof 23 = .ok (.aload_n 0, 1) := by decide +kernel
theorem dX9_proof_24 : decode cX9_proof 24 = .ok (.aload_n 0, 1) := by decide +kernel
theorem dX9_proof_25 : decode cX9_proof 25 = .ok (.getfield 7, 3) := by decide +kernel
theorem dX9_proof_28 : decode cX9_proof 28 = .ok (.iload_n 1, 1) := by decide +kernel
theorem dX9_proof_29 : decode cX9_proof 29 = .ok (.iload_n 2, 1) := by decide +kernel
theorem dX9_proof_30 : decode cX9_proof 30 = .ok (.invokevirtual 223, 3) := by decide +kernel
theorem dX9_proof_33 : decode cX9_proof 33 = .ok (.iconst 0, 1) := by decide +kernel
theorem dX9_proof_34 : decode cX9_proof 34 = .ok (.istore 4, 2) := by decide +kernel
theorem dX9_proof_36 : decode cX9_proof 36 = .ok (.iconst 0, 1) := by decide +kernel
theorem dX9_proof_37 : decode cX9_proof 37 = .ok (.istore 5, 2) := by decide +kernel
theorem dX9_proof_39 : decode cX9_proof 39 = .ok (.iload 5, 2) := by decide +kernel
theorem dX9_proof_41 : decode cX9_proof 41 = .ok (.aload_n 0, 1) := by decide +kernel
theorem dX9_proof_42 : decode cX9_proof 42 = .ok (.getfield 211, 3) := by decide +kernel
theorem dX9_proof_45 : decode cX9_proof 45 = .ok (.if_icmp .ge 53, 3) := by decide +kernel
theorem dX9_proof_48 : decode cX9_proof 48 = .ok (.iload 4, 2) := by decide +kernel
theorem dX9_proof_50 : decode cX9_proof 50 = .ok (.iload_n 3, 1) := by decide +kernel
theorem dX9_proof_51 : decode cX9_proof 51 = .ok (.ifCond .eq 33, 3) := by decide +kernel
theorem dX9_proof_54 : decode cX9_proof 54 = .ok (.iload_n 3, 1) := by decide +kernel
theorem dX9_proof_55 : decode cX9_proof 55 = .ok (.iconst 1, 1) := by decide +kernel
theorem dX9_proof_56 : decode cX9_proof 56 = .ok (.if_icmp .ne 13, 3) := by decide +kernel
theorem dX9_proof_59 : decode cX9_proof 59 = .ok (.aload_n 0, 1) := by decide +kernel
theorem dX9_proof_60 : decode cX9_proof 60 = .ok (.getfield 68, 3) := by decide +kernel
theorem dX9_proof_63 : decode cX9_proof 63 = .ok (.iload 5, 2) := by decide +kernel
theorem dX9_proof_65 : decode cX9_proof 65 = .ok (.iaload, 1) := by decide +kernel
theorem dX9_proof_66 : decode cX9_proof 66 = .ok (.ifCond .gt 18, 3) := by decide +kernel
theorem dX9_proof_69 : decode cX9_proof 69 = .ok (.iload_n 3, 1) := by decide +kernel
theorem dX9_proof_70 : decode cX9_proof 70 = .ok (.iconst 2, 1) := by decide +kernel
theorem dX9_proof_71 : decode cX9_proof 71 = .ok (.if_icmp .ne 17, 3) := by decide +kernel
theorem dX9_proof_74 : decode cX9_proof 74 = .ok (.aload_n 0, 1) := by decide +kernel
theorem dX9_proof_75 : decode cX9_proof 75 = .ok (.getfield 68, 3) := by decide +kernel
theorem dX9_proof_78 : decode cX9_proof 78 = .ok (.iload 5, 2) := by decide +kernel
theorem dX9_proof_80 : decode cX9_proof 80 = .ok (.iaload, 1) := by decide +kernel
theorem dX9_proof_81 : decode cX9_proof 81 = .ok (.ifCond .ge 7, 3) := by decide +kernel
theorem dX9_proof_84 : decode cX9_proof 84 = .ok (.iconst 1, 1) := by decide +kernel
theorem dX9_proof_85 : decode cX9_proof 85 = .ok (.goto 4, 3) := by decide +kernel
theorem dX9_proof_88 : decode cX9_proof 88 = .ok (.iconst 0, 1) := by decide +kernel
theorem dX9_proof_89 : decode cX9_proof 89 = .ok (.iadd, 1) := by decide +kernel
theorem dX9_proof_90 : decode cX9_proof 90 = .ok (.istore 4, 2) := by decide +kernel
theorem dX9_proof_92 : decode cX9_proof 92 = .ok (.iinc 5 1, 3) := by decide +kernel
theorem dX9_proof_95 : decode cX9_proof 95 = .ok (.goto (-56), 3) := by decide +kernel
theorem dX9_proof_98 : decode cX9_proof 98 = .ok (.iload 4, 2) := by decide +kernel
theorem dX9_proof_100 : decode cX9_proof 100 = .ok (.ireturn, 1) := by decide +kernel
theorem dX9_item_0 : decode cX9_item 0 = .ok (.iload_n 1, 1) := by decide +kernel
theorem dX9_item_1 : decode cX9_item 1 = .ok (.iload_n 2, 1) := by decide +kernel
theorem dX9_item_2 : decode cX9_item 2 = .ok (.invokestatic 218, 3) := by decide +kernel
theorem dX9_item_5 : decode cX9_item 5 = .ok (.ifCond .ne 6, 3) := by decide +kernel
theorem dX9_item_8 : decode cX9_item 8 = .ok (.bipush (-2), 2) := by decide +kernel
theorem dX9_item_10 : decode cX9_item 10 = .ok (.ireturn, 1) := by decide +kernel
theorem dX9_item_11 : decode cX9_item 11 = .ok (.aload_n 0, 1) := by decide +kernel
theorem dX9_item_12 : decode cX9_item 12 = .ok (.aload_n 0, 1) := by decide +kernel
theorem dX9_item_13 : decode cX9_item 13 = .ok (.getfield 7, 3) := by decide +kernel
theorem dX9_item_16 : decode cX9_item 16 = .ok (.iload_n 1, 1) := by decide +kernel
theorem dX9_item_17 : decode cX9_item 17 = .ok (.iload_n 2, 1) := by decide +kernel
theorem dX9_item_18 : decode cX9_item 18 = .ok (.invokevirtual 223, 3) := by decide +kernel
theorem dX9_item_21 : decode cX9_item 21 = .ok (.iload_n 3, 1) := by decide +kernel
theorem dX9_item_22 : decode cX9_item 22 = .ok (.i2l, 1) := by decide +kernel
theorem dX9_item_23 : decode cX9_item 23 = .ok (.lconst 0, 1) := by decide +kernel
theorem dX9_item_24 : decode cX9_item 24 = .ok (.aload_n 0, 1) := by decide +kernel
theorem dX9_item_25 : decode cX9_item 25 = .ok (.getfield 211, 3) := by decide +kernel
theorem dX9_item_28 : decode cX9_item 28 = .ok (.iconst 1, 1) := by decide +kernel
theorem dX9_item_29 : decode cX9_item 29 = .ok (.isub, 1) := by decide +kernel
theorem dX9_item_30 : decode cX9_item 30 = .ok (.i2l, 1) := by decide +kernel
theorem dX9_item_31 : decode cX9_item 31 = .ok (.invokestatic 121, 3) := by decide +kernel
theorem dX9_item_34 : decode cX9_item 34 = .ok (.ifCond .eq 12, 3) := by decide +kernel
theorem dX9_item_37 : decode cX9_item 37 = .ok (.aload_n 0, 1) := by decide +kernel
theorem dX9_item_38 : decode cX9_item 38 = .ok (.getfield 68, 3) := by decide +kernel
theorem dX9_item_41 : decode cX9_item 41 = .ok (.iload_n 3, 1) := by decide +kernel
theorem dX9_item_42 : decode cX9_item 42 = .ok (.iaload, 1) := by decide +kernel
theorem dX9_item_43 : decode cX9_item 43 = .ok (.goto 4, 3) := by decide +kernel
theorem dX9_item_46 : decode cX9_item 46 = .ok (.iconst (-1), 1) := by decide +kernel
theorem dX9_item_47 : decode cX9_item 47 = .ok (.ireturn, 1) := by decide +kernel
theorem dX9_lengths_0 : decode cX9_lengths 0 = .ok (.iload_n 2, 1) := by decide +kernel
theorem dX9_lengths_1 : decode cX9_lengths 1 = .ok (.i2l, 1) := by decide +kernel
theorem dX9_lengths_2 : decode cX9_lengths 2 = .ok (.lconst 0, 1) := by decide +kernel
theorem dX9_lengths_3 : decode cX9_lengths 3 = .ok (.lconst 1, 1) := by decide +kernel
theorem dX9_lengths_4 : decode cX9_lengths 4 = .ok (.invokestatic 121, 3) := by decide +kernel
theorem dX9_lengths_7 : decode cX9_lengths 7 = .ok (.ifCond .ne 6, 3) := by decide +kernel
theorem dX9_lengths_10 : decode cX9_lengths 10 = .ok (.bipush (-2), 2) := by decide +kernel
theorem dX9_lengths_12 : decode cX9_lengths 12 = .ok (.ireturn, 1) := by decide +kernel
theorem dX9_lengths_13 : decode cX9_lengths 13 = .ok (.iconst 0, 1) := by decide +kernel
theorem dX9_lengths_14 : decode cX9_lengths 14 = .ok (.istore_n 3, 1) := by decide +kernel
theorem dX9_lengths_15 : decode cX9_lengths 15 = .ok (.bipush (-9), 2) := by decide +kernel
theorem dX9_lengths_17 : decode cX9_lengths 17 = .ok (.istore 4, 2) := by decide +kernel
theorem dX9_lengths_19 : decode cX9_lengths 19 = .ok (.bipush 99, 2) := by decide +kernel
theorem dX9_lengths_21 : decode cX9_lengths 21 = .ok (.istore 5, 2) := by decide +kernel
theorem dX9_lengths_23 : decode cX9_lengths 23 = .ok (.iload 5, 2) := by decide +kernel
theorem dX9_lengths_25 : decode cX9_lengths 25 = .ok (.ifCond .lt 54, 3) := by decide +kernel
theorem dX9_lengths_28 : decode cX9_lengths 28 = .ok (.aload_n 0, 1) := by decide +kernel
theorem dX9_lengths_29 : decode cX9_lengths 29 = .ok (.aload_n 0, 1) := by decide +kernel
theorem dX9_lengths_30 : decode cX9_lengths 30 = .ok (.getfield 7, 3) := by decide +kernel
theorem dX9_lengths_33 : decode cX9_lengths 33 = .ok (.iload 5, 2) := by decide +kernel
theorem dX9_lengths_35 : decode cX9_lengths 35 = .ok (.iload 5, 2) := by decide +kernel
theorem dX9_lengths_37 : decode cX9_lengths 37 = .ok (.invokevirtual 223, 3) := by decide +kernel
theorem dX9_lengths_40 : decode cX9_lengths 40 = .ok (.iload_n 3, 1) := by decide +kernel
theorem dX9_lengths_41 : decode cX9_lengths 41 = .ok (.aload_n 0, 1) := by decide +kernel
theorem dX9_lengths_42 : decode cX9_lengths 42 = .ok (.getfield 211, 3) := by decide +kernel
theorem dX9_lengths_45 : decode cX9_lengths 45 = .ok (.iload_n 1, 1) := by decide +kernel
theorem dX9_lengths_46 : decode cX9_lengths 46 = .ok (.if_icmp .ne 7, 3) := by decide +kernel
theorem dX9_lengths_49 : decode cX9_lengths 49 = .ok (.iconst 1, 1) := by decide +kernel
theorem dX9_lengths_50 : decode cX9_lengths 50 = .ok (.goto 4, 3) := by decide +kernel
theorem dX9_lengths_53 : decode cX9_lengths 53 = .ok (.iconst 0, 1) := by decide +kernel
theorem dX9_lengths_54 : decode cX9_lengths 54 = .ok (.iadd, 1) := by decide +kernel
theorem dX9_lengths_55 : decode cX9_lengths 55 = .ok (.istore_n 3, 1) := by decide +kernel
theorem dX9_lengths_56 : decode cX9_lengths 56 = .ok (.aload_n 0, 1) := by decide +kernel
theorem dX9_lengths_57 : decode cX9_lengths 57 = .ok (.getfield 211, 3) := by decide +kernel
theorem dX9_lengths_60 : decode cX9_lengths 60 = .ok (.iload_n 1, 1) := by decide +kernel
theorem dX9_lengths_61 : decode cX9_lengths 61 = .ok (.if_icmp .ne 8, 3) := by decide +kernel
theorem dX9_lengths_64 : decode cX9_lengths 64 = .ok (.iload 5, 2) := by decide +kernel
theorem dX9_lengths_66 : decode cX9_lengths 66 = .ok (.goto 5, 3) := by decide +kernel
theorem dX9_lengths_69 : decode cX9_lengths 69 = .ok (.iload 4, 2) := by decide +kernel
theorem dX9_lengths_71 : decode cX9_lengths 71 = .ok (.istore 4, 2) := by decide +kernel
theorem dX9_lengths_73 : decode cX9_lengths 73 = .ok (.iinc 5 (-1), 3) := by decide +kernel
theorem dX9_lengths_76 : decode cX9_lengths 76 = .ok (.goto (-53), 3) := by decide +kernel
theorem dX9_lengths_79 : decode cX9_lengths 79 = .ok (.iload_n 2, 1) := by decide +kernel
theorem dX9_lengths_80 : decode cX9_lengths 80 = .ok (.ifCond .ne 7, 3) := by decide +kernel
theorem dX9_lengths_83 : decode cX9_lengths 83 = .ok (.iload_n 3, 1) := by decide +kernel
theorem dX9_lengths_84 : decode cX9_lengths 84 = .ok (.goto 5, 3) := by decide +kernel
theorem dX9_lengths_87 : decode cX9_lengths 87 = .ok (.iload 4, 2) := by decide +kernel
theorem dX9_lengths_89 : decode cX9_lengths 89 = .ok (.ireturn, 1) := by decide +kernel
theorem dX9_send_0 : decode cX9_send 0 = .ok (.iload_n 1, 1) := by decide +kernel
theorem dX9_send_1 : decode cX9_send 1 = .ok (.iload_n 2, 1) := by decide +kernel
theorem dX9_send_2 : decode cX9_send 2 = .ok (.invokestatic 218, 3) := by decide +kernel
theorem dX9_send_5 : decode cX9_send 5 = .ok (.ifCond .ne 6, 3) := by decide +kernel
theorem dX9_send_8 : decode cX9_send 8 = .ok (.bipush (-2), 2) := by decide +kernel
theorem dX9_send_10 : decode cX9_send 10 = .ok (.ireturn, 1) := by decide +kernel
theorem dX9_send_11 : decode cX9_send 11 = .ok (.aload_n 0, 1) := by decide +kernel
theorem dX9_send_12 : decode cX9_send 12 = .ok (.aload_n 0, 1) := by decide +kernel
theorem dX9_send_13 : decode cX9_send 13 = .ok (.getfield 7, 3) := by decide +kernel
theorem dX9_send_16 : decode cX9_send 16 = .ok (.iload_n 1, 1) := by decide +kernel
theorem dX9_send_17 : decode cX9_send 17 = .ok (.iload_n 2, 1) := by decide +kernel
theorem dX9_send_18 : decode cX9_send 18 = .ok (.invokevirtual 223, 3) := by decide +kernel
theorem dX9_send_21 : decode cX9_send 21 = .ok (.aload_n 0, 1) := by decide +kernel
theorem dX9_send_22 : decode cX9_send 22 = .ok (.aload_n 0, 1) := by decide +kernel
theorem dX9_send_23 : decode cX9_send 23 = .ok (.getfield 211, 3) := by decide +kernel
theorem dX9_send_26 : decode cX9_send 26 = .ok (.putfield 202, 3) := by decide +kernel
theorem dX9_send_29 : decode cX9_send 29 = .ok (.iconst 0, 1) := by decide +kernel
theorem dX9_send_30 : decode cX9_send 30 = .ok (.istore_n 3, 1) := by decide +kernel
theorem dX9_send_31 : decode cX9_send 31 = .ok (.iload_n 3, 1) := by decide +kernel
theorem dX9_send_32 : decode cX9_send 32 = .ok (.aload_n 0, 1) := by decide +kernel
theorem dX9_send_33 : decode cX9_send 33 = .ok (.getfield 202, 3) := by decide +kernel
theorem dX9_send_36 : decode cX9_send 36 = .ok (.if_icmp .ge 21, 3) := by decide +kernel
theorem dX9_send_39 : decode cX9_send 39 = .ok (.aload_n 0, 1) := by decide +kernel
theorem dX9_send_40 : decode cX9_send 40 = .ok (.getfield 71, 3) := by decide +kernel
theorem dX9_send_43 : decode cX9_send 43 = .ok (.iload_n 3, 1) := by decide +kernel
theorem dX9_send_44 : decode cX9_send 44 = .ok (.aload_n 0, 1) := by decide +kernel
theorem dX9_send_45 : decode cX9_send 45 = .ok (.getfield 68, 3) := by decide +kernel
theorem dX9_send_48 : decode cX9_send 48 = .ok (.iload_n 3, 1) := by decide +kernel
theorem dX9_send_49 : decode cX9_send 49 = .ok (.iaload, 1) := by decide +kernel
theorem dX9_send_50 : decode cX9_send 50 = .ok (.iastore, 1) := by decide +kernel
theorem dX9_send_51 : decode cX9_send 51 = .ok (.iinc 3 1, 3) := by decide +kernel
theorem dX9_send_54 : decode cX9_send 54 = .ok (.goto (-23), 3) := by decide +kernel
theorem dX9_send_57 : decode cX9_send 57 = .ok (.aload_n 0, 1) := by decide +kernel
theorem dX9_send_58 : decode cX9_send 58 = .ok (.getfield 202, 3) := by decide +kernel
theorem dX9_send_61 : decode cX9_send 61 = .ok (.ireturn, 1) := by decide +kernel
theorem dX9_isItem_0 : decode cX9_isItem 0 = .ok (.iload_n 0, 1) := by decide +kernel
theorem dX9_isItem_1 : decode cX9_isItem 1 = .ok (.ifCond .ge 17, 3) := by decide +kernel
theorem dX9_isItem_4 : decode cX9_isItem 4 = .ok (.iload_n 0, 1) := by decide +kernel
theorem dX9_isItem_5 : decode cX9_isItem 5 = .ok (.i2l, 1) := by decide +kernel
theorem dX9_isItem_6 : decode cX9_isItem 6 = .ok (.ldc2_w 227, 3) := by decide +kernel
theorem dX9_isItem_9 : decode cX9_isItem 9 = .ok (.ldc2_w 229, 3) := by decide +kernel
theorem dX9_isItem_12 : decode cX9_isItem 12 = .ok (.invokestatic 121, 3) := by decide +kernel
theorem dX9_isItem_15 : decode cX9_isItem 15 = .ok (.ifCond .eq 7, 3) := by decide +kernel
theorem dX9_isItem_18 : decode cX9_isItem 18 = .ok (.iconst 1, 1) := by decide +kernel
theorem dX9_isItem_19 : decode cX9_isItem 19 = .ok (.goto 4, 3) := by decide +kernel
theorem dX9_isItem_22 : decode cX9_isItem 22 = .ok (.iconst 0, 1) := by decide +kernel
theorem dX9_isItem_23 : decode cX9_isItem 23 = .ok (.ireturn, 1) := by decide +kernel
end
section
theorem dX9_tell_0 : decode cX9_tell 0 = .ok (.iload_n 1, 1) := by decide +kernel
theorem dX9_tell_1 : decode cX9_tell 1 = .ok (.invokestatic 231, 3) := by decide +kernel
theorem dX9_tell_4 : decode cX9_tell 4 = .ok (.ifCond .ne 6, 3) := by decide +kernel
theorem dX9_tell_7 : decode cX9_tell 7 = .ok (.bipush (-2), 2) := by decide +kernel
theorem dX9_tell_9 : decode cX9_tell 9 = .ok (.ireturn, 1) := by decide +kernel
theorem dX9_tell_10 : decode cX9_tell 10 = .ok (.aload_n 0, 1) := by decide +kernel
theorem dX9_tell_11 : decode cX9_tell 11 = .ok (.getfield 202, 3) := by decide +kernel
theorem dX9_tell_14 : decode cX9_tell 14 = .ok (.bipush 100, 2) := by decide +kernel
theorem dX9_tell_16 : decode cX9_tell 16 = .ok (.if_icmp .ne 6, 3) := by decide +kernel
theorem dX9_tell_19 : decode cX9_tell 19 = .ok (.bipush (-4), 2) := by decide +kernel
theorem dX9_tell_21 : decode cX9_tell 21 = .ok (.ireturn, 1) := by decide +kernel
theorem dX9_tell_22 : decode cX9_tell 22 = .ok (.aload_n 0, 1) := by decide +kernel
theorem dX9_tell_23 : decode cX9_tell 23 = .ok (.getfield 71, 3) := by decide +kernel
theorem dX9_tell_26 : decode cX9_tell 26 = .ok (.aload_n 0, 1) := by decide +kernel
theorem dX9_tell_27 : decode cX9_tell 27 = .ok (.getfield 202, 3) := by decide +kernel
theorem dX9_tell_30 : decode cX9_tell 30 = .ok (.iload_n 1, 1) := by decide +kernel
theorem dX9_tell_31 : decode cX9_tell 31 = .ok (.iastore, 1) := by decide +kernel
theorem dX9_tell_32 : decode cX9_tell 32 = .ok (.aload_n 0, 1) := by decide +kernel
theorem dX9_tell_33 : decode cX9_tell 33 = .ok (.dup, 1) := by decide +kernel
theorem dX9_tell_34 : decode cX9_tell 34 = .ok (.getfield 202, 3) := by decide +kernel
theorem dX9_tell_37 : decode cX9_tell 37 = .ok (.iconst 1, 1) := by decide +kernel
theorem dX9_tell_38 : decode cX9_tell 38 = .ok (.iadd, 1) := by decide +kernel
theorem dX9_tell_39 : decode cX9_tell 39 = .ok (.putfield 202, 3) := by decide +kernel
theorem dX9_tell_42 : decode cX9_tell 42 = .ok (.aload_n 0, 1) := by decide +kernel
theorem dX9_tell_43 : decode cX9_tell 43 = .ok (.getfield 202, 3) := by decide +kernel
theorem dX9_tell_46 : decode cX9_tell 46 = .ok (.ireturn, 1) := by decide +kernel
theorem dX9_alter_0 : decode cX9_alter 0 = .ok (.iload_n 1, 1) := by decide +kernel
theorem dX9_alter_1 : decode cX9_alter 1 = .ok (.i2l, 1) := by decide +kernel
theorem dX9_alter_2 : decode cX9_alter 2 = .ok (.lconst 0, 1) := by decide +kernel
theorem dX9_alter_3 : decode cX9_alter 3 = .ok (.aload_n 0, 1) := by decide +kernel
theorem dX9_alter_4 : decode cX9_alter 4 = .ok (.getfield 202, 3) := by decide +kernel
theorem dX9_alter_7 : decode cX9_alter 7 = .ok (.iconst 1, 1) := by decide +kernel
theorem dX9_alter_8 : decode cX9_alter 8 = .ok (.isub, 1) := by decide +kernel
theorem dX9_alter_9 : decode cX9_alter 9 = .ok (.i2l, 1) := by decide +kernel
theorem dX9_alter_10 : decode cX9_alter 10 = .ok (.invokestatic 121, 3) := by decide +kernel
theorem dX9_alter_13 : decode cX9_alter 13 = .ok (.ifCond .ne 5, 3) := by decide +kernel
theorem dX9_alter_16 : decode cX9_alter 16 = .ok (.iconst (-1), 1) := by decide +kernel
theorem dX9_alter_17 : decode cX9_alter 17 = .ok (.ireturn, 1) := by decide +kernel
theorem dX9_alter_18 : decode cX9_alter 18 = .ok (.iload_n 2, 1) := by decide +kernel
theorem dX9_alter_19 : decode cX9_alter 19 = .ok (.invokestatic 231, 3) := by decide +kernel
theorem dX9_alter_22 : decode cX9_alter 22 = .ok (.ifCond .ne 6, 3) := by decide +kernel
theorem dX9_alter_25 : decode cX9_alter 25 = .ok (.bipush (-2), 2) := by decide +kernel
theorem dX9_alter_27 : decode cX9_alter 27 = .ok (.ireturn, 1) := by decide +kernel
theorem dX9_alter_28 : decode cX9_alter 28 = .ok (.aload_n 0, 1) := by decide +kernel
theorem dX9_alter_29 : decode cX9_alter 29 = .ok (.getfield 71, 3) := by decide +kernel
theorem dX9_alter_32 : decode cX9_alter 32 = .ok (.iload_n 1, 1) := by decide +kernel
theorem dX9_alter_33 : decode cX9_alter 33 = .ok (.iaload, 1) := by decide +kernel
theorem dX9_alter_34 : decode cX9_alter 34 = .ok (.istore_n 3, 1) := by decide +kernel
theorem dX9_alter_35 : decode cX9_alter 35 = .ok (.aload_n 0, 1) := by decide +kernel
theorem dX9_alter_36 : decode cX9_alter 36 = .ok (.getfield 71, 3) := by decide +kernel
theorem dX9_alter_39 : decode cX9_alter 39 = .ok (.iload_n 1, 1) := by decide +kernel
theorem dX9_alter_40 : decode cX9_alter 40 = .ok (.iload_n 2, 1) := by decide +kernel
theorem dX9_alter_41 : decode cX9_alter 41 = .ok (.iastore, 1) := by decide +kernel
theorem dX9_alter_42 : decode cX9_alter 42 = .ok (.iload_n 3, 1) := by decide +kernel
theorem dX9_alter_43 : decode cX9_alter 43 = .ok (.ireturn, 1) := by decide +kernel
theorem dX9_cut_0 : decode cX9_cut 0 = .ok (.iload_n 1, 1) := by decide +kernel
theorem dX9_cut_1 : decode cX9_cut 1 = .ok (.i2l, 1) := by decide +kernel
theorem dX9_cut_2 : decode cX9_cut 2 = .ok (.lconst 0, 1) := by decide +kernel
theorem dX9_cut_3 : decode cX9_cut 3 = .ok (.aload_n 0, 1) := by decide +kernel
theorem dX9_cut_4 : decode cX9_cut 4 = .ok (.getfield 202, 3) := by decide +kernel
theorem dX9_cut_7 : decode cX9_cut 7 = .ok (.i2l, 1) := by decide +kernel
theorem dX9_cut_8 : decode cX9_cut 8 = .ok (.invokestatic 121, 3) := by decide +kernel
theorem dX9_cut_11 : decode cX9_cut 11 = .ok (.ifCond .ne 6, 3) := by decide +kernel
theorem dX9_cut_14 : decode cX9_cut 14 = .ok (.bipush (-2), 2) := by decide +kernel
theorem dX9_cut_16 : decode cX9_cut 16 = .ok (.ireturn, 1) := by decide +kernel
theorem dX9_cut_17 : decode cX9_cut 17 = .ok (.aload_n 0, 1) := by decide +kernel
theorem dX9_cut_18 : decode cX9_cut 18 = .ok (.getfield 202, 3) := by decide +kernel
theorem dX9_cut_21 : decode cX9_cut 21 = .ok (.istore_n 2, 1) := by decide +kernel
theorem dX9_cut_22 : decode cX9_cut 22 = .ok (.aload_n 0, 1) := by decide +kernel
theorem dX9_cut_23 : decode cX9_cut 23 = .ok (.iload_n 1, 1) := by decide +kernel
theorem dX9_cut_24 : decode cX9_cut 24 = .ok (.putfield 202, 3) := by decide +kernel
theorem dX9_cut_27 : decode cX9_cut 27 = .ok (.iload_n 2, 1) := by decide +kernel
theorem dX9_cut_28 : decode cX9_cut 28 = .ok (.ireturn, 1) := by decide +kernel
theorem dX9_takeTrust_0 : decode cX9_takeTrust 0 = .ok (.aload_n 0, 1) := by decide +kernel
theorem dX9_takeTrust_1 : decode cX9_takeTrust 1 = .ok (.getfield 208, 3) := by decide +kernel
theorem dX9_takeTrust_4 : decode cX9_takeTrust 4 = .ok (.bipush 8, 2) := by decide +kernel
theorem dX9_takeTrust_6 : decode cX9_takeTrust 6 = .ok (.if_icmp .ne 41, 3) := by decide +kernel
theorem dX9_takeTrust_9 : decode cX9_takeTrust 9 = .ok (.iconst 1, 1) := by decide +kernel
theorem dX9_takeTrust_10 : decode cX9_takeTrust 10 = .ok (.istore_n 2, 1) := by decide +kernel
theorem dX9_takeTrust_11 : decode cX9_takeTrust 11 = .ok (.iload_n 2, 1) := by decide +kernel
theorem dX9_takeTrust_12 : decode cX9_takeTrust 12 = .ok (.bipush 8, 2) := by decide +kernel
theorem dX9_takeTrust_14 : decode cX9_takeTrust 14 = .ok (.if_icmp .ge 23, 3) := by decide +kernel
theorem dX9_takeTrust_17 : decode cX9_takeTrust 17 = .ok (.aload_n 0, 1) := by decide +kernel
theorem dX9_takeTrust_18 : decode cX9_takeTrust 18 = .ok (.getfield 74, 3) := by decide +kernel
theorem dX9_takeTrust_21 : decode cX9_takeTrust 21 = .ok (.iload_n 2, 1) := by decide +kernel
theorem dX9_takeTrust_22 : decode cX9_takeTrust 22 = .ok (.iconst 1, 1) := by decide +kernel
theorem dX9_takeTrust_23 : decode cX9_takeTrust 23 = .ok (.isub, 1) := by decide +kernel
theorem dX9_takeTrust_24 : decode cX9_takeTrust 24 = .ok (.aload_n 0, 1) := by decide +kernel
theorem dX9_takeTrust_25 : decode cX9_takeTrust 25 = .ok (.getfield 74, 3) := by decide +kernel
theorem dX9_takeTrust_28 : decode cX9_takeTrust 28 = .ok (.iload_n 2, 1) := by decide +kernel
theorem dX9_takeTrust_29 : decode cX9_takeTrust 29 = .ok (.iaload, 1) := by decide +kernel
theorem dX9_takeTrust_30 : decode cX9_takeTrust 30 = .ok (.iastore, 1) := by decide +kernel
theorem dX9_takeTrust_31 : decode cX9_takeTrust 31 = .ok (.iinc 2 1, 3) := by decide +kernel
theorem dX9_takeTrust_34 : decode cX9_takeTrust 34 = .ok (.goto (-23), 3) := by decide +kernel
theorem dX9_takeTrust_37 : decode cX9_takeTrust 37 = .ok (.aload_n 0, 1) := by decide +kernel
theorem dX9_takeTrust_38 : decode cX9_takeTrust 38 = .ok (.dup, 1) := by decide +kernel
theorem dX9_takeTrust_39 : decode cX9_takeTrust 39 = .ok (.getfield 208, 3) := by decide +kernel
theorem dX9_takeTrust_42 : decode cX9_takeTrust 42 = .ok (.iconst 1, 1) := by decide +kernel
theorem dX9_takeTrust_43 : decode cX9_takeTrust 43 = .ok (.isub, 1) := by decide +kernel
theorem dX9_takeTrust_44 : decode cX9_takeTrust 44 = .ok (.putfield 208, 3) := by decide +kernel
theorem dX9_takeTrust_47 : decode cX9_takeTrust 47 = .ok (.aload_n 0, 1) := by decide +kernel
theorem dX9_takeTrust_48 : decode cX9_takeTrust 48 = .ok (.getfield 74, 3) := by decide +kernel
theorem dX9_takeTrust_51 : decode cX9_takeTrust 51 = .ok (.aload_n 0, 1) := by decide +kernel
theorem dX9_takeTrust_52 : decode cX9_takeTrust 52 = .ok (.getfield 208, 3) := by decide +kernel
theorem dX9_takeTrust_55 : decode cX9_takeTrust 55 = .ok (.aload_n 0, 1) := by decide +kernel
theorem dX9_takeTrust_56 : decode cX9_takeTrust 56 = .ok (.getfield 205, 3) := by decide +kernel
theorem dX9_takeTrust_59 : decode cX9_takeTrust 59 = .ok (.iastore, 1) := by decide +kernel
theorem dX9_takeTrust_60 : decode cX9_takeTrust 60 = .ok (.aload_n 0, 1) := by decide +kernel
theorem dX9_takeTrust_61 : decode cX9_takeTrust 61 = .ok (.dup, 1) := by decide +kernel
theorem dX9_takeTrust_62 : decode cX9_takeTrust 62 = .ok (.getfield 208, 3) := by decide +kernel
theorem dX9_takeTrust_65 : decode cX9_takeTrust 65 = .ok (.iconst 1, 1) := by decide +kernel
theorem dX9_takeTrust_66 : decode cX9_takeTrust 66 = .ok (.iadd, 1) := by decide +kernel
theorem dX9_takeTrust_67 : decode cX9_takeTrust 67 = .ok (.putfield 208, 3) := by decide +kernel
theorem dX9_takeTrust_70 : decode cX9_takeTrust 70 = .ok (.aload_n 0, 1) := by decide +kernel
theorem dX9_takeTrust_71 : decode cX9_takeTrust 71 = .ok (.iload_n 1, 1) := by decide +kernel
theorem dX9_takeTrust_72 : decode cX9_takeTrust 72 = .ok (.putfield 205, 3) := by decide +kernel
theorem dX9_takeTrust_75 : decode cX9_takeTrust 75 = .ok (.aload_n 0, 1) := by decide +kernel
theorem dX9_takeTrust_76 : decode cX9_takeTrust 76 = .ok (.getfield 208, 3) := by decide +kernel
theorem dX9_takeTrust_79 : decode cX9_takeTrust 79 = .ok (.ireturn, 1) := by decide +kernel
theorem dX9_trust_0 : decode cX9_trust 0 = .ok (.aload_n 0, 1) := by decide +kernel
theorem dX9_trust_1 : decode cX9_trust 1 = .ok (.aload_n 0, 1) := by decide +kernel
theorem dX9_trust_2 : decode cX9_trust 2 = .ok (.aload_n 0, 1) := by decide +kernel
theorem dX9_trust_3 : decode cX9_trust 3 = .ok (.getfield 7, 3) := by decide +kernel
theorem dX9_trust_6 : decode cX9_trust 6 = .ok (.invokevirtual 192, 3) := by decide +kernel
theorem dX9_trust_9 : decode cX9_trust 9 = .ok (.invokevirtual 234, 3) := by decide +kernel
theorem dX9_trust_12 : decode cX9_trust 12 = .ok (.ireturn, 1) := by decide +kernel
theorem dX9_believe_0 : decode cX9_believe 0 = .ok (.iload_n 1, 1) := by decide +kernel
theorem dX9_believe_1 : decode cX9_believe 1 = .ok (.ifCond .ge 8, 3) := by decide +kernel
theorem dX9_believe_4 : decode cX9_believe 4 = .ok (.bipush (-2), 2) := by decide +kernel
theorem dX9_believe_6 : decode cX9_believe 6 = .ok (.goto 8, 3) := by decide +kernel
theorem dX9_believe_9 : decode cX9_believe 9 = .ok (.aload_n 0, 1) := by decide +kernel
theorem dX9_believe_10 : decode cX9_believe 10 = .ok (.iload_n 1, 1) := by decide +kernel
theorem dX9_believe_11 : decode cX9_believe 11 = .ok (.invokevirtual 234, 3) := by decide +kernel
theorem dX9_believe_14 : decode cX9_believe 14 = .ok (.ireturn, 1) := by decide +kernel
theorem dX9_former_0 : decode cX9_former 0 = .ok (.iload_n 1, 1) := by decide +kernel
theorem dX9_former_1 : decode cX9_former 1 = .ok (.i2l, 1) := by decide +kernel
theorem dX9_former_2 : decode cX9_former 2 = .ok (.lconst 0, 1) := by decide +kernel
theorem dX9_former_3 : decode cX9_former 3 = .ok (.aload_n 0, 1) := by decide +kernel
theorem dX9_former_4 : decode cX9_former 4 = .ok (.getfield 208, 3) := by decide +kernel
theorem dX9_former_7 : decode cX9_former 7 = .ok (.iconst 1, 1) := by decide +kernel
theorem dX9_former_8 : decode cX9_former 8 = .ok (.isub, 1) := by decide +kernel
theorem dX9_former_9 : decode cX9_former 9 = .ok (.i2l, 1) := by decide +kernel
theorem dX9_former_10 : decode cX9_former 10 = .ok (.invokestatic 121, 3) := by decide +kernel
theorem dX9_former_13 : decode cX9_former 13 = .ok (.ifCond .eq 19, 3) := by decide +kernel
theorem dX9_former_16 : decode cX9_former 16 = .ok (.aload_n 0, 1) := by decide +kernel
theorem dX9_former_17 : decode cX9_former 17 = .ok (.getfield 74, 3) := by decide +kernel
theorem dX9_former_20 : decode cX9_former 20 = .ok (.aload_n 0, 1) := by decide +kernel
theorem dX9_former_21 : decode cX9_former 21 = .ok (.getfield 208, 3) := by decide +kernel
theorem dX9_former_24 : decode cX9_former 24 = .ok (.iconst 1, 1) := by decide +kernel
theorem dX9_former_25 : decode cX9_former 25 = .ok (.isub, 1) := by decide +kernel
theorem dX9_former_26 : decode cX9_former 26 = .ok (.iload_n 1, 1) := by decide +kernel
theorem dX9_former_27 : decode cX9_former 27 = .ok (.isub, 1) := by decide +kernel
theorem dX9_former_28 : decode cX9_former 28 = .ok (.iaload, 1) := by decide +kernel
theorem dX9_former_29 : decode cX9_former 29 = .ok (.goto 4, 3) := by decide +kernel
theorem dX9_former_32 : decode cX9_former 32 = .ok (.iconst (-1), 1) := by decide +kernel
theorem dX9_former_33 : decode cX9_former 33 = .ok (.ireturn, 1) := by decide +kernel
theorem dX9_hang_0 : decode cX9_hang 0 = .ok (.iload_n 1, 1) := by decide +kernel
theorem dX9_hang_1 : decode cX9_hang 1 = .ok (.bipush (-9), 2) := by decide +kernel
theorem dX9_hang_3 : decode cX9_hang 3 = .ok (.if_icmp .ne 12, 3) := by decide +kernel
theorem dX9_hang_6 : decode cX9_hang 6 = .ok (.aload_n 0, 1) := by decide +kernel
theorem dX9_hang_7 : decode cX9_hang 7 = .ok (.iload 4, 2) := by decide +kernel
theorem dX9_hang_9 : decode cX9_hang 9 = .ok (.putfield 237, 3) := by decide +kernel
theorem dX9_hang_12 : decode cX9_hang 12 = .ok (.goto 40, 3) := by decide +kernel
theorem dX9_hang_15 : decode cX9_hang 15 = .ok (.iload_n 2, 1) := by decide +kernel
theorem dX9_hang_16 : decode cX9_hang 16 = .ok (.ifCond .ne 21, 3) := by decide +kernel
theorem dX9_hang_19 : decode cX9_hang 19 = .ok (.aload_n 0, 1) := by decide +kernel
theorem dX9_hang_20 : decode cX9_hang 20 = .ok (.getfield 83, 3) := by decide +kernel
theorem dX9_hang_23 : decode cX9_hang 23 = .ok (.iload_n 1, 1) := by decide +kernel
theorem dX9_hang_24 : decode cX9_hang 24 = .ok (.iload_n 3, 1) := by decide +kernel
theorem dX9_hang_25 : decode cX9_hang 25 = .ok (.iastore, 1) := by decide +kernel
theorem dX9_hang_26 : decode cX9_hang 26 = .ok (.aload_n 0, 1) := by decide +kernel
theorem dX9_hang_27 : decode cX9_hang 27 = .ok (.getfield 89, 3) := by decide +kernel
theorem dX9_hang_30 : decode cX9_hang 30 = .ok (.iload_n 1, 1) := by decide +kernel
theorem dX9_hang_31 : decode cX9_hang 31 = .ok (.iload 4, 2) := by decide +kernel
theorem dX9_hang_33 : decode cX9_hang 33 = .ok (.iastore, 1) := by decide +kernel
theorem dX9_hang_34 : decode cX9_hang 34 = .ok (.goto 18, 3) := by decide +kernel
theorem dX9_hang_37 : decode cX9_hang 37 = .ok (.aload_n 0, 1) := by decide +kernel
theorem dX9_hang_38 : decode cX9_hang 38 = .ok (.getfield 86, 3) := by decide +kernel
theorem dX9_hang_41 : decode cX9_hang 41 = .ok (.iload_n 1, 1) := by decide +kernel
theorem dX9_hang_42 : decode cX9_hang 42 = .ok (.iload_n 3, 1) := by decide +kernel
theorem dX9_hang_43 : decode cX9_hang 43 = .ok (.iastore, 1) := by decide +kernel
theorem dX9_hang_44 : decode cX9_hang 44 = .ok (.aload_n 0, 1) := by decide +kernel
theorem dX9_hang_45 : decode cX9_hang 45 = .ok (.getfield 92, 3) := by decide +kernel
theorem dX9_hang_48 : decode cX9_hang 48 = .ok (.iload_n 1, 1) := by decide +kernel
theorem dX9_hang_49 : decode cX9_hang 49 = .ok (.iload 4, 2) := by decide +kernel
theorem dX9_hang_51 : decode cX9_hang 51 = .ok (.iastore, 1) := by decide +kernel
theorem dX9_hang_52 : decode cX9_hang 52 = .ok (.return_, 1) := by decide +kernel
theorem dX9_takeItem_0 : decode cX9_takeItem 0 = .ok (.aload_n 0, 1) := by decide +kernel
theorem dX9_takeItem_1 : decode cX9_takeItem 1 = .ok (.getfield 56, 3) := by decide +kernel
theorem dX9_takeItem_4 : decode cX9_takeItem 4 = .ok (.iload_n 2, 1) := by decide +kernel
theorem dX9_takeItem_5 : decode cX9_takeItem 5 = .ok (.iaload, 1) := by decide +kernel
theorem dX9_takeItem_6 : decode cX9_takeItem 6 = .ok (.istore 5, 2) := by decide +kernel
theorem dX9_takeItem_8 : decode cX9_takeItem 8 = .ok (.aload_n 0, 1) := by decide +kernel
theorem dX9_takeItem_9 : decode cX9_takeItem 9 = .ok (.getfield 59, 3) := by decide +kernel
theorem dX9_takeItem_12 : decode cX9_takeItem 12 = .ok (.iload_n 2, 1) := by decide +kernel
theorem dX9_takeItem_13 : decode cX9_takeItem 13 = .ok (.iaload, 1) := by decide +kernel
theorem dX9_takeItem_14 : decode cX9_takeItem 14 = .ok (.istore 6, 2) := by decide +kernel
theorem dX9_takeItem_16 : decode cX9_takeItem 16 = .ok (.aload_n 0, 1) := by decide +kernel
theorem dX9_takeItem_17 : decode cX9_takeItem 17 = .ok (.getfield 62, 3) := by decide +kernel
theorem dX9_takeItem_20 : decode cX9_takeItem 20 = .ok (.iload_n 2, 1) := by decide +kernel
theorem dX9_takeItem_21 : decode cX9_takeItem 21 = .ok (.iaload, 1) := by decide +kernel
theorem dX9_takeItem_22 : decode cX9_takeItem 22 = .ok (.istore 7, 2) := by decide +kernel
theorem dX9_takeItem_24 : decode cX9_takeItem 24 = .ok (.iload_n 1, 1) := by decide +kernel
theorem dX9_takeItem_25 : decode cX9_takeItem 25 = .ok (.ifCond .le 12, 3) := by decide +kernel
theorem dX9_takeItem_28 : decode cX9_takeItem 28 = .ok (.iload 5, 2) := by decide +kernel
theorem dX9_takeItem_30 : decode cX9_takeItem 30 = .ok (.iload 6, 2) := by decide +kernel
theorem dX9_takeItem_32 : decode cX9_takeItem 32 = .ok (.if_icmp .le 5, 3) := by decide +kernel
theorem dX9_takeItem_35 : decode cX9_takeItem 35 = .ok (.iconst 3, 1) := by decide +kernel
theorem dX9_takeItem_36 : decode cX9_takeItem 36 = .ok (.ireturn, 1) := by decide +kernel
theorem dX9_takeItem_37 : decode cX9_takeItem 37 = .ok (.iload_n 1, 1) := by decide +kernel
theorem dX9_takeItem_38 : decode cX9_takeItem 38 = .ok (.ifCond .le 34, 3) := by decide +kernel
theorem dX9_takeItem_41 : decode cX9_takeItem 41 = .ok (.iload 5, 2) := by decide +kernel
theorem dX9_takeItem_43 : decode cX9_takeItem 43 = .ok (.iload_n 3, 1) := by decide +kernel
theorem dX9_takeItem_44 : decode cX9_takeItem 44 = .ok (.if_icmp .le 8, 3) := by decide +kernel
theorem dX9_takeItem_47 : decode cX9_takeItem 47 = .ok (.iload 5, 2) := by decide +kernel
theorem dX9_takeItem_49 : decode cX9_takeItem 49 = .ok (.goto 4, 3) := by decide +kernel
theorem dX9_takeItem_52 : decode cX9_takeItem 52 = .ok (.iload_n 3, 1) := by decide +kernel
theorem dX9_takeItem_53 : decode cX9_takeItem 53 = .ok (.iload 6, 2) := by decide +kernel
theorem dX9_takeItem_55 : decode cX9_takeItem 55 = .ok (.iload 4, 2) := by decide +kernel
theorem dX9_takeItem_57 : decode cX9_takeItem 57 = .ok (.if_icmp .ge 8, 3) := by decide +kernel
theorem dX9_takeItem_60 : decode cX9_takeItem 60 = .ok (.iload 6, 2) := by decide +kernel
theorem dX9_takeItem_62 : decode cX9_takeItem 62 = .ok (.goto 5, 3) := by decide +kernel
theorem dX9_takeItem_65 : decode cX9_takeItem 65 = .ok (.iload 4, 2) := by decide +kernel
theorem dX9_takeItem_67 : decode cX9_takeItem 67 = .ok (.if_icmp .gt 5, 3) := by decide +kernel
theorem dX9_takeItem_70 : decode cX9_takeItem 70 = .ok (.iconst 5, 1) := by decide +kernel
theorem dX9_takeItem_71 : decode cX9_takeItem 71 = .ok (.ireturn, 1) := by decide +kernel
theorem dX9_takeItem_72 : decode cX9_takeItem 72 = .ok (.iload_n 1, 1) := by decide +kernel
theorem dX9_takeItem_73 : decode cX9_takeItem 73 = .ok (.ifCond .lt 20, 3) := by decide +kernel
theorem dX9_takeItem_76 : decode cX9_takeItem 76 = .ok (.aload_n 0, 1) := by decide +kernel
theorem dX9_takeItem_77 : decode cX9_takeItem 77 = .ok (.iload 7, 2) := by decide +kernel
theorem dX9_takeItem_79 : decode cX9_takeItem 79 = .ok (.aload_n 0, 1) := by decide +kernel
theorem dX9_takeItem_80 : decode cX9_takeItem 80 = .ok (.getfield 65, 3) := by decide +kernel
theorem dX9_takeItem_83 : decode cX9_takeItem 83 = .ok (.iload_n 2, 1) := by decide +kernel
theorem dX9_takeItem_84 : decode cX9_takeItem 84 = .ok (.iaload, 1) := by decide +kernel
theorem dX9_takeItem_85 : decode cX9_takeItem 85 = .ok (.bipush (-9), 2) := by decide +kernel
theorem dX9_takeItem_87 : decode cX9_takeItem 87 = .ok (.iload_n 1, 1) := by decide +kernel
theorem dX9_takeItem_88 : decode cX9_takeItem 88 = .ok (.invokevirtual 240, 3) := by decide +kernel
theorem dX9_takeItem_91 : decode cX9_takeItem 91 = .ok (.iconst 0, 1) := by decide +kernel
theorem dX9_takeItem_92 : decode cX9_takeItem 92 = .ok (.ireturn, 1) := by decide +kernel
theorem dX9_takeItem_93 : decode cX9_takeItem 93 = .ok (.bipush (-100), 2) := by decide +kernel
theorem dX9_takeItem_95 : decode cX9_takeItem 95 = .ok (.iload_n 1, 1) := by decide +kernel
theorem dX9_takeItem_96 : decode cX9_takeItem 96 = .ok (.isub, 1) := by decide +kernel
theorem dX9_takeItem_97 : decode cX9_takeItem 97 = .ok (.bipush 100, 2) := by decide +kernel
theorem dX9_takeItem_99 : decode cX9_takeItem 99 = .ok (.idiv, 1) := by decide +kernel
theorem dX9_takeItem_100 : decode cX9_takeItem 100 = .ok (.istore 8, 2) := by decide +kernel
theorem dX9_takeItem_102 : decode cX9_takeItem 102 = .ok (.iload 8, 2) := by decide +kernel
theorem dX9_takeItem_104 : decode cX9_takeItem 104 = .ok (.i2l, 1) := by decide +kernel
theorem dX9_takeItem_105 : decode cX9_takeItem 105 = .ok (.iload 5, 2) := by decide +kernel
theorem dX9_takeItem_107 : decode cX9_takeItem 107 = .ok (.i2l, 1) := by decide +kernel
theorem dX9_takeItem_108 : decode cX9_takeItem 108 = .ok (.iload 6, 2) := by decide +kernel
theorem dX9_takeItem_110 : decode cX9_takeItem 110 = .ok (.i2l, 1) := by decide +kernel
theorem dX9_takeItem_111 : decode cX9_takeItem 111 = .ok (.invokestatic 121, 3) := by decide +kernel
theorem dX9_takeItem_114 : decode cX9_takeItem 114 = .ok (.ifCond .ne 5, 3) := by decide +kernel
theorem dX9_takeItem_117 : decode cX9_takeItem 117 = .ok (.iconst 3, 1) := by decide +kernel
theorem dX9_takeItem_118 : decode cX9_takeItem 118 = .ok (.ireturn, 1) := by decide +kernel
theorem dX9_takeItem_119 : decode cX9_takeItem 119 = .ok (.iload 7, 2) := by decide +kernel
theorem dX9_takeItem_121 : decode cX9_takeItem 121 = .ok (.bipush (-9), 2) := by decide +kernel
theorem dX9_takeItem_123 : decode cX9_takeItem 123 = .ok (.if_icmp .eq 20, 3) := by decide +kernel
theorem dX9_takeItem_126 : decode cX9_takeItem 126 = .ok (.aload_n 0, 1) := by decide +kernel
theorem dX9_takeItem_127 : decode cX9_takeItem 127 = .ok (.getfield 77, 3) := by decide +kernel
theorem dX9_takeItem_130 : decode cX9_takeItem 130 = .ok (.iload 7, 2) := by decide +kernel
theorem dX9_takeItem_132 : decode cX9_takeItem 132 = .ok (.iaload, 1) := by decide +kernel
theorem dX9_takeItem_133 : decode cX9_takeItem 133 = .ok (.iload 8, 2) := by decide +kernel
theorem dX9_takeItem_135 : decode cX9_takeItem 135 = .ok (.invokestatic 149, 3) := by decide +kernel
theorem dX9_takeItem_138 : decode cX9_takeItem 138 = .ok (.ifCond .ne 5, 3) := by decide +kernel
theorem dX9_takeItem_141 : decode cX9_takeItem 141 = .ok (.iconst 4, 1) := by decide +kernel
theorem dX9_takeItem_142 : decode cX9_takeItem 142 = .ok (.ireturn, 1) := by decide +kernel
theorem dX9_takeItem_143 : decode cX9_takeItem 143 = .ok (.aload_n 0, 1) := by decide +kernel
theorem dX9_takeItem_144 : decode cX9_takeItem 144 = .ok (.getfield 243, 3) := by decide +kernel
theorem dX9_takeItem_147 : decode cX9_takeItem 147 = .ok (.istore 9, 2) := by decide +kernel
theorem dX9_takeItem_149 : decode cX9_takeItem 149 = .ok (.aload_n 0, 1) := by decide +kernel
theorem dX9_takeItem_150 : decode cX9_takeItem 150 = .ok (.getfield 77, 3) := by decide +kernel
theorem dX9_takeItem_153 : decode cX9_takeItem 153 = .ok (.iload 9, 2) := by decide +kernel
theorem dX9_takeItem_155 : decode cX9_takeItem 155 = .ok (.iload 8, 2) := by decide +kernel
theorem dX9_takeItem_157 : decode cX9_takeItem 157 = .ok (.iastore, 1) := by decide +kernel
theorem dX9_takeItem_158 : decode cX9_takeItem 158 = .ok (.aload_n 0, 1) := by decide +kernel
theorem dX9_takeItem_159 : decode cX9_takeItem 159 = .ok (.getfield 80, 3) := by decide +kernel
theorem dX9_takeItem_162 : decode cX9_takeItem 162 = .ok (.iload 9, 2) := by decide +kernel
theorem dX9_takeItem_164 : decode cX9_takeItem 164 = .ok (.bipush (-100), 2) := by decide +kernel
theorem dX9_takeItem_166 : decode cX9_takeItem 166 = .ok (.iload_n 1, 1) := by decide +kernel
theorem dX9_takeItem_167 : decode cX9_takeItem 167 = .ok (.isub, 1) := by decide +kernel
theorem dX9_takeItem_168 : decode cX9_takeItem 168 = .ok (.bipush 100, 2) := by decide +kernel
theorem dX9_takeItem_170 : decode cX9_takeItem 170 = .ok (.irem, 1) := by decide +kernel
theorem dX9_takeItem_171 : decode cX9_takeItem 171 = .ok (.iastore, 1) := by decide +kernel
theorem dX9_takeItem_172 : decode cX9_takeItem 172 = .ok (.aload_n 0, 1) := by decide +kernel
theorem dX9_takeItem_173 : decode cX9_takeItem 173 = .ok (.dup, 1) := by decide +kernel
theorem dX9_takeItem_174 : decode cX9_takeItem 174 = .ok (.getfield 243, 3) := by decide +kernel
theorem dX9_takeItem_177 : decode cX9_takeItem 177 = .ok (.iconst 1, 1) := by decide +kernel
theorem dX9_takeItem_178 : decode cX9_takeItem 178 = .ok (.iadd, 1) := by decide +kernel
theorem dX9_takeItem_179 : decode cX9_takeItem 179 = .ok (.putfield 243, 3) := by decide +kernel
theorem dX9_takeItem_182 : decode cX9_takeItem 182 = .ok (.aload_n 0, 1) := by decide +kernel
theorem dX9_takeItem_183 : decode cX9_takeItem 183 = .ok (.iload 7, 2) := by decide +kernel
theorem dX9_takeItem_185 : decode cX9_takeItem 185 = .ok (.aload_n 0, 1) := by decide +kernel
theorem dX9_takeItem_186 : decode cX9_takeItem 186 = .ok (.getfield 65, 3) := by decide +kernel
theorem dX9_takeItem_189 : decode cX9_takeItem 189 = .ok (.iload_n 2, 1) := by decide +kernel
theorem dX9_takeItem_190 : decode cX9_takeItem 190 = .ok (.iaload, 1) := by decide +kernel
theorem dX9_takeItem_191 : decode cX9_takeItem 191 = .ok (.iload 9, 2) := by decide +kernel
theorem dX9_takeItem_193 : decode cX9_takeItem 193 = .ok (.iconst 0, 1) := by decide +kernel
theorem dX9_takeItem_194 : decode cX9_takeItem 194 = .ok (.invokevirtual 240, 3) := by decide +kernel
theorem dX9_takeItem_197 : decode cX9_takeItem 197 = .ok (.aload_n 0, 1) := by decide +kernel
theorem dX9_takeItem_198 : decode cX9_takeItem 198 = .ok (.iload 8, 2) := by decide +kernel
theorem dX9_takeItem_200 : decode cX9_takeItem 200 = .ok (.iconst 1, 1) := by decide +kernel
theorem dX9_takeItem_201 : decode cX9_takeItem 201 = .ok (.iadd, 1) := by decide +kernel
theorem dX9_takeItem_202 : decode cX9_takeItem 202 = .ok (.iload 6, 2) := by decide +kernel
theorem dX9_takeItem_204 : decode cX9_takeItem 204 = .ok (.iload 9, 2) := by decide +kernel
theorem dX9_takeItem_206 : decode cX9_takeItem 206 = .ok (.iconst 1, 1) := by decide +kernel
theorem dX9_takeItem_207 : decode cX9_takeItem 207 = .ok (.invokevirtual 153, 3) := by decide +kernel
theorem dX9_takeItem_210 : decode cX9_takeItem 210 = .ok (.aload_n 0, 1) := by decide +kernel
theorem dX9_takeItem_211 : decode cX9_takeItem 211 = .ok (.iload 5, 2) := by decide +kernel
theorem dX9_takeItem_213 : decode cX9_takeItem 213 = .ok (.iload 8, 2) := by decide +kernel
theorem dX9_takeItem_215 : decode cX9_takeItem 215 = .ok (.iconst 1, 1) := by decide +kernel
theorem dX9_takeItem_216 : decode cX9_takeItem 216 = .ok (.isub, 1) := by decide +kernel
theorem dX9_takeItem_217 : decode cX9_takeItem 217 = .ok (.iload 9, 2) := by decide +kernel
theorem dX9_takeItem_219 : decode cX9_takeItem 219 = .ok (.iconst 0, 1) := by decide +kernel
theorem dX9_takeItem_220 : decode cX9_takeItem 220 = .ok (.invokevirtual 153, 3) := by decide +kernel
theorem dX9_takeItem_223 : decode cX9_takeItem 223 = .ok (.iconst 0, 1) := by decide +kernel
theorem dX9_takeItem_224 : decode cX9_takeItem 224 = .ok (.ireturn, 1) := by decide +kernel
theorem dX9_reasonOf_0 : decode cX9_reasonOf 0 = .ok (.aload_n 0, 1) := by decide +kernel
theorem dX9_reasonOf_1 : decode cX9_reasonOf 1 = .ok (.iconst 0, 1) := by decide +kernel
theorem dX9_reasonOf_2 : decode cX9_reasonOf 2 = .ok (.putfield 243, 3) := by decide +kernel
theorem dX9_reasonOf_5 : decode cX9_reasonOf 5 = .ok (.aload_n 0, 1) := by decide +kernel
theorem dX9_reasonOf_6 : decode cX9_reasonOf 6 = .ok (.iconst 0, 1) := by decide +kernel
theorem dX9_reasonOf_7 : decode cX9_reasonOf 7 = .ok (.putfield 237, 3) := by decide +kernel
theorem dX9_reasonOf_10 : decode cX9_reasonOf 10 = .ok (.aload_n 0, 1) := by decide +kernel
theorem dX9_reasonOf_11 : decode cX9_reasonOf 11 = .ok (.iconst 0, 1) := by decide +kernel
theorem dX9_reasonOf_12 : decode cX9_reasonOf 12 = .ok (.putfield 145, 3) := by decide +kernel
theorem dX9_reasonOf_15 : decode cX9_reasonOf 15 = .ok (.aload_n 0, 1) := by decide +kernel
theorem dX9_reasonOf_16 : decode cX9_reasonOf 16 = .ok (.iconst 0, 1) := by decide +kernel
theorem dX9_reasonOf_17 : decode cX9_reasonOf 17 = .ok (.bipush 99, 2) := by decide +kernel
theorem dX9_reasonOf_19 : decode cX9_reasonOf 19 = .ok (.bipush (-9), 2) := by decide +kernel
theorem dX9_reasonOf_21 : decode cX9_reasonOf 21 = .ok (.iconst 0, 1) := by decide +kernel
theorem dX9_reasonOf_22 : decode cX9_reasonOf 22 = .ok (.invokevirtual 153, 3) := by decide +kernel
theorem dX9_reasonOf_25 : decode cX9_reasonOf 25 = .ok (.iconst 0, 1) := by decide +kernel
theorem dX9_reasonOf_26 : decode cX9_reasonOf 26 = .ok (.istore_n 3, 1) := by decide +kernel
theorem dX9_reasonOf_27 : decode cX9_reasonOf 27 = .ok (.aload_n 0, 1) := by decide +kernel
theorem dX9_reasonOf_28 : decode cX9_reasonOf 28 = .ok (.getfield 145, 3) := by decide +kernel
theorem dX9_reasonOf_31 : decode cX9_reasonOf 31 = .ok (.ifCond .le 55, 3) := by decide +kernel
theorem dX9_reasonOf_34 : decode cX9_reasonOf 34 = .ok (.iload_n 3, 1) := by decide +kernel
theorem dX9_reasonOf_35 : decode cX9_reasonOf 35 = .ok (.aload_n 0, 1) := by decide +kernel
theorem dX9_reasonOf_36 : decode cX9_reasonOf 36 = .ok (.getfield 202, 3) := by decide +kernel
theorem dX9_reasonOf_39 : decode cX9_reasonOf 39 = .ok (.if_icmp .ne 5, 3) := by decide +kernel
theorem dX9_reasonOf_42 : decode cX9_reasonOf 42 = .ok (.iconst 1, 1) := by decide +kernel
theorem dX9_reasonOf_43 : decode cX9_reasonOf 43 = .ok (.ireturn, 1) := by decide +kernel
theorem dX9_reasonOf_44 : decode cX9_reasonOf 44 = .ok (.aload_n 0, 1) := by decide +kernel
theorem dX9_reasonOf_45 : decode cX9_reasonOf 45 = .ok (.dup, 1) := by decide +kernel
theorem dX9_reasonOf_46 : decode cX9_reasonOf 46 = .ok (.getfield 145, 3) := by decide +kernel
theorem dX9_reasonOf_49 : decode cX9_reasonOf 49 = .ok (.iconst 1, 1) := by decide +kernel
theorem dX9_reasonOf_50 : decode cX9_reasonOf 50 = .ok (.isub, 1) := by decide +kernel
theorem dX9_reasonOf_51 : decode cX9_reasonOf 51 = .ok (.putfield 145, 3) := by decide +kernel
theorem dX9_reasonOf_54 : decode cX9_reasonOf 54 = .ok (.aload_n 0, 1) := by decide +kernel
theorem dX9_reasonOf_55 : decode cX9_reasonOf 55 = .ok (.aload_n 0, 1) := by decide +kernel
theorem dX9_reasonOf_56 : decode cX9_reasonOf 56 = .ok (.getfield 71, 3) := by decide +kernel
theorem dX9_reasonOf_59 : decode cX9_reasonOf 59 = .ok (.iload_n 3, 1) := by decide +kernel
theorem dX9_reasonOf_60 : decode cX9_reasonOf 60 = .ok (.iaload, 1) := by decide +kernel
theorem dX9_reasonOf_61 : decode cX9_reasonOf 61 = .ok (.aload_n 0, 1) := by decide +kernel
theorem dX9_reasonOf_62 : decode cX9_reasonOf 62 = .ok (.getfield 145, 3) := by decide +kernel
theorem dX9_reasonOf_65 : decode cX9_reasonOf 65 = .ok (.iload_n 1, 1) := by decide +kernel
theorem dX9_reasonOf_66 : decode cX9_reasonOf 66 = .ok (.iload_n 2, 1) := by decide +kernel
theorem dX9_reasonOf_67 : decode cX9_reasonOf 67 = .ok (.invokevirtual 246, 3) := by decide +kernel
theorem dX9_reasonOf_70 : decode cX9_reasonOf 70 = .ok (.istore 4, 2) := by decide +kernel
theorem dX9_reasonOf_72 : decode cX9_reasonOf 72 = .ok (.iload 4, 2) := by decide +kernel
theorem dX9_reasonOf_74 : decode cX9_reasonOf 74 = .ok (.ifCond .eq 6, 3) := by decide +kernel
theorem dX9_reasonOf_77 : decode cX9_reasonOf 77 = .ok (.iload 4, 2) := by decide +kernel
theorem dX9_reasonOf_79 : decode cX9_reasonOf 79 = .ok (.ireturn, 1) := by decide +kernel
theorem dX9_reasonOf_80 : decode cX9_reasonOf 80 = .ok (.iinc 3 1, 3) := by decide +kernel
theorem dX9_reasonOf_83 : decode cX9_reasonOf 83 = .ok (.goto (-56), 3) := by decide +kernel
theorem dX9_reasonOf_86 : decode cX9_reasonOf 86 = .ok (.iload_n 3, 1) := by decide +kernel
theorem dX9_reasonOf_87 : decode cX9_reasonOf 87 = .ok (.aload_n 0, 1) := by decide +kernel
theorem dX9_reasonOf_88 : decode cX9_reasonOf 88 = .ok (.getfield 202, 3) := by decide +kernel
theorem dX9_reasonOf_91 : decode cX9_reasonOf 91 = .ok (.if_icmp .ge 5, 3) := by decide +kernel
theorem dX9_reasonOf_94 : decode cX9_reasonOf 94 = .ok (.iconst 2, 1) := by decide +kernel
theorem dX9_reasonOf_95 : decode cX9_reasonOf 95 = .ok (.ireturn, 1) := by decide +kernel
theorem dX9_reasonOf_96 : decode cX9_reasonOf 96 = .ok (.aload_n 0, 1) := by decide +kernel
theorem dX9_reasonOf_97 : decode cX9_reasonOf 97 = .ok (.invokevirtual 249, 3) := by decide +kernel
theorem dX9_reasonOf_100 : decode cX9_reasonOf 100 = .ok (.istore 4, 2) := by decide +kernel
theorem dX9_reasonOf_102 : decode cX9_reasonOf 102 = .ok (.iconst 0, 1) := by decide +kernel
theorem dX9_reasonOf_103 : decode cX9_reasonOf 103 = .ok (.istore 5, 2) := by decide +kernel
theorem dX9_reasonOf_105 : decode cX9_reasonOf 105 = .ok (.iconst 0, 1) := by decide +kernel
theorem dX9_reasonOf_106 : decode cX9_reasonOf 106 = .ok (.istore 6, 2) := by decide +kernel
theorem dX9_reasonOf_108 : decode cX9_reasonOf 108 = .ok (.iload 6, 2) := by decide +kernel
theorem dX9_reasonOf_110 : decode cX9_reasonOf 110 = .ok (.aload_n 0, 1) := by decide +kernel
theorem dX9_reasonOf_111 : decode cX9_reasonOf 111 = .ok (.getfield 208, 3) := by decide +kernel
theorem dX9_reasonOf_114 : decode cX9_reasonOf 114 = .ok (.if_icmp .ge 33, 3) := by decide +kernel
theorem dX9_reasonOf_117 : decode cX9_reasonOf 117 = .ok (.iload 5, 2) := by decide +kernel
theorem dX9_reasonOf_119 : decode cX9_reasonOf 119 = .ok (.ifCond .ne 15, 3) := by decide +kernel
theorem dX9_reasonOf_122 : decode cX9_reasonOf 122 = .ok (.aload_n 0, 1) := by decide +kernel
theorem dX9_reasonOf_123 : decode cX9_reasonOf 123 = .ok (.getfield 74, 3) := by decide +kernel
theorem dX9_reasonOf_126 : decode cX9_reasonOf 126 = .ok (.iload 6, 2) := by decide +kernel
theorem dX9_reasonOf_128 : decode cX9_reasonOf 128 = .ok (.iaload, 1) := by decide +kernel
theorem dX9_reasonOf_129 : decode cX9_reasonOf 129 = .ok (.iload 4, 2) := by decide +kernel
theorem dX9_reasonOf_131 : decode cX9_reasonOf 131 = .ok (.if_icmp .ne 7, 3) := by decide +kernel
theorem dX9_reasonOf_134 : decode cX9_reasonOf 134 = .ok (.iconst 1, 1) := by decide +kernel
theorem dX9_reasonOf_135 : decode cX9_reasonOf 135 = .ok (.goto 4, 3) := by decide +kernel
theorem dX9_reasonOf_138 : decode cX9_reasonOf 138 = .ok (.iconst 0, 1) := by decide +kernel
theorem dX9_reasonOf_139 : decode cX9_reasonOf 139 = .ok (.istore 5, 2) := by decide +kernel
theorem dX9_reasonOf_141 : decode cX9_reasonOf 141 = .ok (.iinc 6 1, 3) := by decide +kernel
theorem dX9_reasonOf_144 : decode cX9_reasonOf 144 = .ok (.goto (-36), 3) := by decide +kernel
theorem dX9_reasonOf_147 : decode cX9_reasonOf 147 = .ok (.iload 4, 2) := by decide +kernel
theorem dX9_reasonOf_149 : decode cX9_reasonOf 149 = .ok (.aload_n 0, 1) := by decide +kernel
theorem dX9_reasonOf_150 : decode cX9_reasonOf 150 = .ok (.getfield 205, 3) := by decide +kernel
theorem dX9_reasonOf_153 : decode cX9_reasonOf 153 = .ok (.if_icmp .ne 7, 3) := by decide +kernel
theorem dX9_reasonOf_156 : decode cX9_reasonOf 156 = .ok (.iconst 0, 1) := by decide +kernel
theorem dX9_reasonOf_157 : decode cX9_reasonOf 157 = .ok (.goto 15, 3) := by decide +kernel
theorem dX9_reasonOf_160 : decode cX9_reasonOf 160 = .ok (.iload 5, 2) := by decide +kernel
theorem dX9_reasonOf_162 : decode cX9_reasonOf 162 = .ok (.ifCond .eq 8, 3) := by decide +kernel
theorem dX9_reasonOf_165 : decode cX9_reasonOf 165 = .ok (.bipush 7, 2) := by decide +kernel
theorem dX9_reasonOf_167 : decode cX9_reasonOf 167 = .ok (.goto 5, 3) := by decide +kernel
theorem dX9_reasonOf_170 : decode cX9_reasonOf 170 = .ok (.bipush 6, 2) := by decide +kernel
theorem dX9_reasonOf_172 : decode cX9_reasonOf 172 = .ok (.ireturn, 1) := by decide +kernel
theorem dX9_shownDigest_0 : decode cX9_shownDigest 0 = .ok (.aload_n 0, 1) := by decide +kernel
theorem dX9_shownDigest_1 : decode cX9_shownDigest 1 = .ok (.getfield 243, 3) := by decide +kernel
theorem dX9_shownDigest_4 : decode cX9_shownDigest 4 = .ok (.iconst 1, 1) := by decide +kernel
theorem dX9_shownDigest_5 : decode cX9_shownDigest 5 = .ok (.isub, 1) := by decide +kernel
theorem dX9_shownDigest_6 : decode cX9_shownDigest 6 = .ok (.istore_n 1, 1) := by decide +kernel
theorem dX9_shownDigest_7 : decode cX9_shownDigest 7 = .ok (.iload_n 1, 1) := by decide +kernel
theorem dX9_shownDigest_8 : decode cX9_shownDigest 8 = .ok (.ifCond .lt 96, 3) := by decide +kernel
theorem dX9_shownDigest_11 : decode cX9_shownDigest 11 = .ok (.aload_n 0, 1) := by decide +kernel
theorem dX9_shownDigest_12 : decode cX9_shownDigest 12 = .ok (.getfield 83, 3) := by decide +kernel
theorem dX9_shownDigest_15 : decode cX9_shownDigest 15 = .ok (.iload_n 1, 1) := by decide +kernel
theorem dX9_shownDigest_16 : decode cX9_shownDigest 16 = .ok (.iaload, 1) := by decide +kernel
theorem dX9_shownDigest_17 : decode cX9_shownDigest 17 = .ok (.bipush (-9), 2) := by decide +kernel
theorem dX9_shownDigest_19 : decode cX9_shownDigest 19 = .ok (.if_icmp .ne 12, 3) := by decide +kernel
theorem dX9_shownDigest_22 : decode cX9_shownDigest 22 = .ok (.aload_n 0, 1) := by decide +kernel
theorem dX9_shownDigest_23 : decode cX9_shownDigest 23 = .ok (.getfield 89, 3) := by decide +kernel
theorem dX9_shownDigest_26 : decode cX9_shownDigest 26 = .ok (.iload_n 1, 1) := by decide +kernel
theorem dX9_shownDigest_27 : decode cX9_shownDigest 27 = .ok (.iaload, 1) := by decide +kernel
theorem dX9_shownDigest_28 : decode cX9_shownDigest 28 = .ok (.goto 14, 3) := by decide +kernel
theorem dX9_shownDigest_31 : decode cX9_shownDigest 31 = .ok (.aload_n 0, 1) := by decide +kernel
theorem dX9_shownDigest_32 : decode cX9_shownDigest 32 = .ok (.getfield 95, 3) := by decide +kernel
theorem dX9_shownDigest_35 : decode cX9_shownDigest 35 = .ok (.aload_n 0, 1) := by decide +kernel
theorem dX9_shownDigest_36 : decode cX9_shownDigest 36 = .ok (.getfield 83, 3) := by decide +kernel
theorem dX9_shownDigest_39 : decode cX9_shownDigest 39 = .ok (.iload_n 1, 1) := by decide +kernel
theorem dX9_shownDigest_40 : decode cX9_shownDigest 40 = .ok (.iaload, 1) := by decide +kernel
theorem dX9_shownDigest_41 : decode cX9_shownDigest 41 = .ok (.iaload, 1) := by decide +kernel
theorem dX9_shownDigest_42 : decode cX9_shownDigest 42 = .ok (.istore_n 2, 1) := by decide +kernel
theorem dX9_shownDigest_43 : decode cX9_shownDigest 43 = .ok (.aload_n 0, 1) := by decide +kernel
theorem dX9_shownDigest_44 : decode cX9_shownDigest 44 = .ok (.getfield 86, 3) := by decide +kernel
theorem dX9_shownDigest_47 : decode cX9_shownDigest 47 = .ok (.iload_n 1, 1) := by decide +kernel
theorem dX9_shownDigest_48 : decode cX9_shownDigest 48 = .ok (.iaload, 1) := by decide +kernel
theorem dX9_shownDigest_49 : decode cX9_shownDigest 49 = .ok (.bipush (-9), 2) := by decide +kernel
theorem dX9_shownDigest_51 : decode cX9_shownDigest 51 = .ok (.if_icmp .ne 12, 3) := by decide +kernel
theorem dX9_shownDigest_54 : decode cX9_shownDigest 54 = .ok (.aload_n 0, 1) := by decide +kernel
theorem dX9_shownDigest_55 : decode cX9_shownDigest 55 = .ok (.getfield 92, 3) := by decide +kernel
theorem dX9_shownDigest_58 : decode cX9_shownDigest 58 = .ok (.iload_n 1, 1) := by decide +kernel
theorem dX9_shownDigest_59 : decode cX9_shownDigest 59 = .ok (.iaload, 1) := by decide +kernel
theorem dX9_shownDigest_60 : decode cX9_shownDigest 60 = .ok (.goto 14, 3) := by decide +kernel
theorem dX9_shownDigest_63 : decode cX9_shownDigest 63 = .ok (.aload_n 0, 1) := by decide +kernel
theorem dX9_shownDigest_64 : decode cX9_shownDigest 64 = .ok (.getfield 95, 3) := by decide +kernel
theorem dX9_shownDigest_67 : decode cX9_shownDigest 67 = .ok (.aload_n 0, 1) := by decide +kernel
theorem dX9_shownDigest_68 : decode cX9_shownDigest 68 = .ok (.getfield 86, 3) := by decide +kernel
theorem dX9_shownDigest_71 : decode cX9_shownDigest 71 = .ok (.iload_n 1, 1) := by decide +kernel
theorem dX9_shownDigest_72 : decode cX9_shownDigest 72 = .ok (.iaload, 1) := by decide +kernel
theorem dX9_shownDigest_73 : decode cX9_shownDigest 73 = .ok (.iaload, 1) := by decide +kernel
theorem dX9_shownDigest_74 : decode cX9_shownDigest 74 = .ok (.istore_n 3, 1) := by decide +kernel
theorem dX9_shownDigest_75 : decode cX9_shownDigest 75 = .ok (.aload_n 0, 1) := by decide +kernel
theorem dX9_shownDigest_76 : decode cX9_shownDigest 76 = .ok (.getfield 95, 3) := by decide +kernel
theorem dX9_shownDigest_79 : decode cX9_shownDigest 79 = .ok (.iload_n 1, 1) := by decide +kernel
theorem dX9_shownDigest_80 : decode cX9_shownDigest 80 = .ok (.aload_n 0, 1) := by decide +kernel
theorem dX9_shownDigest_81 : decode cX9_shownDigest 81 = .ok (.getfield 77, 3) := by decide +kernel
theorem dX9_shownDigest_84 : decode cX9_shownDigest 84 = .ok (.iload_n 1, 1) := by decide +kernel
theorem dX9_shownDigest_85 : decode cX9_shownDigest 85 = .ok (.iaload, 1) := by decide +kernel
theorem dX9_shownDigest_86 : decode cX9_shownDigest 86 = .ok (.aload_n 0, 1) := by decide +kernel
theorem dX9_shownDigest_87 : decode cX9_shownDigest 87 = .ok (.getfield 80, 3) := by decide +kernel
theorem dX9_shownDigest_90 : decode cX9_shownDigest 90 = .ok (.iload_n 1, 1) := by decide +kernel
theorem dX9_shownDigest_91 : decode cX9_shownDigest 91 = .ok (.iaload, 1) := by decide +kernel
theorem dX9_shownDigest_92 : decode cX9_shownDigest 92 = .ok (.iload_n 2, 1) := by decide +kernel
theorem dX9_shownDigest_93 : decode cX9_shownDigest 93 = .ok (.iload_n 3, 1) := by decide +kernel
theorem dX9_shownDigest_94 : decode cX9_shownDigest 94 = .ok (.invokestatic 161, 3) := by decide +kernel
theorem dX9_shownDigest_97 : decode cX9_shownDigest 97 = .ok (.iastore, 1) := by decide +kernel
theorem dX9_shownDigest_98 : decode cX9_shownDigest 98 = .ok (.iinc 1 (-1), 3) := by decide +kernel
theorem dX9_shownDigest_101 : decode cX9_shownDigest 101 = .ok (.goto (-94), 3) := by decide +kernel
theorem dX9_shownDigest_104 : decode cX9_shownDigest 104 = .ok (.aload_n 0, 1) := by decide +kernel
theorem dX9_shownDigest_105 : decode cX9_shownDigest 105 = .ok (.getfield 243, 3) := by decide +kernel
theorem dX9_shownDigest_108 : decode cX9_shownDigest 108 = .ok (.ifCond .ne 10, 3) := by decide +kernel
theorem dX9_shownDigest_111 : decode cX9_shownDigest 111 = .ok (.aload_n 0, 1) := by decide +kernel
theorem dX9_shownDigest_112 : decode cX9_shownDigest 112 = .ok (.getfield 237, 3) := by decide +kernel
theorem dX9_shownDigest_115 : decode cX9_shownDigest 115 = .ok (.goto 9, 3) := by decide +kernel
theorem dX9_shownDigest_118 : decode cX9_shownDigest 118 = .ok (.aload_n 0, 1) := by decide +kernel
theorem dX9_shownDigest_119 : decode cX9_shownDigest 119 = .ok (.getfield 95, 3) := by decide +kernel
theorem dX9_shownDigest_122 : decode cX9_shownDigest 122 = .ok (.iconst 0, 1) := by decide +kernel
theorem dX9_shownDigest_123 : decode cX9_shownDigest 123 = .ok (.iaload, 1) := by decide +kernel
theorem dX9_shownDigest_124 : decode cX9_shownDigest 124 = .ok (.ireturn, 1) := by decide +kernel
theorem dX9_read_0 : decode cX9_read 0 = .ok (.iload_n 1, 1) := by decide +kernel
theorem dX9_read_1 : decode cX9_read 1 = .ok (.iload_n 2, 1) := by decide +kernel
theorem dX9_read_2 : decode cX9_read 2 = .ok (.invokestatic 218, 3) := by decide +kernel
theorem dX9_read_5 : decode cX9_read 5 = .ok (.ifCond .eq 12, 3) := by decide +kernel
theorem dX9_read_8 : decode cX9_read 8 = .ok (.aload_n 0, 1) := by decide +kernel
theorem dX9_read_9 : decode cX9_read 9 = .ok (.iload_n 1, 1) := by decide +kernel
theorem dX9_read_10 : decode cX9_read 10 = .ok (.iload_n 2, 1) := by decide +kernel
theorem dX9_read_11 : decode cX9_read 11 = .ok (.invokevirtual 252, 3) := by decide +kernel
theorem dX9_read_14 : decode cX9_read 14 = .ok (.goto 5, 3) := by decide +kernel
theorem dX9_read_17 : decode cX9_read 17 = .ok (.bipush (-2), 2) := by decide +kernel
theorem dX9_read_19 : decode cX9_read 19 = .ok (.ireturn, 1) := by decide +kernel
theorem dX9_learnt_0 : decode cX9_learnt 0 = .ok (.iload_n 1, 1) := by decide +kernel
theorem dX9_learnt_1 : decode cX9_learnt 1 = .ok (.iload_n 2, 1) := by decide +kernel
theorem dX9_learnt_2 : decode cX9_learnt 2 = .ok (.invokestatic 218, 3) := by decide +kernel
theorem dX9_learnt_5 : decode cX9_learnt 5 = .ok (.ifCond .eq 15, 3) := by decide +kernel
theorem dX9_learnt_8 : decode cX9_learnt 8 = .ok (.iload_n 3, 1) := by decide +kernel
theorem dX9_learnt_9 : decode cX9_learnt 9 = .ok (.i2l, 1) := by decide +kernel
theorem dX9_learnt_10 : decode cX9_learnt 10 = .ok (.lconst 0, 1) := by decide +kernel
theorem dX9_learnt_11 : decode cX9_learnt 11 = .ok (.ldc2_w 255, 3) := by decide +kernel
theorem dX9_learnt_14 : decode cX9_learnt 14 = .ok (.invokestatic 121, 3) := by decide +kernel
theorem dX9_learnt_17 : decode cX9_learnt 17 = .ok (.ifCond .ne 6, 3) := by decide +kernel
theorem dX9_learnt_20 : decode cX9_learnt 20 = .ok (.bipush (-2), 2) := by decide +kernel
theorem dX9_learnt_22 : decode cX9_learnt 22 = .ok (.ireturn, 1) := by decide +kernel
theorem dX9_learnt_23 : decode cX9_learnt 23 = .ok (.aload_n 0, 1) := by decide +kernel
theorem dX9_learnt_24 : decode cX9_learnt 24 = .ok (.iload_n 1, 1) := by decide +kernel
theorem dX9_learnt_25 : decode cX9_learnt 25 = .ok (.iload_n 2, 1) := by decide +kernel
theorem dX9_learnt_26 : decode cX9_learnt 26 = .ok (.invokevirtual 252, 3) := by decide +kernel
theorem dX9_learnt_29 : decode cX9_learnt 29 = .ok (.ifCond .eq 6, 3) := by decide +kernel
theorem dX9_learnt_32 : decode cX9_learnt 32 = .ok (.bipush (-3), 2) := by decide +kernel
theorem dX9_learnt_34 : decode cX9_learnt 34 = .ok (.ireturn, 1) := by decide +kernel
theorem dX9_learnt_35 : decode cX9_learnt 35 = .ok (.iconst 0, 1) := by decide +kernel
theorem dX9_learnt_36 : decode cX9_learnt 36 = .ok (.istore 4, 2) := by decide +kernel
theorem dX9_learnt_38 : decode cX9_learnt 38 = .ok (.iconst 0, 1) := by decide +kernel
theorem dX9_learnt_39 : decode cX9_learnt 39 = .ok (.istore 5, 2) := by decide +kernel
theorem dX9_learnt_41 : decode cX9_learnt 41 = .ok (.bipush (-9), 2) := by decide +kernel
theorem dX9_learnt_43 : decode cX9_learnt 43 = .ok (.istore 6, 2) := by decide +kernel
theorem dX9_learnt_45 : decode cX9_learnt 45 = .ok (.bipush (-9), 2) := by decide +kernel
theorem dX9_learnt_47 : decode cX9_learnt 47 = .ok (.istore 7, 2) := by decide +kernel
theorem dX9_learnt_49 : decode cX9_learnt 49 = .ok (.iconst 0, 1) := by decide +kernel
theorem dX9_learnt_50 : decode cX9_learnt 50 = .ok (.istore 8, 2) := by decide +kernel
theorem dX9_learnt_52 : decode cX9_learnt 52 = .ok (.iload 8, 2) := by decide +kernel
theorem dX9_learnt_54 : decode cX9_learnt 54 = .ok (.aload_n 0, 1) := by decide +kernel
theorem dX9_learnt_55 : decode cX9_learnt 55 = .ok (.getfield 243, 3) := by decide +kernel
theorem dX9_learnt_58 : decode cX9_learnt 58 = .ok (.if_icmp .ge 121, 3) := by decide +kernel
theorem dX9_learnt_61 : decode cX9_learnt 61 = .ok (.aload_n 0, 1) := by decide +kernel
theorem dX9_learnt_62 : decode cX9_learnt 62 = .ok (.getfield 77, 3) := by decide +kernel
theorem dX9_learnt_65 : decode cX9_learnt 65 = .ok (.iload 8, 2) := by decide +kernel
theorem dX9_learnt_67 : decode cX9_learnt 67 = .ok (.iaload, 1) := by decide +kernel
theorem dX9_learnt_68 : decode cX9_learnt 68 = .ok (.istore 9, 2) := by decide +kernel
theorem dX9_learnt_70 : decode cX9_learnt 70 = .ok (.iload 4, 2) := by decide +kernel
theorem dX9_learnt_72 : decode cX9_learnt 72 = .ok (.iload 9, 2) := by decide +kernel
theorem dX9_learnt_74 : decode cX9_learnt 74 = .ok (.i2l, 1) := by decide +kernel
theorem dX9_learnt_75 : decode cX9_learnt 75 = .ok (.iload_n 1, 1) := by decide +kernel
theorem dX9_learnt_76 : decode cX9_learnt 76 = .ok (.i2l, 1) := by decide +kernel
theorem dX9_learnt_77 : decode cX9_learnt 77 = .ok (.iload_n 2, 1) := by decide +kernel
theorem dX9_learnt_78 : decode cX9_learnt 78 = .ok (.i2l, 1) := by decide +kernel
theorem dX9_learnt_79 : decode cX9_learnt 79 = .ok (.invokestatic 121, 3) := by decide +kernel
theorem dX9_learnt_82 : decode cX9_learnt 82 = .ok (.ifCond .eq 7, 3) := by decide +kernel
theorem dX9_learnt_85 : decode cX9_learnt 85 = .ok (.iconst 1, 1) := by decide +kernel
theorem dX9_learnt_86 : decode cX9_learnt 86 = .ok (.goto 4, 3) := by decide +kernel
theorem dX9_learnt_89 : decode cX9_learnt 89 = .ok (.iconst 0, 1) := by decide +kernel
theorem dX9_learnt_90 : decode cX9_learnt 90 = .ok (.iadd, 1) := by decide +kernel
theorem dX9_learnt_91 : decode cX9_learnt 91 = .ok (.istore 4, 2) := by decide +kernel
theorem dX9_learnt_93 : decode cX9_learnt 93 = .ok (.iload 5, 2) := by decide +kernel
theorem dX9_learnt_95 : decode cX9_learnt 95 = .ok (.iload 9, 2) := by decide +kernel
theorem dX9_learnt_97 : decode cX9_learnt 97 = .ok (.i2l, 1) := by decide +kernel
theorem dX9_learnt_98 : decode cX9_learnt 98 = .ok (.iload_n 1, 1) := by decide +kernel
theorem dX9_learnt_99 : decode cX9_learnt 99 = .ok (.i2l, 1) := by decide +kernel
theorem dX9_learnt_100 : decode cX9_learnt 100 = .ok (.iload_n 2, 1) := by decide +kernel
theorem dX9_learnt_101 : decode cX9_learnt 101 = .ok (.i2l, 1) := by decide +kernel
theorem dX9_learnt_102 : decode cX9_learnt 102 = .ok (.invokestatic 121, 3) := by decide +kernel
theorem dX9_learnt_105 : decode cX9_learnt 105 = .ok (.ifCond .eq 13, 3) := by decide +kernel
theorem dX9_learnt_108 : decode cX9_learnt 108 = .ok (.aload_n 0, 1) := by decide +kernel
theorem dX9_learnt_109 : decode cX9_learnt 109 = .ok (.getfield 80, 3) := by decide +kernel
theorem dX9_learnt_112 : decode cX9_learnt 112 = .ok (.iload 8, 2) := by decide +kernel
theorem dX9_learnt_114 : decode cX9_learnt 114 = .ok (.iaload, 1) := by decide +kernel
theorem dX9_learnt_115 : decode cX9_learnt 115 = .ok (.goto 4, 3) := by decide +kernel
theorem dX9_learnt_118 : decode cX9_learnt 118 = .ok (.iconst 0, 1) := by decide +kernel
theorem dX9_learnt_119 : decode cX9_learnt 119 = .ok (.iadd, 1) := by decide +kernel
theorem dX9_learnt_120 : decode cX9_learnt 120 = .ok (.istore 5, 2) := by decide +kernel
theorem dX9_learnt_122 : decode cX9_learnt 122 = .ok (.iload 9, 2) := by decide +kernel
theorem dX9_learnt_124 : decode cX9_learnt 124 = .ok (.iload_n 1, 1) := by decide +kernel
theorem dX9_learnt_125 : decode cX9_learnt 125 = .ok (.if_icmp .ge 15, 3) := by decide +kernel
theorem dX9_learnt_128 : decode cX9_learnt 128 = .ok (.iload 9, 2) := by decide +kernel
theorem dX9_learnt_130 : decode cX9_learnt 130 = .ok (.iload 6, 2) := by decide +kernel
theorem dX9_learnt_132 : decode cX9_learnt 132 = .ok (.if_icmp .le 8, 3) := by decide +kernel
theorem dX9_learnt_135 : decode cX9_learnt 135 = .ok (.iload 9, 2) := by decide +kernel
theorem dX9_learnt_137 : decode cX9_learnt 137 = .ok (.goto 5, 3) := by decide +kernel
theorem dX9_learnt_140 : decode cX9_learnt 140 = .ok (.iload 6, 2) := by decide +kernel
theorem dX9_learnt_142 : decode cX9_learnt 142 = .ok (.istore 6, 2) := by decide +kernel
theorem dX9_learnt_144 : decode cX9_learnt 144 = .ok (.iload 9, 2) := by decide +kernel
theorem dX9_learnt_146 : decode cX9_learnt 146 = .ok (.iload_n 2, 1) := by decide +kernel
theorem dX9_learnt_147 : decode cX9_learnt 147 = .ok (.if_icmp .le 22, 3) := by decide +kernel
theorem dX9_learnt_150 : decode cX9_learnt 150 = .ok (.iload 7, 2) := by decide +kernel
theorem dX9_learnt_152 : decode cX9_learnt 152 = .ok (.bipush (-9), 2) := by decide +kernel
theorem dX9_learnt_154 : decode cX9_learnt 154 = .ok (.if_icmp .eq 10, 3) := by decide +kernel
theorem dX9_learnt_157 : decode cX9_learnt 157 = .ok (.iload 9, 2) := by decide +kernel
theorem dX9_learnt_159 : decode cX9_learnt 159 = .ok (.iload 7, 2) := by decide +kernel
theorem dX9_learnt_161 : decode cX9_learnt 161 = .ok (.if_icmp .ge 8, 3) := by decide +kernel
theorem dX9_learnt_164 : decode cX9_learnt 164 = .ok (.iload 9, 2) := by decide +kernel
theorem dX9_learnt_166 : decode cX9_learnt 166 = .ok (.goto 5, 3) := by decide +kernel
theorem dX9_learnt_169 : decode cX9_learnt 169 = .ok (.iload 7, 2) := by decide +kernel
theorem dX9_learnt_171 : decode cX9_learnt 171 = .ok (.istore 7, 2) := by decide +kernel
theorem dX9_learnt_173 : decode cX9_learnt 173 = .ok (.iinc 8 1, 3) := by decide +kernel
theorem dX9_learnt_176 : decode cX9_learnt 176 = .ok (.goto (-124), 3) := by decide +kernel
theorem dX9_learnt_179 : decode cX9_learnt 179 = .ok (.iload_n 3, 1) := by decide +kernel
theorem dX9_learnt_180 : decode cX9_learnt 180 = .ok (.tableswitch 44 0 3 #[32, 35, 38, 41], 32) := by decide +kernel
theorem dX9_learnt_212 : decode cX9_learnt 212 = .ok (.iload 4, 2) := by decide +kernel
theorem dX9_learnt_214 : decode cX9_learnt 214 = .ok (.ireturn, 1) := by decide +kernel
theorem dX9_learnt_215 : decode cX9_learnt 215 = .ok (.iload 5, 2) := by decide +kernel
theorem dX9_learnt_217 : decode cX9_learnt 217 = .ok (.ireturn, 1) := by decide +kernel
theorem dX9_learnt_218 : decode cX9_learnt 218 = .ok (.iload 6, 2) := by decide +kernel
theorem dX9_learnt_220 : decode cX9_learnt 220 = .ok (.ireturn, 1) := by decide +kernel
theorem dX9_learnt_221 : decode cX9_learnt 221 = .ok (.iload 7, 2) := by decide +kernel
theorem dX9_learnt_223 : decode cX9_learnt 223 = .ok (.ireturn, 1) := by decide +kernel
theorem dX9_learnt_224 : decode cX9_learnt 224 = .ok (.aload_n 0, 1) := by decide +kernel
theorem dX9_learnt_225 : decode cX9_learnt 225 = .ok (.getfield 243, 3) := by decide +kernel
theorem dX9_learnt_228 : decode cX9_learnt 228 = .ok (.ireturn, 1) := by decide +kernel
theorem dX9_found_0 : decode cX9_found 0 = .ok (.iload_n 1, 1) := by decide +kernel
theorem dX9_found_1 : decode cX9_found 1 = .ok (.iload_n 2, 1) := by decide +kernel
theorem dX9_found_2 : decode cX9_found 2 = .ok (.invokestatic 218, 3) := by decide +kernel
theorem dX9_found_5 : decode cX9_found 5 = .ok (.ifCond .ne 6, 3) := by decide +kernel
theorem dX9_found_8 : decode cX9_found 8 = .ok (.bipush (-2), 2) := by decide +kernel
theorem dX9_found_10 : decode cX9_found 10 = .ok (.ireturn, 1) := by decide +kernel
theorem dX9_found_11 : decode cX9_found 11 = .ok (.aload_n 0, 1) := by decide +kernel
theorem dX9_found_12 : decode cX9_found 12 = .ok (.iload_n 1, 1) := by decide +kernel
theorem dX9_found_13 : decode cX9_found 13 = .ok (.iload_n 2, 1) := by decide +kernel
theorem dX9_found_14 : decode cX9_found 14 = .ok (.invokevirtual 252, 3) := by decide +kernel
theorem dX9_found_17 : decode cX9_found 17 = .ok (.ifCond .eq 6, 3) := by decide +kernel
theorem dX9_found_20 : decode cX9_found 20 = .ok (.bipush (-3), 2) := by decide +kernel
theorem dX9_found_22 : decode cX9_found 22 = .ok (.ireturn, 1) := by decide +kernel
theorem dX9_found_23 : decode cX9_found 23 = .ok (.aload_n 0, 1) := by decide +kernel
theorem dX9_found_24 : decode cX9_found 24 = .ok (.invokevirtual 257, 3) := by decide +kernel
theorem dX9_found_27 : decode cX9_found 27 = .ok (.iconst 0, 1) := by decide +kernel
theorem dX9_found_28 : decode cX9_found 28 = .ok (.istore 4, 2) := by decide +kernel
theorem dX9_found_30 : decode cX9_found 30 = .ok (.iconst 0, 1) := by decide +kernel
theorem dX9_found_31 : decode cX9_found 31 = .ok (.istore 5, 2) := by decide +kernel
theorem dX9_found_33 : decode cX9_found 33 = .ok (.iload 5, 2) := by decide +kernel
theorem dX9_found_35 : decode cX9_found 35 = .ok (.aload_n 0, 1) := by decide +kernel
theorem dX9_found_36 : decode cX9_found 36 = .ok (.getfield 260, 3) := by decide +kernel
theorem dX9_found_39 : decode cX9_found 39 = .ok (.if_icmp .ge 55, 3) := by decide +kernel
theorem dX9_found_42 : decode cX9_found 42 = .ok (.aload_n 0, 1) := by decide +kernel
theorem dX9_found_43 : decode cX9_found 43 = .ok (.getfield 98, 3) := by decide +kernel
theorem dX9_found_46 : decode cX9_found 46 = .ok (.iload 5, 2) := by decide +kernel
theorem dX9_found_48 : decode cX9_found 48 = .ok (.iaload, 1) := by decide +kernel
theorem dX9_found_49 : decode cX9_found 49 = .ok (.i2l, 1) := by decide +kernel
theorem dX9_found_50 : decode cX9_found 50 = .ok (.iload_n 1, 1) := by decide +kernel
theorem dX9_found_51 : decode cX9_found 51 = .ok (.i2l, 1) := by decide +kernel
theorem dX9_found_52 : decode cX9_found 52 = .ok (.iload_n 2, 1) := by decide +kernel
theorem dX9_found_53 : decode cX9_found 53 = .ok (.i2l, 1) := by decide +kernel
theorem dX9_found_54 : decode cX9_found 54 = .ok (.invokestatic 121, 3) := by decide +kernel
theorem dX9_found_57 : decode cX9_found 57 = .ok (.ifCond .eq 31, 3) := by decide +kernel
theorem dX9_found_60 : decode cX9_found 60 = .ok (.iload 4, 2) := by decide +kernel
theorem dX9_found_62 : decode cX9_found 62 = .ok (.iload_n 3, 1) := by decide +kernel
theorem dX9_found_63 : decode cX9_found 63 = .ok (.if_icmp .ne 22, 3) := by decide +kernel
theorem dX9_found_66 : decode cX9_found 66 = .ok (.bipush 100, 2) := by decide +kernel
theorem dX9_found_68 : decode cX9_found 68 = .ok (.aload_n 0, 1) := by decide +kernel
theorem dX9_found_69 : decode cX9_found 69 = .ok (.getfield 98, 3) := by decide +kernel
theorem dX9_found_72 : decode cX9_found 72 = .ok (.iload 5, 2) := by decide +kernel
theorem dX9_found_74 : decode cX9_found 74 = .ok (.iaload, 1) := by decide +kernel
theorem dX9_found_75 : decode cX9_found 75 = .ok (.imul, 1) := by decide +kernel
theorem dX9_found_76 : decode cX9_found 76 = .ok (.aload_n 0, 1) := by decide +kernel
theorem dX9_found_77 : decode cX9_found 77 = .ok (.getfield 101, 3) := by decide +kernel
theorem dX9_found_80 : decode cX9_found 80 = .ok (.iload 5, 2) := by decide +kernel
theorem dX9_found_82 : decode cX9_found 82 = .ok (.iaload, 1) := by decide +kernel
theorem dX9_found_83 : decode cX9_found 83 = .ok (.iadd, 1) := by decide +kernel
theorem dX9_found_84 : decode cX9_found 84 = .ok (.ireturn, 1) := by decide +kernel
theorem dX9_found_85 : decode cX9_found 85 = .ok (.iinc 4 1, 3) := by decide +kernel
theorem dX9_found_88 : decode cX9_found 88 = .ok (.iinc 5 1, 3) := by decide +kernel
theorem dX9_found_91 : decode cX9_found 91 = .ok (.goto (-58), 3) := by decide +kernel
theorem dX9_found_94 : decode cX9_found 94 = .ok (.bipush (-9), 2) := by decide +kernel
theorem dX9_found_96 : decode cX9_found 96 = .ok (.ireturn, 1) := by decide +kernel
theorem dX9_layRow_0 : decode cX9_layRow 0 = .ok (.aload_n 0, 1) := by decide +kernel
theorem dX9_layRow_1 : decode cX9_layRow 1 = .ok (.iconst 0, 1) := by decide +kernel
theorem dX9_layRow_2 : decode cX9_layRow 2 = .ok (.putfield 260, 3) := by decide +kernel
theorem dX9_layRow_5 : decode cX9_layRow 5 = .ok (.aload_n 0, 1) := by decide +kernel
theorem dX9_layRow_6 : decode cX9_layRow 6 = .ok (.getfield 104, 3) := by decide +kernel
theorem dX9_layRow_9 : decode cX9_layRow 9 = .ok (.iconst 0, 1) := by decide +kernel
theorem dX9_layRow_10 : decode cX9_layRow 10 = .ok (.aload_n 0, 1) := by decide +kernel
theorem dX9_layRow_11 : decode cX9_layRow 11 = .ok (.getfield 237, 3) := by decide +kernel
theorem dX9_layRow_14 : decode cX9_layRow 14 = .ok (.iastore, 1) := by decide +kernel
theorem dX9_layRow_15 : decode cX9_layRow 15 = .ok (.iconst 0, 1) := by decide +kernel
theorem dX9_layRow_16 : decode cX9_layRow 16 = .ok (.istore_n 1, 1) := by decide +kernel
theorem dX9_layRow_17 : decode cX9_layRow 17 = .ok (.iload_n 1, 1) := by decide +kernel
theorem dX9_layRow_18 : decode cX9_layRow 18 = .ok (.bipush 100, 2) := by decide +kernel
theorem dX9_layRow_20 : decode cX9_layRow 20 = .ok (.if_icmp .ge 70, 3) := by decide +kernel
theorem dX9_layRow_23 : decode cX9_layRow 23 = .ok (.iconst 0, 1) := by decide +kernel
theorem dX9_layRow_24 : decode cX9_layRow 24 = .ok (.istore_n 2, 1) := by decide +kernel
theorem dX9_layRow_25 : decode cX9_layRow 25 = .ok (.iload_n 2, 1) := by decide +kernel
theorem dX9_layRow_26 : decode cX9_layRow 26 = .ok (.aload_n 0, 1) := by decide +kernel
theorem dX9_layRow_27 : decode cX9_layRow 27 = .ok (.getfield 243, 3) := by decide +kernel
theorem dX9_layRow_30 : decode cX9_layRow 30 = .ok (.if_icmp .ge 54, 3) := by decide +kernel
theorem dX9_layRow_33 : decode cX9_layRow 33 = .ok (.aload_n 0, 1) := by decide +kernel
theorem dX9_layRow_34 : decode cX9_layRow 34 = .ok (.getfield 77, 3) := by decide +kernel
theorem dX9_layRow_37 : decode cX9_layRow 37 = .ok (.iload_n 2, 1) := by decide +kernel
theorem dX9_layRow_38 : decode cX9_layRow 38 = .ok (.iaload, 1) := by decide +kernel
theorem dX9_layRow_39 : decode cX9_layRow 39 = .ok (.iload_n 1, 1) := by decide +kernel
theorem dX9_layRow_40 : decode cX9_layRow 40 = .ok (.if_icmp .ne 38, 3) := by decide +kernel
theorem dX9_layRow_43 : decode cX9_layRow 43 = .ok (.aload_n 0, 1) := by decide +kernel
theorem dX9_layRow_44 : decode cX9_layRow 44 = .ok (.getfield 98, 3) := by decide +kernel
theorem dX9_layRow_47 : decode cX9_layRow 47 = .ok (.aload_n 0, 1) := by decide +kernel
theorem dX9_layRow_48 : decode cX9_layRow 48 = .ok (.getfield 260, 3) := by decide +kernel
theorem dX9_layRow_51 : decode cX9_layRow 51 = .ok (.iload_n 1, 1) := by decide +kernel
theorem dX9_layRow_52 : decode cX9_layRow 52 = .ok (.iastore, 1) := by decide +kernel
theorem dX9_layRow_53 : decode cX9_layRow 53 = .ok (.aload_n 0, 1) := by decide +kernel
theorem dX9_layRow_54 : decode cX9_layRow 54 = .ok (.getfield 101, 3) := by decide +kernel
theorem dX9_layRow_57 : decode cX9_layRow 57 = .ok (.aload_n 0, 1) := by decide +kernel
theorem dX9_layRow_58 : decode cX9_layRow 58 = .ok (.getfield 260, 3) := by decide +kernel
theorem dX9_layRow_61 : decode cX9_layRow 61 = .ok (.aload_n 0, 1) := by decide +kernel
theorem dX9_layRow_62 : decode cX9_layRow 62 = .ok (.getfield 80, 3) := by decide +kernel
theorem dX9_layRow_65 : decode cX9_layRow 65 = .ok (.iload_n 2, 1) := by decide +kernel
theorem dX9_layRow_66 : decode cX9_layRow 66 = .ok (.iaload, 1) := by decide +kernel
theorem dX9_layRow_67 : decode cX9_layRow 67 = .ok (.iastore, 1) := by decide +kernel
theorem dX9_layRow_68 : decode cX9_layRow 68 = .ok (.aload_n 0, 1) := by decide +kernel
theorem dX9_layRow_69 : decode cX9_layRow 69 = .ok (.dup, 1) := by decide +kernel
theorem dX9_layRow_70 : decode cX9_layRow 70 = .ok (.getfield 260, 3) := by decide +kernel
theorem dX9_layRow_73 : decode cX9_layRow 73 = .ok (.iconst 1, 1) := by decide +kernel
theorem dX9_layRow_74 : decode cX9_layRow 74 = .ok (.iadd, 1) := by decide +kernel
theorem dX9_layRow_75 : decode cX9_layRow 75 = .ok (.putfield 260, 3) := by decide +kernel
theorem dX9_layRow_78 : decode cX9_layRow 78 = .ok (.iinc 2 1, 3) := by decide +kernel
theorem dX9_layRow_81 : decode cX9_layRow 81 = .ok (.goto (-56), 3) := by decide +kernel
theorem dX9_layRow_84 : decode cX9_layRow 84 = .ok (.iinc 1 1, 3) := by decide +kernel
theorem dX9_layRow_87 : decode cX9_layRow 87 = .ok (.goto (-70), 3) := by decide +kernel
theorem dX9_layRow_90 : decode cX9_layRow 90 = .ok (.iconst 0, 1) := by decide +kernel
theorem dX9_layRow_91 : decode cX9_layRow 91 = .ok (.istore_n 1, 1) := by decide +kernel
theorem dX9_layRow_92 : decode cX9_layRow 92 = .ok (.iload_n 1, 1) := by decide +kernel
theorem dX9_layRow_93 : decode cX9_layRow 93 = .ok (.aload_n 0, 1) := by decide +kernel
theorem dX9_layRow_94 : decode cX9_layRow 94 = .ok (.getfield 243, 3) := by decide +kernel
theorem dX9_layRow_97 : decode cX9_layRow 97 = .ok (.if_icmp .ge 68, 3) := by decide +kernel
theorem dX9_layRow_100 : decode cX9_layRow 100 = .ok (.aload_n 0, 1) := by decide +kernel
theorem dX9_layRow_101 : decode cX9_layRow 101 = .ok (.aload_n 0, 1) := by decide +kernel
theorem dX9_layRow_102 : decode cX9_layRow 102 = .ok (.getfield 77, 3) := by decide +kernel
theorem dX9_layRow_105 : decode cX9_layRow 105 = .ok (.iload_n 1, 1) := by decide +kernel
theorem dX9_layRow_106 : decode cX9_layRow 106 = .ok (.iaload, 1) := by decide +kernel
theorem dX9_layRow_107 : decode cX9_layRow 107 = .ok (.invokevirtual 263, 3) := by decide +kernel
theorem dX9_layRow_110 : decode cX9_layRow 110 = .ok (.istore_n 2, 1) := by decide +kernel
theorem dX9_layRow_111 : decode cX9_layRow 111 = .ok (.aload_n 0, 1) := by decide +kernel
theorem dX9_layRow_112 : decode cX9_layRow 112 = .ok (.getfield 83, 3) := by decide +kernel
theorem dX9_layRow_115 : decode cX9_layRow 115 = .ok (.iload_n 1, 1) := by decide +kernel
theorem dX9_layRow_116 : decode cX9_layRow 116 = .ok (.iaload, 1) := by decide +kernel
theorem dX9_layRow_117 : decode cX9_layRow 117 = .ok (.bipush (-9), 2) := by decide +kernel
theorem dX9_layRow_119 : decode cX9_layRow 119 = .ok (.if_icmp .ne 15, 3) := by decide +kernel
theorem dX9_layRow_122 : decode cX9_layRow 122 = .ok (.aload_n 0, 1) := by decide +kernel
theorem dX9_layRow_123 : decode cX9_layRow 123 = .ok (.getfield 104, 3) := by decide +kernel
theorem dX9_layRow_126 : decode cX9_layRow 126 = .ok (.iload_n 2, 1) := by decide +kernel
theorem dX9_layRow_127 : decode cX9_layRow 127 = .ok (.aload_n 0, 1) := by decide +kernel
theorem dX9_layRow_128 : decode cX9_layRow 128 = .ok (.getfield 89, 3) := by decide +kernel
theorem dX9_layRow_131 : decode cX9_layRow 131 = .ok (.iload_n 1, 1) := by decide +kernel
theorem dX9_layRow_132 : decode cX9_layRow 132 = .ok (.iaload, 1) := by decide +kernel
theorem dX9_layRow_133 : decode cX9_layRow 133 = .ok (.iastore, 1) := by decide +kernel
theorem dX9_layRow_134 : decode cX9_layRow 134 = .ok (.aload_n 0, 1) := by decide +kernel
theorem dX9_layRow_135 : decode cX9_layRow 135 = .ok (.getfield 86, 3) := by decide +kernel
theorem dX9_layRow_138 : decode cX9_layRow 138 = .ok (.iload_n 1, 1) := by decide +kernel
theorem dX9_layRow_139 : decode cX9_layRow 139 = .ok (.iaload, 1) := by decide +kernel
theorem dX9_layRow_140 : decode cX9_layRow 140 = .ok (.bipush (-9), 2) := by decide +kernel
theorem dX9_layRow_142 : decode cX9_layRow 142 = .ok (.if_icmp .ne 17, 3) := by decide +kernel
theorem dX9_layRow_145 : decode cX9_layRow 145 = .ok (.aload_n 0, 1) := by decide +kernel
theorem dX9_layRow_146 : decode cX9_layRow 146 = .ok (.getfield 104, 3) := by decide +kernel
theorem dX9_layRow_149 : decode cX9_layRow 149 = .ok (.iload_n 2, 1) := by decide +kernel
theorem dX9_layRow_150 : decode cX9_layRow 150 = .ok (.iconst 1, 1) := by decide +kernel
theorem dX9_layRow_151 : decode cX9_layRow 151 = .ok (.iadd, 1) := by decide +kernel
theorem dX9_layRow_152 : decode cX9_layRow 152 = .ok (.aload_n 0, 1) := by decide +kernel
theorem dX9_layRow_153 : decode cX9_layRow 153 = .ok (.getfield 92, 3) := by decide +kernel
theorem dX9_layRow_156 : decode cX9_layRow 156 = .ok (.iload_n 1, 1) := by decide +kernel
theorem dX9_layRow_157 : decode cX9_layRow 157 = .ok (.iaload, 1) := by decide +kernel
theorem dX9_layRow_158 : decode cX9_layRow 158 = .ok (.iastore, 1) := by decide +kernel
theorem dX9_layRow_159 : decode cX9_layRow 159 = .ok (.iinc 1 1, 3) := by decide +kernel
theorem dX9_layRow_162 : decode cX9_layRow 162 = .ok (.goto (-70), 3) := by decide +kernel
theorem dX9_layRow_165 : decode cX9_layRow 165 = .ok (.return_, 1) := by decide +kernel
end
section
theorem dX9_placeOf_0 : decode cX9_placeOf 0 = .ok (.bipush (-9), 2) := by decide +kernel
theorem dX9_placeOf_2 : decode cX9_placeOf 2 = .ok (.istore_n 2, 1) := by decide +kernel
theorem dX9_placeOf_3 : decode cX9_placeOf 3 = .ok (.iconst 0, 1) := by decide +kernel
theorem dX9_placeOf_4 : decode cX9_placeOf 4 = .ok (.istore_n 3, 1) := by decide +kernel
theorem dX9_placeOf_5 : decode cX9_placeOf 5 = .ok (.iload_n 3, 1) := by decide +kernel
theorem dX9_placeOf_6 : decode cX9_placeOf 6 = .ok (.aload_n 0, 1) := by decide +kernel
theorem dX9_placeOf_7 : decode cX9_placeOf 7 = .ok (.getfield 260, 3) := by decide +kernel
theorem dX9_placeOf_10 : decode cX9_placeOf 10 = .ok (.if_icmp .ge 25, 3) := by decide +kernel
theorem dX9_placeOf_13 : decode cX9_placeOf 13 = .ok (.aload_n 0, 1) := by decide +kernel
theorem dX9_placeOf_14 : decode cX9_placeOf 14 = .ok (.getfield 98, 3) := by decide +kernel
theorem dX9_placeOf_17 : decode cX9_placeOf 17 = .ok (.iload_n 3, 1) := by decide +kernel
theorem dX9_placeOf_18 : decode cX9_placeOf 18 = .ok (.iaload, 1) := by decide +kernel
theorem dX9_placeOf_19 : decode cX9_placeOf 19 = .ok (.iload_n 1, 1) := by decide +kernel
theorem dX9_placeOf_20 : decode cX9_placeOf 20 = .ok (.if_icmp .ne 7, 3) := by decide +kernel
theorem dX9_placeOf_23 : decode cX9_placeOf 23 = .ok (.iload_n 3, 1) := by decide +kernel
theorem dX9_placeOf_24 : decode cX9_placeOf 24 = .ok (.goto 4, 3) := by decide +kernel
theorem dX9_placeOf_27 : decode cX9_placeOf 27 = .ok (.iload_n 2, 1) := by decide +kernel
theorem dX9_placeOf_28 : decode cX9_placeOf 28 = .ok (.istore_n 2, 1) := by decide +kernel
theorem dX9_placeOf_29 : decode cX9_placeOf 29 = .ok (.iinc 3 1, 3) := by decide +kernel
theorem dX9_placeOf_32 : decode cX9_placeOf 32 = .ok (.goto (-27), 3) := by decide +kernel
theorem dX9_placeOf_35 : decode cX9_placeOf 35 = .ok (.iload_n 2, 1) := by decide +kernel
theorem dX9_placeOf_36 : decode cX9_placeOf 36 = .ok (.ireturn, 1) := by decide +kernel
theorem dX9_takeOut_0 : decode cX9_takeOut 0 = .ok (.iload_n 1, 1) := by decide +kernel
theorem dX9_takeOut_1 : decode cX9_takeOut 1 = .ok (.istore_n 2, 1) := by decide +kernel
theorem dX9_takeOut_2 : decode cX9_takeOut 2 = .ok (.iload_n 2, 1) := by decide +kernel
theorem dX9_takeOut_3 : decode cX9_takeOut 3 = .ok (.aload_n 0, 1) := by decide +kernel
theorem dX9_takeOut_4 : decode cX9_takeOut 4 = .ok (.getfield 260, 3) := by decide +kernel
theorem dX9_takeOut_7 : decode cX9_takeOut 7 = .ok (.iconst 1, 1) := by decide +kernel
theorem dX9_takeOut_8 : decode cX9_takeOut 8 = .ok (.isub, 1) := by decide +kernel
theorem dX9_takeOut_9 : decode cX9_takeOut 9 = .ok (.if_icmp .ge 37, 3) := by decide +kernel
theorem dX9_takeOut_12 : decode cX9_takeOut 12 = .ok (.aload_n 0, 1) := by decide +kernel
theorem dX9_takeOut_13 : decode cX9_takeOut 13 = .ok (.getfield 98, 3) := by decide +kernel
theorem dX9_takeOut_16 : decode cX9_takeOut 16 = .ok (.iload_n 2, 1) := by decide +kernel
theorem dX9_takeOut_17 : decode cX9_takeOut 17 = .ok (.aload_n 0, 1) := by decide +kernel
theorem dX9_takeOut_18 : decode cX9_takeOut 18 = .ok (.getfield 98, 3) := by decide +kernel
theorem dX9_takeOut_21 : decode cX9_takeOut 21 = .ok (.iload_n 2, 1) := by decide +kernel
theorem dX9_takeOut_22 : decode cX9_takeOut 22 = .ok (.iconst 1, 1) := by decide +kernel
theorem dX9_takeOut_23 : decode cX9_takeOut 23 = .ok (.iadd, 1) := by decide +kernel
theorem dX9_takeOut_24 : decode cX9_takeOut 24 = .ok (.iaload, 1) := by decide +kernel
theorem dX9_takeOut_25 : decode cX9_takeOut 25 = .ok (.iastore, 1) := by decide +kernel
theorem dX9_takeOut_26 : decode cX9_takeOut 26 = .ok (.aload_n 0, 1) := by decide +kernel
theorem dX9_takeOut_27 : decode cX9_takeOut 27 = .ok (.getfield 101, 3) := by decide +kernel
theorem dX9_takeOut_30 : decode cX9_takeOut 30 = .ok (.iload_n 2, 1) := by decide +kernel
theorem dX9_takeOut_31 : decode cX9_takeOut 31 = .ok (.aload_n 0, 1) := by decide +kernel
theorem dX9_takeOut_32 : decode cX9_takeOut 32 = .ok (.getfield 101, 3) := by decide +kernel
theorem dX9_takeOut_35 : decode cX9_takeOut 35 = .ok (.iload_n 2, 1) := by decide +kernel
theorem dX9_takeOut_36 : decode cX9_takeOut 36 = .ok (.iconst 1, 1) := by decide +kernel
theorem dX9_takeOut_37 : decode cX9_takeOut 37 = .ok (.iadd, 1) := by decide +kernel
theorem dX9_takeOut_38 : decode cX9_takeOut 38 = .ok (.iaload, 1) := by decide +kernel
theorem dX9_takeOut_39 : decode cX9_takeOut 39 = .ok (.iastore, 1) := by decide +kernel
theorem dX9_takeOut_40 : decode cX9_takeOut 40 = .ok (.iinc 2 1, 3) := by decide +kernel
theorem dX9_takeOut_43 : decode cX9_takeOut 43 = .ok (.goto (-41), 3) := by decide +kernel
theorem dX9_takeOut_46 : decode cX9_takeOut 46 = .ok (.iload_n 1, 1) := by decide +kernel
theorem dX9_takeOut_47 : decode cX9_takeOut 47 = .ok (.istore_n 2, 1) := by decide +kernel
theorem dX9_takeOut_48 : decode cX9_takeOut 48 = .ok (.iload_n 2, 1) := by decide +kernel
theorem dX9_takeOut_49 : decode cX9_takeOut 49 = .ok (.aload_n 0, 1) := by decide +kernel
theorem dX9_takeOut_50 : decode cX9_takeOut 50 = .ok (.getfield 260, 3) := by decide +kernel
theorem dX9_takeOut_53 : decode cX9_takeOut 53 = .ok (.if_icmp .ge 23, 3) := by decide +kernel
theorem dX9_takeOut_56 : decode cX9_takeOut 56 = .ok (.aload_n 0, 1) := by decide +kernel
theorem dX9_takeOut_57 : decode cX9_takeOut 57 = .ok (.getfield 104, 3) := by decide +kernel
theorem dX9_takeOut_60 : decode cX9_takeOut 60 = .ok (.iload_n 2, 1) := by decide +kernel
theorem dX9_takeOut_61 : decode cX9_takeOut 61 = .ok (.aload_n 0, 1) := by decide +kernel
theorem dX9_takeOut_62 : decode cX9_takeOut 62 = .ok (.getfield 104, 3) := by decide +kernel
theorem dX9_takeOut_65 : decode cX9_takeOut 65 = .ok (.iload_n 2, 1) := by decide +kernel
theorem dX9_takeOut_66 : decode cX9_takeOut 66 = .ok (.iconst 1, 1) := by decide +kernel
theorem dX9_takeOut_67 : decode cX9_takeOut 67 = .ok (.iadd, 1) := by decide +kernel
theorem dX9_takeOut_68 : decode cX9_takeOut 68 = .ok (.iaload, 1) := by decide +kernel
theorem dX9_takeOut_69 : decode cX9_takeOut 69 = .ok (.iastore, 1) := by decide +kernel
theorem dX9_takeOut_70 : decode cX9_takeOut 70 = .ok (.iinc 2 1, 3) := by decide +kernel
theorem dX9_takeOut_73 : decode cX9_takeOut 73 = .ok (.goto (-25), 3) := by decide +kernel
theorem dX9_takeOut_76 : decode cX9_takeOut 76 = .ok (.aload_n 0, 1) := by decide +kernel
theorem dX9_takeOut_77 : decode cX9_takeOut 77 = .ok (.dup, 1) := by decide +kernel
theorem dX9_takeOut_78 : decode cX9_takeOut 78 = .ok (.getfield 260, 3) := by decide +kernel
theorem dX9_takeOut_81 : decode cX9_takeOut 81 = .ok (.iconst 1, 1) := by decide +kernel
theorem dX9_takeOut_82 : decode cX9_takeOut 82 = .ok (.isub, 1) := by decide +kernel
theorem dX9_takeOut_83 : decode cX9_takeOut 83 = .ok (.putfield 260, 3) := by decide +kernel
theorem dX9_takeOut_86 : decode cX9_takeOut 86 = .ok (.return_, 1) := by decide +kernel
theorem dX9_putIn_0 : decode cX9_putIn 0 = .ok (.iconst 0, 1) := by decide +kernel
theorem dX9_putIn_1 : decode cX9_putIn 1 = .ok (.istore_n 3, 1) := by decide +kernel
theorem dX9_putIn_2 : decode cX9_putIn 2 = .ok (.iload_n 3, 1) := by decide +kernel
theorem dX9_putIn_3 : decode cX9_putIn 3 = .ok (.aload_n 0, 1) := by decide +kernel
theorem dX9_putIn_4 : decode cX9_putIn 4 = .ok (.getfield 260, 3) := by decide +kernel
theorem dX9_putIn_7 : decode cX9_putIn 7 = .ok (.if_icmp .ge 19, 3) := by decide +kernel
theorem dX9_putIn_10 : decode cX9_putIn 10 = .ok (.aload_n 0, 1) := by decide +kernel
theorem dX9_putIn_11 : decode cX9_putIn 11 = .ok (.getfield 98, 3) := by decide +kernel
theorem dX9_putIn_14 : decode cX9_putIn 14 = .ok (.iload_n 3, 1) := by decide +kernel
theorem dX9_putIn_15 : decode cX9_putIn 15 = .ok (.iaload, 1) := by decide +kernel
theorem dX9_putIn_16 : decode cX9_putIn 16 = .ok (.iload_n 1, 1) := by decide +kernel
theorem dX9_putIn_17 : decode cX9_putIn 17 = .ok (.if_icmp .ge 9, 3) := by decide +kernel
theorem dX9_putIn_20 : decode cX9_putIn 20 = .ok (.iinc 3 1, 3) := by decide +kernel
theorem dX9_putIn_23 : decode cX9_putIn 23 = .ok (.goto (-21), 3) := by decide +kernel
theorem dX9_putIn_26 : decode cX9_putIn 26 = .ok (.aload_n 0, 1) := by decide +kernel
theorem dX9_putIn_27 : decode cX9_putIn 27 = .ok (.getfield 260, 3) := by decide +kernel
theorem dX9_putIn_30 : decode cX9_putIn 30 = .ok (.istore 4, 2) := by decide +kernel
theorem dX9_putIn_32 : decode cX9_putIn 32 = .ok (.iload 4, 2) := by decide +kernel
theorem dX9_putIn_34 : decode cX9_putIn 34 = .ok (.iload_n 3, 1) := by decide +kernel
theorem dX9_putIn_35 : decode cX9_putIn 35 = .ok (.if_icmp .le 41, 3) := by decide +kernel
theorem dX9_putIn_38 : decode cX9_putIn 38 = .ok (.aload_n 0, 1) := by decide +kernel
theorem dX9_putIn_39 : decode cX9_putIn 39 = .ok (.getfield 98, 3) := by decide +kernel
theorem dX9_putIn_42 : decode cX9_putIn 42 = .ok (.iload 4, 2) := by decide +kernel
theorem dX9_putIn_44 : decode cX9_putIn 44 = .ok (.aload_n 0, 1) := by decide +kernel
theorem dX9_putIn_45 : decode cX9_putIn 45 = .ok (.getfield 98, 3) := by decide +kernel
theorem dX9_putIn_48 : decode cX9_putIn 48 = .ok (.iload 4, 2) := by decide +kernel
theorem dX9_putIn_50 : decode cX9_putIn 50 = .ok (.iconst 1, 1) := by decide +kernel
theorem dX9_putIn_51 : decode cX9_putIn 51 = .ok (.isub, 1) := by decide +kernel
theorem dX9_putIn_52 : decode cX9_putIn 52 = .ok (.iaload, 1) := by decide +kernel
theorem dX9_putIn_53 : decode cX9_putIn 53 = .ok (.iastore, 1) := by decide +kernel
theorem dX9_putIn_54 : decode cX9_putIn 54 = .ok (.aload_n 0, 1) := by decide +kernel
theorem dX9_putIn_55 : decode cX9_putIn 55 = .ok (.getfield 101, 3) := by decide +kernel
theorem dX9_putIn_58 : decode cX9_putIn 58 = .ok (.iload 4, 2) := by decide +kernel
theorem dX9_putIn_60 : decode cX9_putIn 60 = .ok (.aload_n 0, 1) := by decide +kernel
theorem dX9_putIn_61 : decode cX9_putIn 61 = .ok (.getfield 101, 3) := by decide +kernel
theorem dX9_putIn_64 : decode cX9_putIn 64 = .ok (.iload 4, 2) := by decide +kernel
theorem dX9_putIn_66 : decode cX9_putIn 66 = .ok (.iconst 1, 1) := by decide +kernel
theorem dX9_putIn_67 : decode cX9_putIn 67 = .ok (.isub, 1) := by decide +kernel
theorem dX9_putIn_68 : decode cX9_putIn 68 = .ok (.iaload, 1) := by decide +kernel
theorem dX9_putIn_69 : decode cX9_putIn 69 = .ok (.iastore, 1) := by decide +kernel
theorem dX9_putIn_70 : decode cX9_putIn 70 = .ok (.iinc 4 (-1), 3) := by decide +kernel
theorem dX9_putIn_73 : decode cX9_putIn 73 = .ok (.goto (-41), 3) := by decide +kernel
theorem dX9_putIn_76 : decode cX9_putIn 76 = .ok (.aload_n 0, 1) := by decide +kernel
theorem dX9_putIn_77 : decode cX9_putIn 77 = .ok (.getfield 260, 3) := by decide +kernel
theorem dX9_putIn_80 : decode cX9_putIn 80 = .ok (.iconst 1, 1) := by decide +kernel
theorem dX9_putIn_81 : decode cX9_putIn 81 = .ok (.iadd, 1) := by decide +kernel
theorem dX9_putIn_82 : decode cX9_putIn 82 = .ok (.istore 4, 2) := by decide +kernel
theorem dX9_putIn_84 : decode cX9_putIn 84 = .ok (.iload 4, 2) := by decide +kernel
theorem dX9_putIn_86 : decode cX9_putIn 86 = .ok (.iload_n 3, 1) := by decide +kernel
theorem dX9_putIn_87 : decode cX9_putIn 87 = .ok (.if_icmp .le 25, 3) := by decide +kernel
theorem dX9_putIn_90 : decode cX9_putIn 90 = .ok (.aload_n 0, 1) := by decide +kernel
theorem dX9_putIn_91 : decode cX9_putIn 91 = .ok (.getfield 104, 3) := by decide +kernel
theorem dX9_putIn_94 : decode cX9_putIn 94 = .ok (.iload 4, 2) := by decide +kernel
theorem dX9_putIn_96 : decode cX9_putIn 96 = .ok (.aload_n 0, 1) := by decide +kernel
theorem dX9_putIn_97 : decode cX9_putIn 97 = .ok (.getfield 104, 3) := by decide +kernel
theorem dX9_putIn_100 : decode cX9_putIn 100 = .ok (.iload 4, 2) := by decide +kernel
theorem dX9_putIn_102 : decode cX9_putIn 102 = .ok (.iconst 1, 1) := by decide +kernel
theorem dX9_putIn_103 : decode cX9_putIn 103 = .ok (.isub, 1) := by decide +kernel
theorem dX9_putIn_104 : decode cX9_putIn 104 = .ok (.iaload, 1) := by decide +kernel
theorem dX9_putIn_105 : decode cX9_putIn 105 = .ok (.iastore, 1) := by decide +kernel
theorem dX9_putIn_106 : decode cX9_putIn 106 = .ok (.iinc 4 (-1), 3) := by decide +kernel
theorem dX9_putIn_109 : decode cX9_putIn 109 = .ok (.goto (-25), 3) := by decide +kernel
theorem dX9_putIn_112 : decode cX9_putIn 112 = .ok (.aload_n 0, 1) := by decide +kernel
theorem dX9_putIn_113 : decode cX9_putIn 113 = .ok (.getfield 104, 3) := by decide +kernel
theorem dX9_putIn_116 : decode cX9_putIn 116 = .ok (.iload_n 3, 1) := by decide +kernel
theorem dX9_putIn_117 : decode cX9_putIn 117 = .ok (.iconst 0, 1) := by decide +kernel
theorem dX9_putIn_118 : decode cX9_putIn 118 = .ok (.iastore, 1) := by decide +kernel
theorem dX9_putIn_119 : decode cX9_putIn 119 = .ok (.aload_n 0, 1) := by decide +kernel
theorem dX9_putIn_120 : decode cX9_putIn 120 = .ok (.getfield 98, 3) := by decide +kernel
theorem dX9_putIn_123 : decode cX9_putIn 123 = .ok (.iload_n 3, 1) := by decide +kernel
theorem dX9_putIn_124 : decode cX9_putIn 124 = .ok (.iload_n 1, 1) := by decide +kernel
theorem dX9_putIn_125 : decode cX9_putIn 125 = .ok (.iastore, 1) := by decide +kernel
theorem dX9_putIn_126 : decode cX9_putIn 126 = .ok (.aload_n 0, 1) := by decide +kernel
theorem dX9_putIn_127 : decode cX9_putIn 127 = .ok (.getfield 101, 3) := by decide +kernel
theorem dX9_putIn_130 : decode cX9_putIn 130 = .ok (.iload_n 3, 1) := by decide +kernel
theorem dX9_putIn_131 : decode cX9_putIn 131 = .ok (.iload_n 2, 1) := by decide +kernel
theorem dX9_putIn_132 : decode cX9_putIn 132 = .ok (.iastore, 1) := by decide +kernel
theorem dX9_putIn_133 : decode cX9_putIn 133 = .ok (.aload_n 0, 1) := by decide +kernel
theorem dX9_putIn_134 : decode cX9_putIn 134 = .ok (.dup, 1) := by decide +kernel
theorem dX9_putIn_135 : decode cX9_putIn 135 = .ok (.getfield 260, 3) := by decide +kernel
theorem dX9_putIn_138 : decode cX9_putIn 138 = .ok (.iconst 1, 1) := by decide +kernel
theorem dX9_putIn_139 : decode cX9_putIn 139 = .ok (.iadd, 1) := by decide +kernel
theorem dX9_putIn_140 : decode cX9_putIn 140 = .ok (.putfield 260, 3) := by decide +kernel
theorem dX9_putIn_143 : decode cX9_putIn 143 = .ok (.return_, 1) := by decide +kernel
theorem dX9_uppermostOf_0 : decode cX9_uppermostOf 0 = .ok (.bipush (-9), 2) := by decide +kernel
theorem dX9_uppermostOf_2 : decode cX9_uppermostOf 2 = .ok (.istore_n 3, 1) := by decide +kernel
theorem dX9_uppermostOf_3 : decode cX9_uppermostOf 3 = .ok (.iload_n 1, 1) := by decide +kernel
theorem dX9_uppermostOf_4 : decode cX9_uppermostOf 4 = .ok (.istore 4, 2) := by decide +kernel
theorem dX9_uppermostOf_6 : decode cX9_uppermostOf 6 = .ok (.iload 4, 2) := by decide +kernel
theorem dX9_uppermostOf_8 : decode cX9_uppermostOf 8 = .ok (.iload_n 2, 1) := by decide +kernel
theorem dX9_uppermostOf_9 : decode cX9_uppermostOf 9 = .ok (.if_icmp .gt 41, 3) := by decide +kernel
theorem dX9_uppermostOf_12 : decode cX9_uppermostOf 12 = .ok (.iload_n 3, 1) := by decide +kernel
theorem dX9_uppermostOf_13 : decode cX9_uppermostOf 13 = .ok (.bipush (-9), 2) := by decide +kernel
theorem dX9_uppermostOf_15 : decode cX9_uppermostOf 15 = .ok (.if_icmp .eq 22, 3) := by decide +kernel
theorem dX9_uppermostOf_18 : decode cX9_uppermostOf 18 = .ok (.aload_n 0, 1) := by decide +kernel
theorem dX9_uppermostOf_19 : decode cX9_uppermostOf 19 = .ok (.getfield 98, 3) := by decide +kernel
theorem dX9_uppermostOf_22 : decode cX9_uppermostOf 22 = .ok (.iload 4, 2) := by decide +kernel
theorem dX9_uppermostOf_24 : decode cX9_uppermostOf 24 = .ok (.iaload, 1) := by decide +kernel
theorem dX9_uppermostOf_25 : decode cX9_uppermostOf 25 = .ok (.aload_n 0, 1) := by decide +kernel
theorem dX9_uppermostOf_26 : decode cX9_uppermostOf 26 = .ok (.getfield 98, 3) := by decide +kernel
theorem dX9_uppermostOf_29 : decode cX9_uppermostOf 29 = .ok (.iload_n 3, 1) := by decide +kernel
theorem dX9_uppermostOf_30 : decode cX9_uppermostOf 30 = .ok (.iaload, 1) := by decide +kernel
theorem dX9_uppermostOf_31 : decode cX9_uppermostOf 31 = .ok (.invokestatic 149, 3) := by decide +kernel
theorem dX9_uppermostOf_34 : decode cX9_uppermostOf 34 = .ok (.ifCond .eq 8, 3) := by decide +kernel
theorem dX9_uppermostOf_37 : decode cX9_uppermostOf 37 = .ok (.iload 4, 2) := by decide +kernel
theorem dX9_uppermostOf_39 : decode cX9_uppermostOf 39 = .ok (.goto 4, 3) := by decide +kernel
theorem dX9_uppermostOf_42 : decode cX9_uppermostOf 42 = .ok (.iload_n 3, 1) := by decide +kernel
theorem dX9_uppermostOf_43 : decode cX9_uppermostOf 43 = .ok (.istore_n 3, 1) := by decide +kernel
theorem dX9_uppermostOf_44 : decode cX9_uppermostOf 44 = .ok (.iinc 4 1, 3) := by decide +kernel
theorem dX9_uppermostOf_47 : decode cX9_uppermostOf 47 = .ok (.goto (-41), 3) := by decide +kernel
theorem dX9_uppermostOf_50 : decode cX9_uppermostOf 50 = .ok (.iload_n 3, 1) := by decide +kernel
theorem dX9_uppermostOf_51 : decode cX9_uppermostOf 51 = .ok (.ireturn, 1) := by decide +kernel
theorem dX9_rowDigest_0 : decode cX9_rowDigest 0 = .ok (.iconst 0, 1) := by decide +kernel
theorem dX9_rowDigest_1 : decode cX9_rowDigest 1 = .ok (.istore_n 1, 1) := by decide +kernel
theorem dX9_rowDigest_2 : decode cX9_rowDigest 2 = .ok (.aload_n 0, 1) := by decide +kernel
theorem dX9_rowDigest_3 : decode cX9_rowDigest 3 = .ok (.iconst 0, 1) := by decide +kernel
theorem dX9_rowDigest_4 : decode cX9_rowDigest 4 = .ok (.putfield 145, 3) := by decide +kernel
theorem dX9_rowDigest_7 : decode cX9_rowDigest 7 = .ok (.aload_n 0, 1) := by decide +kernel
theorem dX9_rowDigest_8 : decode cX9_rowDigest 8 = .ok (.iconst 0, 1) := by decide +kernel
theorem dX9_rowDigest_9 : decode cX9_rowDigest 9 = .ok (.aload_n 0, 1) := by decide +kernel
theorem dX9_rowDigest_10 : decode cX9_rowDigest 10 = .ok (.getfield 260, 3) := by decide +kernel
theorem dX9_rowDigest_13 : decode cX9_rowDigest 13 = .ok (.iconst 1, 1) := by decide +kernel
theorem dX9_rowDigest_14 : decode cX9_rowDigest 14 = .ok (.isub, 1) := by decide +kernel
theorem dX9_rowDigest_15 : decode cX9_rowDigest 15 = .ok (.bipush (-9), 2) := by decide +kernel
theorem dX9_rowDigest_17 : decode cX9_rowDigest 17 = .ok (.iconst 0, 1) := by decide +kernel
theorem dX9_rowDigest_18 : decode cX9_rowDigest 18 = .ok (.invokevirtual 153, 3) := by decide +kernel
theorem dX9_rowDigest_21 : decode cX9_rowDigest 21 = .ok (.aload_n 0, 1) := by decide +kernel
theorem dX9_rowDigest_22 : decode cX9_rowDigest 22 = .ok (.getfield 145, 3) := by decide +kernel
theorem dX9_rowDigest_25 : decode cX9_rowDigest 25 = .ok (.ifCond .le 169, 3) := by decide +kernel
theorem dX9_rowDigest_28 : decode cX9_rowDigest 28 = .ok (.aload_n 0, 1) := by decide +kernel
theorem dX9_rowDigest_29 : decode cX9_rowDigest 29 = .ok (.dup, 1) := by decide +kernel
theorem dX9_rowDigest_30 : decode cX9_rowDigest 30 = .ok (.getfield 145, 3) := by decide +kernel
theorem dX9_rowDigest_33 : decode cX9_rowDigest 33 = .ok (.iconst 1, 1) := by decide +kernel
theorem dX9_rowDigest_34 : decode cX9_rowDigest 34 = .ok (.isub, 1) := by decide +kernel
theorem dX9_rowDigest_35 : decode cX9_rowDigest 35 = .ok (.putfield 145, 3) := by decide +kernel
theorem dX9_rowDigest_38 : decode cX9_rowDigest 38 = .ok (.aload_n 0, 1) := by decide +kernel
theorem dX9_rowDigest_39 : decode cX9_rowDigest 39 = .ok (.getfield 56, 3) := by decide +kernel
theorem dX9_rowDigest_42 : decode cX9_rowDigest 42 = .ok (.aload_n 0, 1) := by decide +kernel
theorem dX9_rowDigest_43 : decode cX9_rowDigest 43 = .ok (.getfield 145, 3) := by decide +kernel
theorem dX9_rowDigest_46 : decode cX9_rowDigest 46 = .ok (.iaload, 1) := by decide +kernel
theorem dX9_rowDigest_47 : decode cX9_rowDigest 47 = .ok (.istore_n 2, 1) := by decide +kernel
theorem dX9_rowDigest_48 : decode cX9_rowDigest 48 = .ok (.aload_n 0, 1) := by decide +kernel
theorem dX9_rowDigest_49 : decode cX9_rowDigest 49 = .ok (.getfield 59, 3) := by decide +kernel
theorem dX9_rowDigest_52 : decode cX9_rowDigest 52 = .ok (.aload_n 0, 1) := by decide +kernel
theorem dX9_rowDigest_53 : decode cX9_rowDigest 53 = .ok (.getfield 145, 3) := by decide +kernel
theorem dX9_rowDigest_56 : decode cX9_rowDigest 56 = .ok (.iaload, 1) := by decide +kernel
theorem dX9_rowDigest_57 : decode cX9_rowDigest 57 = .ok (.istore_n 3, 1) := by decide +kernel
theorem dX9_rowDigest_58 : decode cX9_rowDigest 58 = .ok (.aload_n 0, 1) := by decide +kernel
theorem dX9_rowDigest_59 : decode cX9_rowDigest 59 = .ok (.getfield 62, 3) := by decide +kernel
theorem dX9_rowDigest_62 : decode cX9_rowDigest 62 = .ok (.aload_n 0, 1) := by decide +kernel
theorem dX9_rowDigest_63 : decode cX9_rowDigest 63 = .ok (.getfield 145, 3) := by decide +kernel
theorem dX9_rowDigest_66 : decode cX9_rowDigest 66 = .ok (.iaload, 1) := by decide +kernel
theorem dX9_rowDigest_67 : decode cX9_rowDigest 67 = .ok (.istore 4, 2) := by decide +kernel
theorem dX9_rowDigest_69 : decode cX9_rowDigest 69 = .ok (.aload_n 0, 1) := by decide +kernel
theorem dX9_rowDigest_70 : decode cX9_rowDigest 70 = .ok (.getfield 65, 3) := by decide +kernel
theorem dX9_rowDigest_73 : decode cX9_rowDigest 73 = .ok (.aload_n 0, 1) := by decide +kernel
theorem dX9_rowDigest_74 : decode cX9_rowDigest 74 = .ok (.getfield 145, 3) := by decide +kernel
theorem dX9_rowDigest_77 : decode cX9_rowDigest 77 = .ok (.iaload, 1) := by decide +kernel
theorem dX9_rowDigest_78 : decode cX9_rowDigest 78 = .ok (.istore 5, 2) := by decide +kernel
theorem dX9_rowDigest_80 : decode cX9_rowDigest 80 = .ok (.aload_n 0, 1) := by decide +kernel
theorem dX9_rowDigest_81 : decode cX9_rowDigest 81 = .ok (.iload_n 2, 1) := by decide +kernel
theorem dX9_rowDigest_82 : decode cX9_rowDigest 82 = .ok (.iload_n 3, 1) := by decide +kernel
theorem dX9_rowDigest_83 : decode cX9_rowDigest 83 = .ok (.invokevirtual 266, 3) := by decide +kernel
theorem dX9_rowDigest_86 : decode cX9_rowDigest 86 = .ok (.istore 6, 2) := by decide +kernel
theorem dX9_rowDigest_88 : decode cX9_rowDigest 88 = .ok (.iload 6, 2) := by decide +kernel
theorem dX9_rowDigest_90 : decode cX9_rowDigest 90 = .ok (.bipush (-9), 2) := by decide +kernel
theorem dX9_rowDigest_92 : decode cX9_rowDigest 92 = .ok (.if_icmp .eq 36, 3) := by decide +kernel
theorem dX9_rowDigest_95 : decode cX9_rowDigest 95 = .ok (.aload_n 0, 1) := by decide +kernel
theorem dX9_rowDigest_96 : decode cX9_rowDigest 96 = .ok (.getfield 107, 3) := by decide +kernel
theorem dX9_rowDigest_99 : decode cX9_rowDigest 99 = .ok (.iload_n 1, 1) := by decide +kernel
theorem dX9_rowDigest_100 : decode cX9_rowDigest 100 = .ok (.iload 6, 2) := by decide +kernel
theorem dX9_rowDigest_102 : decode cX9_rowDigest 102 = .ok (.iastore, 1) := by decide +kernel
theorem dX9_rowDigest_103 : decode cX9_rowDigest 103 = .ok (.aload_n 0, 1) := by decide +kernel
theorem dX9_rowDigest_104 : decode cX9_rowDigest 104 = .ok (.iload 6, 2) := by decide +kernel
theorem dX9_rowDigest_106 : decode cX9_rowDigest 106 = .ok (.iconst 1, 1) := by decide +kernel
theorem dX9_rowDigest_107 : decode cX9_rowDigest 107 = .ok (.iadd, 1) := by decide +kernel
theorem dX9_rowDigest_108 : decode cX9_rowDigest 108 = .ok (.iload_n 3, 1) := by decide +kernel
theorem dX9_rowDigest_109 : decode cX9_rowDigest 109 = .ok (.iload_n 1, 1) := by decide +kernel
theorem dX9_rowDigest_110 : decode cX9_rowDigest 110 = .ok (.iconst 1, 1) := by decide +kernel
theorem dX9_rowDigest_111 : decode cX9_rowDigest 111 = .ok (.invokevirtual 153, 3) := by decide +kernel
theorem dX9_rowDigest_114 : decode cX9_rowDigest 114 = .ok (.aload_n 0, 1) := by decide +kernel
theorem dX9_rowDigest_115 : decode cX9_rowDigest 115 = .ok (.iload_n 2, 1) := by decide +kernel
theorem dX9_rowDigest_116 : decode cX9_rowDigest 116 = .ok (.iload 6, 2) := by decide +kernel
theorem dX9_rowDigest_118 : decode cX9_rowDigest 118 = .ok (.iconst 1, 1) := by decide +kernel
theorem dX9_rowDigest_119 : decode cX9_rowDigest 119 = .ok (.isub, 1) := by decide +kernel
theorem dX9_rowDigest_120 : decode cX9_rowDigest 120 = .ok (.iload_n 1, 1) := by decide +kernel
theorem dX9_rowDigest_121 : decode cX9_rowDigest 121 = .ok (.iconst 0, 1) := by decide +kernel
theorem dX9_rowDigest_122 : decode cX9_rowDigest 122 = .ok (.invokevirtual 153, 3) := by decide +kernel
theorem dX9_rowDigest_125 : decode cX9_rowDigest 125 = .ok (.iinc 1 1, 3) := by decide +kernel
theorem dX9_rowDigest_128 : decode cX9_rowDigest 128 = .ok (.iload 6, 2) := by decide +kernel
theorem dX9_rowDigest_130 : decode cX9_rowDigest 130 = .ok (.bipush (-9), 2) := by decide +kernel
theorem dX9_rowDigest_132 : decode cX9_rowDigest 132 = .ok (.if_icmp .ne 11, 3) := by decide +kernel
theorem dX9_rowDigest_135 : decode cX9_rowDigest 135 = .ok (.sipush (-1000), 3) := by decide +kernel
theorem dX9_rowDigest_138 : decode cX9_rowDigest 138 = .ok (.iload_n 2, 1) := by decide +kernel
theorem dX9_rowDigest_139 : decode cX9_rowDigest 139 = .ok (.isub, 1) := by decide +kernel
theorem dX9_rowDigest_140 : decode cX9_rowDigest 140 = .ok (.goto 6, 3) := by decide +kernel
theorem dX9_rowDigest_143 : decode cX9_rowDigest 143 = .ok (.iload_n 1, 1) := by decide +kernel
theorem dX9_rowDigest_144 : decode cX9_rowDigest 144 = .ok (.iconst 1, 1) := by decide +kernel
theorem dX9_rowDigest_145 : decode cX9_rowDigest 145 = .ok (.isub, 1) := by decide +kernel
theorem dX9_rowDigest_146 : decode cX9_rowDigest 146 = .ok (.istore 7, 2) := by decide +kernel
theorem dX9_rowDigest_148 : decode cX9_rowDigest 148 = .ok (.iload 4, 2) := by decide +kernel
theorem dX9_rowDigest_150 : decode cX9_rowDigest 150 = .ok (.bipush (-9), 2) := by decide +kernel
theorem dX9_rowDigest_152 : decode cX9_rowDigest 152 = .ok (.if_icmp .eq 17, 3) := by decide +kernel
theorem dX9_rowDigest_155 : decode cX9_rowDigest 155 = .ok (.iload 5, 2) := by decide +kernel
theorem dX9_rowDigest_157 : decode cX9_rowDigest 157 = .ok (.ifCond .ne 12, 3) := by decide +kernel
theorem dX9_rowDigest_160 : decode cX9_rowDigest 160 = .ok (.aload_n 0, 1) := by decide +kernel
theorem dX9_rowDigest_161 : decode cX9_rowDigest 161 = .ok (.getfield 110, 3) := by decide +kernel
theorem dX9_rowDigest_164 : decode cX9_rowDigest 164 = .ok (.iload 4, 2) := by decide +kernel
theorem dX9_rowDigest_166 : decode cX9_rowDigest 166 = .ok (.iload 7, 2) := by decide +kernel
theorem dX9_rowDigest_168 : decode cX9_rowDigest 168 = .ok (.iastore, 1) := by decide +kernel
theorem dX9_rowDigest_169 : decode cX9_rowDigest 169 = .ok (.iload 4, 2) := by decide +kernel
theorem dX9_rowDigest_171 : decode cX9_rowDigest 171 = .ok (.bipush (-9), 2) := by decide +kernel
theorem dX9_rowDigest_173 : decode cX9_rowDigest 173 = .ok (.if_icmp .eq 18, 3) := by decide +kernel
theorem dX9_rowDigest_176 : decode cX9_rowDigest 176 = .ok (.iload 5, 2) := by decide +kernel
theorem dX9_rowDigest_178 : decode cX9_rowDigest 178 = .ok (.iconst 1, 1) := by decide +kernel
theorem dX9_rowDigest_179 : decode cX9_rowDigest 179 = .ok (.if_icmp .ne 12, 3) := by decide +kernel
theorem dX9_rowDigest_182 : decode cX9_rowDigest 182 = .ok (.aload_n 0, 1) := by decide +kernel
theorem dX9_rowDigest_183 : decode cX9_rowDigest 183 = .ok (.getfield 113, 3) := by decide +kernel
theorem dX9_rowDigest_186 : decode cX9_rowDigest 186 = .ok (.iload 4, 2) := by decide +kernel
theorem dX9_rowDigest_188 : decode cX9_rowDigest 188 = .ok (.iload 7, 2) := by decide +kernel
theorem dX9_rowDigest_190 : decode cX9_rowDigest 190 = .ok (.iastore, 1) := by decide +kernel
theorem dX9_rowDigest_191 : decode cX9_rowDigest 191 = .ok (.goto (-170), 3) := by decide +kernel
theorem dX9_rowDigest_194 : decode cX9_rowDigest 194 = .ok (.iload_n 1, 1) := by decide +kernel
theorem dX9_rowDigest_195 : decode cX9_rowDigest 195 = .ok (.iconst 1, 1) := by decide +kernel
theorem dX9_rowDigest_196 : decode cX9_rowDigest 196 = .ok (.isub, 1) := by decide +kernel
theorem dX9_rowDigest_197 : decode cX9_rowDigest 197 = .ok (.istore_n 2, 1) := by decide +kernel
theorem dX9_rowDigest_198 : decode cX9_rowDigest 198 = .ok (.iload_n 2, 1) := by decide +kernel
theorem dX9_rowDigest_199 : decode cX9_rowDigest 199 = .ok (.ifCond .lt 60, 3) := by decide +kernel
theorem dX9_rowDigest_202 : decode cX9_rowDigest 202 = .ok (.aload_n 0, 1) := by decide +kernel
theorem dX9_rowDigest_203 : decode cX9_rowDigest 203 = .ok (.getfield 116, 3) := by decide +kernel
theorem dX9_rowDigest_206 : decode cX9_rowDigest 206 = .ok (.iload_n 2, 1) := by decide +kernel
theorem dX9_rowDigest_207 : decode cX9_rowDigest 207 = .ok (.aload_n 0, 1) := by decide +kernel
theorem dX9_rowDigest_208 : decode cX9_rowDigest 208 = .ok (.getfield 98, 3) := by decide +kernel
theorem dX9_rowDigest_211 : decode cX9_rowDigest 211 = .ok (.aload_n 0, 1) := by decide +kernel
theorem dX9_rowDigest_212 : decode cX9_rowDigest 212 = .ok (.getfield 107, 3) := by decide +kernel
theorem dX9_rowDigest_215 : decode cX9_rowDigest 215 = .ok (.iload_n 2, 1) := by decide +kernel
theorem dX9_rowDigest_216 : decode cX9_rowDigest 216 = .ok (.iaload, 1) := by decide +kernel
theorem dX9_rowDigest_217 : decode cX9_rowDigest 217 = .ok (.iaload, 1) := by decide +kernel
theorem dX9_rowDigest_218 : decode cX9_rowDigest 218 = .ok (.aload_n 0, 1) := by decide +kernel
theorem dX9_rowDigest_219 : decode cX9_rowDigest 219 = .ok (.getfield 101, 3) := by decide +kernel
theorem dX9_rowDigest_222 : decode cX9_rowDigest 222 = .ok (.aload_n 0, 1) := by decide +kernel
theorem dX9_rowDigest_223 : decode cX9_rowDigest 223 = .ok (.getfield 107, 3) := by decide +kernel
theorem dX9_rowDigest_226 : decode cX9_rowDigest 226 = .ok (.iload_n 2, 1) := by decide +kernel
theorem dX9_rowDigest_227 : decode cX9_rowDigest 227 = .ok (.iaload, 1) := by decide +kernel
theorem dX9_rowDigest_228 : decode cX9_rowDigest 228 = .ok (.iaload, 1) := by decide +kernel
theorem dX9_rowDigest_229 : decode cX9_rowDigest 229 = .ok (.aload_n 0, 1) := by decide +kernel
theorem dX9_rowDigest_230 : decode cX9_rowDigest 230 = .ok (.aload_n 0, 1) := by decide +kernel
theorem dX9_rowDigest_231 : decode cX9_rowDigest 231 = .ok (.getfield 110, 3) := by decide +kernel
theorem dX9_rowDigest_234 : decode cX9_rowDigest 234 = .ok (.iload_n 2, 1) := by decide +kernel
theorem dX9_rowDigest_235 : decode cX9_rowDigest 235 = .ok (.iaload, 1) := by decide +kernel
theorem dX9_rowDigest_236 : decode cX9_rowDigest 236 = .ok (.invokevirtual 269, 3) := by decide +kernel
theorem dX9_rowDigest_239 : decode cX9_rowDigest 239 = .ok (.aload_n 0, 1) := by decide +kernel
theorem dX9_rowDigest_240 : decode cX9_rowDigest 240 = .ok (.aload_n 0, 1) := by decide +kernel
theorem dX9_rowDigest_241 : decode cX9_rowDigest 241 = .ok (.getfield 113, 3) := by decide +kernel
theorem dX9_rowDigest_244 : decode cX9_rowDigest 244 = .ok (.iload_n 2, 1) := by decide +kernel
theorem dX9_rowDigest_245 : decode cX9_rowDigest 245 = .ok (.iaload, 1) := by decide +kernel
theorem dX9_rowDigest_246 : decode cX9_rowDigest 246 = .ok (.invokevirtual 269, 3) := by decide +kernel
theorem dX9_rowDigest_249 : decode cX9_rowDigest 249 = .ok (.invokestatic 161, 3) := by decide +kernel
theorem dX9_rowDigest_252 : decode cX9_rowDigest 252 = .ok (.iastore, 1) := by decide +kernel
theorem dX9_rowDigest_253 : decode cX9_rowDigest 253 = .ok (.iinc 2 (-1), 3) := by decide +kernel
theorem dX9_rowDigest_256 : decode cX9_rowDigest 256 = .ok (.goto (-58), 3) := by decide +kernel
theorem dX9_rowDigest_259 : decode cX9_rowDigest 259 = .ok (.iload_n 1, 1) := by decide +kernel
theorem dX9_rowDigest_260 : decode cX9_rowDigest 260 = .ok (.ifCond .ne 12, 3) := by decide +kernel
theorem dX9_rowDigest_263 : decode cX9_rowDigest 263 = .ok (.aload_n 0, 1) := by decide +kernel
theorem dX9_rowDigest_264 : decode cX9_rowDigest 264 = .ok (.getfield 104, 3) := by decide +kernel
theorem dX9_rowDigest_267 : decode cX9_rowDigest 267 = .ok (.iconst 0, 1) := by decide +kernel
theorem dX9_rowDigest_268 : decode cX9_rowDigest 268 = .ok (.iaload, 1) := by decide +kernel
theorem dX9_rowDigest_269 : decode cX9_rowDigest 269 = .ok (.goto 9, 3) := by decide +kernel
theorem dX9_rowDigest_272 : decode cX9_rowDigest 272 = .ok (.aload_n 0, 1) := by decide +kernel
theorem dX9_rowDigest_273 : decode cX9_rowDigest 273 = .ok (.getfield 116, 3) := by decide +kernel
theorem dX9_rowDigest_276 : decode cX9_rowDigest 276 = .ok (.iconst 0, 1) := by decide +kernel
theorem dX9_rowDigest_277 : decode cX9_rowDigest 277 = .ok (.iaload, 1) := by decide +kernel
theorem dX9_rowDigest_278 : decode cX9_rowDigest 278 = .ok (.ireturn, 1) := by decide +kernel
theorem dX9_hanging_0 : decode cX9_hanging 0 = .ok (.iload_n 1, 1) := by decide +kernel
theorem dX9_hanging_1 : decode cX9_hanging 1 = .ok (.ifCond .lt 12, 3) := by decide +kernel
theorem dX9_hanging_4 : decode cX9_hanging 4 = .ok (.aload_n 0, 1) := by decide +kernel
theorem dX9_hanging_5 : decode cX9_hanging 5 = .ok (.getfield 116, 3) := by decide +kernel
theorem dX9_hanging_8 : decode cX9_hanging 8 = .ok (.iload_n 1, 1) := by decide +kernel
theorem dX9_hanging_9 : decode cX9_hanging 9 = .ok (.iaload, 1) := by decide +kernel
theorem dX9_hanging_10 : decode cX9_hanging 10 = .ok (.goto 13, 3) := by decide +kernel
theorem dX9_hanging_13 : decode cX9_hanging 13 = .ok (.aload_n 0, 1) := by decide +kernel
theorem dX9_hanging_14 : decode cX9_hanging 14 = .ok (.getfield 104, 3) := by decide +kernel
theorem dX9_hanging_17 : decode cX9_hanging 17 = .ok (.sipush (-1000), 3) := by decide +kernel
theorem dX9_hanging_20 : decode cX9_hanging 20 = .ok (.iload_n 1, 1) := by decide +kernel
theorem dX9_hanging_21 : decode cX9_hanging 21 = .ok (.isub, 1) := by decide +kernel
theorem dX9_hanging_22 : decode cX9_hanging 22 = .ok (.iaload, 1) := by decide +kernel
theorem dX9_hanging_23 : decode cX9_hanging 23 = .ok (.ireturn, 1) := by decide +kernel
theorem dX9_followed_0 : decode cX9_followed 0 = .ok (.iload_n 1, 1) := by decide +kernel
theorem dX9_followed_1 : decode cX9_followed 1 = .ok (.invokestatic 125, 3) := by decide +kernel
theorem dX9_followed_4 : decode cX9_followed 4 = .ok (.ifCond .eq 16, 3) := by decide +kernel
theorem dX9_followed_7 : decode cX9_followed 7 = .ok (.iload_n 2, 1) := by decide +kernel
theorem dX9_followed_8 : decode cX9_followed 8 = .ok (.bipush (-9), 2) := by decide +kernel
theorem dX9_followed_10 : decode cX9_followed 10 = .ok (.if_icmp .eq 13, 3) := by decide +kernel
theorem dX9_followed_13 : decode cX9_followed 13 = .ok (.iload_n 2, 1) := by decide +kernel
theorem dX9_followed_14 : decode cX9_followed 14 = .ok (.invokestatic 125, 3) := by decide +kernel
theorem dX9_followed_17 : decode cX9_followed 17 = .ok (.ifCond .ne 6, 3) := by decide +kernel
theorem dX9_followed_20 : decode cX9_followed 20 = .ok (.bipush (-2), 2) := by decide +kernel
theorem dX9_followed_22 : decode cX9_followed 22 = .ok (.ireturn, 1) := by decide +kernel
theorem dX9_followed_23 : decode cX9_followed 23 = .ok (.aload_n 0, 1) := by decide +kernel
theorem dX9_followed_24 : decode cX9_followed 24 = .ok (.iload_n 1, 1) := by decide +kernel
theorem dX9_followed_25 : decode cX9_followed 25 = .ok (.ifCond .le 9, 3) := by decide +kernel
theorem dX9_followed_28 : decode cX9_followed 28 = .ok (.iload_n 1, 1) := by decide +kernel
theorem dX9_followed_29 : decode cX9_followed 29 = .ok (.iconst 1, 1) := by decide +kernel
theorem dX9_followed_30 : decode cX9_followed 30 = .ok (.isub, 1) := by decide +kernel
theorem dX9_followed_31 : decode cX9_followed 31 = .ok (.goto 4, 3) := by decide +kernel
theorem dX9_followed_34 : decode cX9_followed 34 = .ok (.iconst 0, 1) := by decide +kernel
theorem dX9_followed_35 : decode cX9_followed 35 = .ok (.iload_n 1, 1) := by decide +kernel
theorem dX9_followed_36 : decode cX9_followed 36 = .ok (.bipush 99, 2) := by decide +kernel
theorem dX9_followed_38 : decode cX9_followed 38 = .ok (.if_icmp .ge 9, 3) := by decide +kernel
theorem dX9_followed_41 : decode cX9_followed 41 = .ok (.iload_n 1, 1) := by decide +kernel
theorem dX9_followed_42 : decode cX9_followed 42 = .ok (.iconst 1, 1) := by decide +kernel
theorem dX9_followed_43 : decode cX9_followed 43 = .ok (.iadd, 1) := by decide +kernel
theorem dX9_followed_44 : decode cX9_followed 44 = .ok (.goto 5, 3) := by decide +kernel
theorem dX9_followed_47 : decode cX9_followed 47 = .ok (.bipush 99, 2) := by decide +kernel
theorem dX9_followed_49 : decode cX9_followed 49 = .ok (.invokevirtual 252, 3) := by decide +kernel
theorem dX9_followed_52 : decode cX9_followed 52 = .ok (.ifCond .eq 6, 3) := by decide +kernel
theorem dX9_followed_55 : decode cX9_followed 55 = .ok (.bipush (-3), 2) := by decide +kernel
theorem dX9_followed_57 : decode cX9_followed 57 = .ok (.ireturn, 1) := by decide +kernel
theorem dX9_followed_58 : decode cX9_followed 58 = .ok (.aload_n 0, 1) := by decide +kernel
theorem dX9_followed_59 : decode cX9_followed 59 = .ok (.invokevirtual 257, 3) := by decide +kernel
theorem dX9_followed_62 : decode cX9_followed 62 = .ok (.aload_n 0, 1) := by decide +kernel
theorem dX9_followed_63 : decode cX9_followed 63 = .ok (.iload_n 1, 1) := by decide +kernel
theorem dX9_followed_64 : decode cX9_followed 64 = .ok (.invokevirtual 263, 3) := by decide +kernel
theorem dX9_followed_67 : decode cX9_followed 67 = .ok (.istore_n 3, 1) := by decide +kernel
theorem dX9_followed_68 : decode cX9_followed 68 = .ok (.iload_n 3, 1) := by decide +kernel
theorem dX9_followed_69 : decode cX9_followed 69 = .ok (.bipush (-9), 2) := by decide +kernel
theorem dX9_followed_71 : decode cX9_followed 71 = .ok (.if_icmp .ne 11, 3) := by decide +kernel
theorem dX9_followed_74 : decode cX9_followed 74 = .ok (.iload_n 2, 1) := by decide +kernel
theorem dX9_followed_75 : decode cX9_followed 75 = .ok (.bipush (-9), 2) := by decide +kernel
theorem dX9_followed_77 : decode cX9_followed 77 = .ok (.if_icmp .ne 5, 3) := by decide +kernel
theorem dX9_followed_80 : decode cX9_followed 80 = .ok (.iconst (-1), 1) := by decide +kernel
theorem dX9_followed_81 : decode cX9_followed 81 = .ok (.ireturn, 1) := by decide +kernel
theorem dX9_followed_82 : decode cX9_followed 82 = .ok (.iload_n 2, 1) := by decide +kernel
theorem dX9_followed_83 : decode cX9_followed 83 = .ok (.bipush (-9), 2) := by decide +kernel
theorem dX9_followed_85 : decode cX9_followed 85 = .ok (.if_icmp .ne 11, 3) := by decide +kernel
theorem dX9_followed_88 : decode cX9_followed 88 = .ok (.aload_n 0, 1) := by decide +kernel
theorem dX9_followed_89 : decode cX9_followed 89 = .ok (.iload_n 3, 1) := by decide +kernel
theorem dX9_followed_90 : decode cX9_followed 90 = .ok (.invokevirtual 272, 3) := by decide +kernel
theorem dX9_followed_93 : decode cX9_followed 93 = .ok (.goto 25, 3) := by decide +kernel
theorem dX9_followed_96 : decode cX9_followed 96 = .ok (.iload_n 3, 1) := by decide +kernel
theorem dX9_followed_97 : decode cX9_followed 97 = .ok (.bipush (-9), 2) := by decide +kernel
theorem dX9_followed_99 : decode cX9_followed 99 = .ok (.if_icmp .ne 12, 3) := by decide +kernel
theorem dX9_followed_102 : decode cX9_followed 102 = .ok (.aload_n 0, 1) := by decide +kernel
theorem dX9_followed_103 : decode cX9_followed 103 = .ok (.iload_n 1, 1) := by decide +kernel
theorem dX9_followed_104 : decode cX9_followed 104 = .ok (.iload_n 2, 1) := by decide +kernel
theorem dX9_followed_105 : decode cX9_followed 105 = .ok (.invokevirtual 276, 3) := by decide +kernel
theorem dX9_followed_108 : decode cX9_followed 108 = .ok (.goto 10, 3) := by decide +kernel
theorem dX9_followed_111 : decode cX9_followed 111 = .ok (.aload_n 0, 1) := by decide +kernel
theorem dX9_followed_112 : decode cX9_followed 112 = .ok (.getfield 101, 3) := by decide +kernel
theorem dX9_followed_115 : decode cX9_followed 115 = .ok (.iload_n 3, 1) := by decide +kernel
theorem dX9_followed_116 : decode cX9_followed 116 = .ok (.iload_n 2, 1) := by decide +kernel
theorem dX9_followed_117 : decode cX9_followed 117 = .ok (.iastore, 1) := by decide +kernel
theorem dX9_followed_118 : decode cX9_followed 118 = .ok (.aload_n 0, 1) := by decide +kernel
theorem dX9_followed_119 : decode cX9_followed 119 = .ok (.invokevirtual 280, 3) := by decide +kernel
theorem dX9_followed_122 : decode cX9_followed 122 = .ok (.ireturn, 1) := by decide +kernel
theorem dX9_step_0 : decode cX9_step 0 = .ok (.aload_n 0, 1) := by decide +kernel
theorem dX9_step_1 : decode cX9_step 1 = .ok (.iload_n 1, 1) := by decide +kernel
theorem dX9_step_2 : decode cX9_step 2 = .ok (.iload_n 2, 1) := by decide +kernel
theorem dX9_step_3 : decode cX9_step 3 = .ok (.invokevirtual 283, 3) := by decide +kernel
theorem dX9_step_6 : decode cX9_step 6 = .ok (.ireturn, 1) := by decide +kernel
theorem dX9_follow_0 : decode cX9_follow 0 = .ok (.aload_n 0, 1) := by decide +kernel
theorem dX9_follow_1 : decode cX9_follow 1 = .ok (.iload_n 1, 1) := by decide +kernel
theorem dX9_follow_2 : decode cX9_follow 2 = .ok (.iload_n 2, 1) := by decide +kernel
theorem dX9_follow_3 : decode cX9_follow 3 = .ok (.invokevirtual 283, 3) := by decide +kernel
theorem dX9_follow_6 : decode cX9_follow 6 = .ok (.istore_n 3, 1) := by decide +kernel
theorem dX9_follow_7 : decode cX9_follow 7 = .ok (.iload_n 3, 1) := by decide +kernel
theorem dX9_follow_8 : decode cX9_follow 8 = .ok (.ifCond .ge 7, 3) := by decide +kernel
theorem dX9_follow_11 : decode cX9_follow 11 = .ok (.iload_n 3, 1) := by decide +kernel
theorem dX9_follow_12 : decode cX9_follow 12 = .ok (.goto 8, 3) := by decide +kernel
theorem dX9_follow_15 : decode cX9_follow 15 = .ok (.aload_n 0, 1) := by decide +kernel
theorem dX9_follow_16 : decode cX9_follow 16 = .ok (.iload_n 3, 1) := by decide +kernel
theorem dX9_follow_17 : decode cX9_follow 17 = .ok (.invokevirtual 234, 3) := by decide +kernel
theorem dX9_follow_20 : decode cX9_follow 20 = .ok (.ireturn, 1) := by decide +kernel
theorem dX9_judged_0 : decode cX9_judged 0 = .ok (.iload_n 1, 1) := by decide +kernel
theorem dX9_judged_1 : decode cX9_judged 1 = .ok (.tableswitch 160 1 5 #[35, 57, 84, 100, 136], 35) := by decide +kernel
theorem dX9_judged_36 : decode cX9_judged 36 = .ok (.aload_n 0, 1) := by decide +kernel
theorem dX9_judged_37 : decode cX9_judged 37 = .ok (.getfield 13, 3) := by decide +kernel
theorem dX9_judged_40 : decode cX9_judged 40 = .ok (.iload_n 2, 1) := by decide +kernel
theorem dX9_judged_41 : decode cX9_judged 41 = .ok (.invokestatic 179, 3) := by decide +kernel
theorem dX9_judged_44 : decode cX9_judged 44 = .ok (.ifCond .ne 5, 3) := by decide +kernel
theorem dX9_judged_47 : decode cX9_judged 47 = .ok (.iconst 0, 1) := by decide +kernel
theorem dX9_judged_48 : decode cX9_judged 48 = .ok (.ireturn, 1) := by decide +kernel
theorem dX9_judged_49 : decode cX9_judged 49 = .ok (.aload_n 0, 1) := by decide +kernel
theorem dX9_judged_50 : decode cX9_judged 50 = .ok (.getfield 13, 3) := by decide +kernel
theorem dX9_judged_53 : decode cX9_judged 53 = .ok (.iload_n 2, 1) := by decide +kernel
theorem dX9_judged_54 : decode cX9_judged 54 = .ok (.iload_n 3, 1) := by decide +kernel
theorem dX9_judged_55 : decode cX9_judged 55 = .ok (.iastore, 1) := by decide +kernel
theorem dX9_judged_56 : decode cX9_judged 56 = .ok (.iconst 1, 1) := by decide +kernel
theorem dX9_judged_57 : decode cX9_judged 57 = .ok (.ireturn, 1) := by decide +kernel
theorem dX9_judged_58 : decode cX9_judged 58 = .ok (.aload_n 0, 1) := by decide +kernel
theorem dX9_judged_59 : decode cX9_judged 59 = .ok (.getfield 13, 3) := by decide +kernel
theorem dX9_judged_62 : decode cX9_judged 62 = .ok (.iload_n 2, 1) := by decide +kernel
theorem dX9_judged_63 : decode cX9_judged 63 = .ok (.iaload, 1) := by decide +kernel
theorem dX9_judged_64 : decode cX9_judged 64 = .ok (.bipush (-9), 2) := by decide +kernel
theorem dX9_judged_66 : decode cX9_judged 66 = .ok (.if_icmp .eq 7, 3) := by decide +kernel
theorem dX9_judged_69 : decode cX9_judged 69 = .ok (.iload_n 3, 1) := by decide +kernel
theorem dX9_judged_70 : decode cX9_judged 70 = .ok (.ifCond .eq 5, 3) := by decide +kernel
theorem dX9_judged_73 : decode cX9_judged 73 = .ok (.iconst 0, 1) := by decide +kernel
theorem dX9_judged_74 : decode cX9_judged 74 = .ok (.ireturn, 1) := by decide +kernel
theorem dX9_judged_75 : decode cX9_judged 75 = .ok (.aload_n 0, 1) := by decide +kernel
theorem dX9_judged_76 : decode cX9_judged 76 = .ok (.getfield 13, 3) := by decide +kernel
theorem dX9_judged_79 : decode cX9_judged 79 = .ok (.iload_n 2, 1) := by decide +kernel
theorem dX9_judged_80 : decode cX9_judged 80 = .ok (.bipush (-9), 2) := by decide +kernel
theorem dX9_judged_82 : decode cX9_judged 82 = .ok (.iastore, 1) := by decide +kernel
theorem dX9_judged_83 : decode cX9_judged 83 = .ok (.iconst 1, 1) := by decide +kernel
theorem dX9_judged_84 : decode cX9_judged 84 = .ok (.ireturn, 1) := by decide +kernel
theorem dX9_judged_85 : decode cX9_judged 85 = .ok (.aload_n 0, 1) := by decide +kernel
theorem dX9_judged_86 : decode cX9_judged 86 = .ok (.getfield 13, 3) := by decide +kernel
theorem dX9_judged_89 : decode cX9_judged 89 = .ok (.iload_n 2, 1) := by decide +kernel
theorem dX9_judged_90 : decode cX9_judged 90 = .ok (.iaload, 1) := by decide +kernel
theorem dX9_judged_91 : decode cX9_judged 91 = .ok (.iload_n 3, 1) := by decide +kernel
theorem dX9_judged_92 : decode cX9_judged 92 = .ok (.if_icmp .ne 7, 3) := by decide +kernel
theorem dX9_judged_95 : decode cX9_judged 95 = .ok (.iconst 1, 1) := by decide +kernel
theorem dX9_judged_96 : decode cX9_judged 96 = .ok (.goto 4, 3) := by decide +kernel
theorem dX9_judged_99 : decode cX9_judged 99 = .ok (.iconst 0, 1) := by decide +kernel
theorem dX9_judged_100 : decode cX9_judged 100 = .ok (.ireturn, 1) := by decide +kernel
theorem dX9_judged_101 : decode cX9_judged 101 = .ok (.aload_n 0, 1) := by decide +kernel
theorem dX9_judged_102 : decode cX9_judged 102 = .ok (.aload_n 0, 1) := by decide +kernel
theorem dX9_judged_103 : decode cX9_judged 103 = .ok (.getfield 13, 3) := by decide +kernel
theorem dX9_judged_106 : decode cX9_judged 106 = .ok (.iconst 0, 1) := by decide +kernel
theorem dX9_judged_107 : decode cX9_judged 107 = .ok (.invokevirtual 165, 3) := by decide +kernel
theorem dX9_judged_110 : decode cX9_judged 110 = .ok (.aload_n 0, 1) := by decide +kernel
theorem dX9_judged_111 : decode cX9_judged 111 = .ok (.getfield 13, 3) := by decide +kernel
theorem dX9_judged_114 : decode cX9_judged 114 = .ok (.iload_n 2, 1) := by decide +kernel
theorem dX9_judged_115 : decode cX9_judged 115 = .ok (.iaload, 1) := by decide +kernel
theorem dX9_judged_116 : decode cX9_judged 116 = .ok (.bipush (-9), 2) := by decide +kernel
theorem dX9_judged_118 : decode cX9_judged 118 = .ok (.if_icmp .eq 17, 3) := by decide +kernel
theorem dX9_judged_121 : decode cX9_judged 121 = .ok (.aload_n 0, 1) := by decide +kernel
theorem dX9_judged_122 : decode cX9_judged 122 = .ok (.getfield 35, 3) := by decide +kernel
theorem dX9_judged_125 : decode cX9_judged 125 = .ok (.iload_n 2, 1) := by decide +kernel
theorem dX9_judged_126 : decode cX9_judged 126 = .ok (.iaload, 1) := by decide +kernel
theorem dX9_judged_127 : decode cX9_judged 127 = .ok (.iload_n 3, 1) := by decide +kernel
theorem dX9_judged_128 : decode cX9_judged 128 = .ok (.if_icmp .ne 7, 3) := by decide +kernel
theorem dX9_judged_131 : decode cX9_judged 131 = .ok (.iconst 1, 1) := by decide +kernel
theorem dX9_judged_132 : decode cX9_judged 132 = .ok (.goto 4, 3) := by decide +kernel
theorem dX9_judged_135 : decode cX9_judged 135 = .ok (.iconst 0, 1) := by decide +kernel
theorem dX9_judged_136 : decode cX9_judged 136 = .ok (.ireturn, 1) := by decide +kernel
theorem dX9_judged_137 : decode cX9_judged 137 = .ok (.aload_n 0, 1) := by decide +kernel
theorem dX9_judged_138 : decode cX9_judged 138 = .ok (.aload_n 0, 1) := by decide +kernel
theorem dX9_judged_139 : decode cX9_judged 139 = .ok (.getfield 13, 3) := by decide +kernel
theorem dX9_judged_142 : decode cX9_judged 142 = .ok (.iload_n 2, 1) := by decide +kernel
theorem dX9_judged_143 : decode cX9_judged 143 = .ok (.iload_n 2, 1) := by decide +kernel
theorem dX9_judged_144 : decode cX9_judged 144 = .ok (.invokevirtual 223, 3) := by decide +kernel
theorem dX9_judged_147 : decode cX9_judged 147 = .ok (.aload_n 0, 1) := by decide +kernel
theorem dX9_judged_148 : decode cX9_judged 148 = .ok (.getfield 211, 3) := by decide +kernel
theorem dX9_judged_151 : decode cX9_judged 151 = .ok (.iload_n 3, 1) := by decide +kernel
theorem dX9_judged_152 : decode cX9_judged 152 = .ok (.if_icmp .ne 7, 3) := by decide +kernel
theorem dX9_judged_155 : decode cX9_judged 155 = .ok (.iconst 1, 1) := by decide +kernel
theorem dX9_judged_156 : decode cX9_judged 156 = .ok (.goto 4, 3) := by decide +kernel
theorem dX9_judged_159 : decode cX9_judged 159 = .ok (.iconst 0, 1) := by decide +kernel
theorem dX9_judged_160 : decode cX9_judged 160 = .ok (.ireturn, 1) := by decide +kernel
theorem dX9_judged_161 : decode cX9_judged 161 = .ok (.iconst 0, 1) := by decide +kernel
theorem dX9_judged_162 : decode cX9_judged 162 = .ok (.ireturn, 1) := by decide +kernel
theorem dX9_hundredThousands_0 : decode cX9_hundredThousands 0 = .ok (.lconst 1, 1) := by decide +kernel
theorem dX9_hundredThousands_1 : decode cX9_hundredThousands 1 = .ok (.lstore_n 1, 1) := by decide +kernel
theorem dX9_hundredThousands_2 : decode cX9_hundredThousands 2 = .ok (.iconst 0, 1) := by decide +kernel
theorem dX9_hundredThousands_3 : decode cX9_hundredThousands 3 = .ok (.istore_n 3, 1) := by decide +kernel
theorem dX9_hundredThousands_4 : decode cX9_hundredThousands 4 = .ok (.iload_n 3, 1) := by decide +kernel
theorem dX9_hundredThousands_5 : decode cX9_hundredThousands 5 = .ok (.iload_n 0, 1) := by decide +kernel
theorem dX9_hundredThousands_6 : decode cX9_hundredThousands 6 = .ok (.if_icmp .ge 15, 3) := by decide +kernel
theorem dX9_hundredThousands_9 : decode cX9_hundredThousands 9 = .ok (.lload_n 1, 1) := by decide +kernel
theorem dX9_hundredThousands_10 : decode cX9_hundredThousands 10 = .ok (.ldc2_w 286, 3) := by decide +kernel
theorem dX9_hundredThousands_13 : decode cX9_hundredThousands 13 = .ok (.lmul, 1) := by decide +kernel
theorem dX9_hundredThousands_14 : decode cX9_hundredThousands 14 = .ok (.lstore_n 1, 1) := by decide +kernel
theorem dX9_hundredThousands_15 : decode cX9_hundredThousands 15 = .ok (.iinc 3 1, 3) := by decide +kernel
theorem dX9_hundredThousands_18 : decode cX9_hundredThousands 18 = .ok (.goto (-14), 3) := by decide +kernel
theorem dX9_hundredThousands_21 : decode cX9_hundredThousands 21 = .ok (.lload_n 1, 1) := by decide +kernel
theorem dX9_hundredThousands_22 : decode cX9_hundredThousands 22 = .ok (.lreturn, 1) := by decide +kernel
theorem dX9_judge_0 : decode cX9_judge 0 = .ok (.iload_n 1, 1) := by decide +kernel
theorem dX9_judge_1 : decode cX9_judge 1 = .ok (.i2l, 1) := by decide +kernel
theorem dX9_judge_2 : decode cX9_judge 2 = .ok (.lconst 1, 1) := by decide +kernel
theorem dX9_judge_3 : decode cX9_judge 3 = .ok (.ldc2_w 129, 3) := by decide +kernel
theorem dX9_judge_6 : decode cX9_judge 6 = .ok (.invokestatic 121, 3) := by decide +kernel
theorem dX9_judge_9 : decode cX9_judge 9 = .ok (.ifCond .eq 17, 3) := by decide +kernel
theorem dX9_judge_12 : decode cX9_judge 12 = .ok (.lload_n 2, 1) := by decide +kernel
theorem dX9_judge_13 : decode cX9_judge 13 = .ok (.lconst 0, 1) := by decide +kernel
theorem dX9_judge_14 : decode cX9_judge 14 = .ok (.iload_n 1, 1) := by decide +kernel
theorem dX9_judge_15 : decode cX9_judge 15 = .ok (.invokestatic 288, 3) := by decide +kernel
theorem dX9_judge_18 : decode cX9_judge 18 = .ok (.lconst 1, 1) := by decide +kernel
theorem dX9_judge_19 : decode cX9_judge 19 = .ok (.lsub, 1) := by decide +kernel
theorem dX9_judge_20 : decode cX9_judge 20 = .ok (.invokestatic 121, 3) := by decide +kernel
theorem dX9_judge_23 : decode cX9_judge 23 = .ok (.ifCond .ne 6, 3) := by decide +kernel
theorem dX9_judge_26 : decode cX9_judge 26 = .ok (.bipush (-2), 2) := by decide +kernel
theorem dX9_judge_28 : decode cX9_judge 28 = .ok (.ireturn, 1) := by decide +kernel
theorem dX9_judge_29 : decode cX9_judge 29 = .ok (.iconst 0, 1) := by decide +kernel
theorem dX9_judge_30 : decode cX9_judge 30 = .ok (.istore 4, 2) := by decide +kernel
theorem dX9_judge_32 : decode cX9_judge 32 = .ok (.iload 4, 2) := by decide +kernel
theorem dX9_judge_34 : decode cX9_judge 34 = .ok (.bipush 100, 2) := by decide +kernel
theorem dX9_judge_36 : decode cX9_judge 36 = .ok (.if_icmp .ge 23, 3) := by decide +kernel
theorem dX9_judge_39 : decode cX9_judge 39 = .ok (.aload_n 0, 1) := by decide +kernel
theorem dX9_judge_40 : decode cX9_judge 40 = .ok (.getfield 13, 3) := by decide +kernel
theorem dX9_judge_43 : decode cX9_judge 43 = .ok (.iload 4, 2) := by decide +kernel
theorem dX9_judge_45 : decode cX9_judge 45 = .ok (.aload_n 0, 1) := by decide +kernel
theorem dX9_judge_46 : decode cX9_judge 46 = .ok (.getfield 7, 3) := by decide +kernel
theorem dX9_judge_49 : decode cX9_judge 49 = .ok (.iload 4, 2) := by decide +kernel
theorem dX9_judge_51 : decode cX9_judge 51 = .ok (.iaload, 1) := by decide +kernel
theorem dX9_judge_52 : decode cX9_judge 52 = .ok (.iastore, 1) := by decide +kernel
theorem dX9_judge_53 : decode cX9_judge 53 = .ok (.iinc 4 1, 3) := by decide +kernel
theorem dX9_judge_56 : decode cX9_judge 56 = .ok (.goto (-24), 3) := by decide +kernel
theorem dX9_judge_59 : decode cX9_judge 59 = .ok (.iconst 0, 1) := by decide +kernel
theorem dX9_judge_60 : decode cX9_judge 60 = .ok (.istore 4, 2) := by decide +kernel
theorem dX9_judge_62 : decode cX9_judge 62 = .ok (.iload 4, 2) := by decide +kernel
theorem dX9_judge_64 : decode cX9_judge 64 = .ok (.iload_n 1, 1) := by decide +kernel
theorem dX9_judge_65 : decode cX9_judge 65 = .ok (.if_icmp .ge 56, 3) := by decide +kernel
theorem dX9_judge_68 : decode cX9_judge 68 = .ok (.lload_n 2, 1) := by decide +kernel
theorem dX9_judge_69 : decode cX9_judge 69 = .ok (.iload_n 1, 1) := by decide +kernel
theorem dX9_judge_70 : decode cX9_judge 70 = .ok (.iconst 1, 1) := by decide +kernel
theorem dX9_judge_71 : decode cX9_judge 71 = .ok (.isub, 1) := by decide +kernel
theorem dX9_judge_72 : decode cX9_judge 72 = .ok (.iload 4, 2) := by decide +kernel
theorem dX9_judge_74 : decode cX9_judge 74 = .ok (.isub, 1) := by decide +kernel
theorem dX9_judge_75 : decode cX9_judge 75 = .ok (.invokestatic 288, 3) := by decide +kernel
theorem dX9_judge_78 : decode cX9_judge 78 = .ok (.ldiv, 1) := by decide +kernel
theorem dX9_judge_79 : decode cX9_judge 79 = .ok (.ldc2_w 286, 3) := by decide +kernel
theorem dX9_judge_82 : decode cX9_judge 82 = .ok (.lrem, 1) := by decide +kernel
theorem dX9_judge_83 : decode cX9_judge 83 = .ok (.l2i, 1) := by decide +kernel
theorem dX9_judge_84 : decode cX9_judge 84 = .ok (.istore 5, 2) := by decide +kernel
theorem dX9_judge_86 : decode cX9_judge 86 = .ok (.aload_n 0, 1) := by decide +kernel
theorem dX9_judge_87 : decode cX9_judge 87 = .ok (.iload 5, 2) := by decide +kernel
theorem dX9_judge_89 : decode cX9_judge 89 = .ok (.sipush 10000, 3) := by decide +kernel
theorem dX9_judge_92 : decode cX9_judge 92 = .ok (.idiv, 1) := by decide +kernel
theorem dX9_judge_93 : decode cX9_judge 93 = .ok (.iload 5, 2) := by decide +kernel
theorem dX9_judge_95 : decode cX9_judge 95 = .ok (.bipush 100, 2) := by decide +kernel
theorem dX9_judge_97 : decode cX9_judge 97 = .ok (.idiv, 1) := by decide +kernel
theorem dX9_judge_98 : decode cX9_judge 98 = .ok (.bipush 100, 2) := by decide +kernel
theorem dX9_judge_100 : decode cX9_judge 100 = .ok (.irem, 1) := by decide +kernel
theorem dX9_judge_101 : decode cX9_judge 101 = .ok (.iload 5, 2) := by decide +kernel
theorem dX9_judge_103 : decode cX9_judge 103 = .ok (.bipush 100, 2) := by decide +kernel
theorem dX9_judge_105 : decode cX9_judge 105 = .ok (.irem, 1) := by decide +kernel
theorem dX9_judge_106 : decode cX9_judge 106 = .ok (.invokevirtual 292, 3) := by decide +kernel
theorem dX9_judge_109 : decode cX9_judge 109 = .ok (.ifCond .ne 6, 3) := by decide +kernel
theorem dX9_judge_112 : decode cX9_judge 112 = .ok (.iload 4, 2) := by decide +kernel
theorem dX9_judge_114 : decode cX9_judge 114 = .ok (.ireturn, 1) := by decide +kernel
theorem dX9_judge_115 : decode cX9_judge 115 = .ok (.iinc 4 1, 3) := by decide +kernel
theorem dX9_judge_118 : decode cX9_judge 118 = .ok (.goto (-56), 3) := by decide +kernel
theorem dX9_judge_121 : decode cX9_judge 121 = .ok (.bipush (-9), 2) := by decide +kernel
theorem dX9_judge_123 : decode cX9_judge 123 = .ok (.ireturn, 1) := by decide +kernel
theorem dX9_keep_0 : decode cX9_keep 0 = .ok (.iload_n 1, 1) := by decide +kernel
theorem dX9_keep_1 : decode cX9_keep 1 = .ok (.i2l, 1) := by decide +kernel
theorem dX9_keep_2 : decode cX9_keep 2 = .ok (.lconst 0, 1) := by decide +kernel
theorem dX9_keep_3 : decode cX9_keep 3 = .ok (.lconst 1, 1) := by decide +kernel
theorem dX9_keep_4 : decode cX9_keep 4 = .ok (.invokestatic 121, 3) := by decide +kernel
theorem dX9_keep_7 : decode cX9_keep 7 = .ok (.ifCond .ne 5, 3) := by decide +kernel
theorem dX9_keep_10 : decode cX9_keep 10 = .ok (.iconst (-1), 1) := by decide +kernel
theorem dX9_keep_11 : decode cX9_keep 11 = .ok (.ireturn, 1) := by decide +kernel
theorem dX9_keep_12 : decode cX9_keep 12 = .ok (.aload_n 0, 1) := by decide +kernel
theorem dX9_keep_13 : decode cX9_keep 13 = .ok (.getfield 22, 3) := by decide +kernel
theorem dX9_keep_16 : decode cX9_keep 16 = .ok (.iload_n 1, 1) := by decide +kernel
theorem dX9_keep_17 : decode cX9_keep 17 = .ok (.iconst 1, 1) := by decide +kernel
theorem dX9_keep_18 : decode cX9_keep 18 = .ok (.bastore, 1) := by decide +kernel
theorem dX9_keep_19 : decode cX9_keep 19 = .ok (.iconst 0, 1) := by decide +kernel
theorem dX9_keep_20 : decode cX9_keep 20 = .ok (.istore_n 2, 1) := by decide +kernel
theorem dX9_keep_21 : decode cX9_keep 21 = .ok (.iload_n 2, 1) := by decide +kernel
theorem dX9_keep_22 : decode cX9_keep 22 = .ok (.bipush 100, 2) := by decide +kernel
theorem dX9_keep_24 : decode cX9_keep 24 = .ok (.if_icmp .ge 26, 3) := by decide +kernel
theorem dX9_keep_27 : decode cX9_keep 27 = .ok (.aload_n 0, 1) := by decide +kernel
theorem dX9_keep_28 : decode cX9_keep 28 = .ok (.getfield 19, 3) := by decide +kernel
theorem dX9_keep_31 : decode cX9_keep 31 = .ok (.bipush 100, 2) := by decide +kernel
theorem dX9_keep_33 : decode cX9_keep 33 = .ok (.iload_n 1, 1) := by decide +kernel
theorem dX9_keep_34 : decode cX9_keep 34 = .ok (.imul, 1) := by decide +kernel
theorem dX9_keep_35 : decode cX9_keep 35 = .ok (.iload_n 2, 1) := by decide +kernel
theorem dX9_keep_36 : decode cX9_keep 36 = .ok (.iadd, 1) := by decide +kernel
theorem dX9_keep_37 : decode cX9_keep 37 = .ok (.aload_n 0, 1) := by decide +kernel
theorem dX9_keep_38 : decode cX9_keep 38 = .ok (.getfield 7, 3) := by decide +kernel
theorem dX9_keep_41 : decode cX9_keep 41 = .ok (.iload_n 2, 1) := by decide +kernel
theorem dX9_keep_42 : decode cX9_keep 42 = .ok (.iaload, 1) := by decide +kernel
theorem dX9_keep_43 : decode cX9_keep 43 = .ok (.iastore, 1) := by decide +kernel
theorem dX9_keep_44 : decode cX9_keep 44 = .ok (.iinc 2 1, 3) := by decide +kernel
theorem dX9_keep_47 : decode cX9_keep 47 = .ok (.goto (-26), 3) := by decide +kernel
theorem dX9_keep_50 : decode cX9_keep 50 = .ok (.aload_n 0, 1) := by decide +kernel
theorem dX9_keep_51 : decode cX9_keep 51 = .ok (.getfield 7, 3) := by decide +kernel
theorem dX9_keep_54 : decode cX9_keep 54 = .ok (.invokestatic 175, 3) := by decide +kernel
theorem dX9_keep_57 : decode cX9_keep 57 = .ok (.ireturn, 1) := by decide +kernel
theorem dX9_again_0 : decode cX9_again 0 = .ok (.iload_n 1, 1) := by decide +kernel
theorem dX9_again_1 : decode cX9_again 1 = .ok (.i2l, 1) := by decide +kernel
theorem dX9_again_2 : decode cX9_again 2 = .ok (.lconst 0, 1) := by decide +kernel
theorem dX9_again_3 : decode cX9_again 3 = .ok (.lconst 1, 1) := by decide +kernel
theorem dX9_again_4 : decode cX9_again 4 = .ok (.invokestatic 121, 3) := by decide +kernel
theorem dX9_again_7 : decode cX9_again 7 = .ok (.ifCond .ne 5, 3) := by decide +kernel
theorem dX9_again_10 : decode cX9_again 10 = .ok (.iconst (-1), 1) := by decide +kernel
theorem dX9_again_11 : decode cX9_again 11 = .ok (.ireturn, 1) := by decide +kernel
theorem dX9_again_12 : decode cX9_again 12 = .ok (.aload_n 0, 1) := by decide +kernel
theorem dX9_again_13 : decode cX9_again 13 = .ok (.getfield 22, 3) := by decide +kernel
theorem dX9_again_16 : decode cX9_again 16 = .ok (.iload_n 1, 1) := by decide +kernel
theorem dX9_again_17 : decode cX9_again 17 = .ok (.baload, 1) := by decide +kernel
theorem dX9_again_18 : decode cX9_again 18 = .ok (.ifCond .ne 6, 3) := by decide +kernel
theorem dX9_again_21 : decode cX9_again 21 = .ok (.bipush (-3), 2) := by decide +kernel
theorem dX9_again_23 : decode cX9_again 23 = .ok (.ireturn, 1) := by decide +kernel
theorem dX9_again_24 : decode cX9_again 24 = .ok (.iconst 0, 1) := by decide +kernel
theorem dX9_again_25 : decode cX9_again 25 = .ok (.istore_n 2, 1) := by decide +kernel
theorem dX9_again_26 : decode cX9_again 26 = .ok (.iload_n 2, 1) := by decide +kernel
theorem dX9_again_27 : decode cX9_again 27 = .ok (.bipush 100, 2) := by decide +kernel
theorem dX9_again_29 : decode cX9_again 29 = .ok (.if_icmp .ge 26, 3) := by decide +kernel
theorem dX9_again_32 : decode cX9_again 32 = .ok (.aload_n 0, 1) := by decide +kernel
theorem dX9_again_33 : decode cX9_again 33 = .ok (.getfield 7, 3) := by decide +kernel
theorem dX9_again_36 : decode cX9_again 36 = .ok (.iload_n 2, 1) := by decide +kernel
theorem dX9_again_37 : decode cX9_again 37 = .ok (.aload_n 0, 1) := by decide +kernel
theorem dX9_again_38 : decode cX9_again 38 = .ok (.getfield 19, 3) := by decide +kernel
theorem dX9_again_41 : decode cX9_again 41 = .ok (.bipush 100, 2) := by decide +kernel
theorem dX9_again_43 : decode cX9_again 43 = .ok (.iload_n 1, 1) := by decide +kernel
theorem dX9_again_44 : decode cX9_again 44 = .ok (.imul, 1) := by decide +kernel
theorem dX9_again_45 : decode cX9_again 45 = .ok (.iload_n 2, 1) := by decide +kernel
theorem dX9_again_46 : decode cX9_again 46 = .ok (.iadd, 1) := by decide +kernel
theorem dX9_again_47 : decode cX9_again 47 = .ok (.iaload, 1) := by decide +kernel
theorem dX9_again_48 : decode cX9_again 48 = .ok (.iastore, 1) := by decide +kernel
theorem dX9_again_49 : decode cX9_again 49 = .ok (.iinc 2 1, 3) := by decide +kernel
theorem dX9_again_52 : decode cX9_again 52 = .ok (.goto (-26), 3) := by decide +kernel
theorem dX9_again_55 : decode cX9_again 55 = .ok (.aload_n 0, 1) := by decide +kernel
theorem dX9_again_56 : decode cX9_again 56 = .ok (.iconst 0, 1) := by decide +kernel
theorem dX9_again_57 : decode cX9_again 57 = .ok (.putfield 172, 3) := by decide +kernel
theorem dX9_again_60 : decode cX9_again 60 = .ok (.aload_n 0, 1) := by decide +kernel
theorem dX9_again_61 : decode cX9_again 61 = .ok (.getfield 7, 3) := by decide +kernel
theorem dX9_again_64 : decode cX9_again 64 = .ok (.invokestatic 175, 3) := by decide +kernel
theorem dX9_again_67 : decode cX9_again 67 = .ok (.ireturn, 1) := by decide +kernel
theorem dX9_isSame_0 : decode cX9_isSame 0 = .ok (.aload_n 0, 1) := by decide +kernel
theorem dX9_isSame_1 : decode cX9_isSame 1 = .ok (.getfield 7, 3) := by decide +kernel
theorem dX9_isSame_4 : decode cX9_isSame 4 = .ok (.iload_n 1, 1) := by decide +kernel
theorem dX9_isSame_5 : decode cX9_isSame 5 = .ok (.iaload, 1) := by decide +kernel
theorem dX9_isSame_6 : decode cX9_isSame 6 = .ok (.bipush (-9), 2) := by decide +kernel
theorem dX9_isSame_8 : decode cX9_isSame 8 = .ok (.if_icmp .eq 36, 3) := by decide +kernel
theorem dX9_isSame_11 : decode cX9_isSame 11 = .ok (.aload_n 0, 1) := by decide +kernel
theorem dX9_isSame_12 : decode cX9_isSame 12 = .ok (.getfield 13, 3) := by decide +kernel
theorem dX9_isSame_15 : decode cX9_isSame 15 = .ok (.iload_n 1, 1) := by decide +kernel
theorem dX9_isSame_16 : decode cX9_isSame 16 = .ok (.iaload, 1) := by decide +kernel
theorem dX9_isSame_17 : decode cX9_isSame 17 = .ok (.bipush (-9), 2) := by decide +kernel
theorem dX9_isSame_19 : decode cX9_isSame 19 = .ok (.if_icmp .eq 25, 3) := by decide +kernel
theorem dX9_isSame_22 : decode cX9_isSame 22 = .ok (.aload_n 0, 1) := by decide +kernel
theorem dX9_isSame_23 : decode cX9_isSame 23 = .ok (.getfield 47, 3) := by decide +kernel
theorem dX9_isSame_26 : decode cX9_isSame 26 = .ok (.iload_n 1, 1) := by decide +kernel
theorem dX9_isSame_27 : decode cX9_isSame 27 = .ok (.iaload, 1) := by decide +kernel
theorem dX9_isSame_28 : decode cX9_isSame 28 = .ok (.aload_n 0, 1) := by decide +kernel
theorem dX9_isSame_29 : decode cX9_isSame 29 = .ok (.getfield 47, 3) := by decide +kernel
theorem dX9_isSame_32 : decode cX9_isSame 32 = .ok (.bipush 100, 2) := by decide +kernel
theorem dX9_isSame_34 : decode cX9_isSame 34 = .ok (.iload_n 1, 1) := by decide +kernel
theorem dX9_isSame_35 : decode cX9_isSame 35 = .ok (.iadd, 1) := by decide +kernel
theorem dX9_isSame_36 : decode cX9_isSame 36 = .ok (.iaload, 1) := by decide +kernel
theorem dX9_isSame_37 : decode cX9_isSame 37 = .ok (.if_icmp .ne 7, 3) := by decide +kernel
theorem dX9_isSame_40 : decode cX9_isSame 40 = .ok (.iconst 1, 1) := by decide +kernel
theorem dX9_isSame_41 : decode cX9_isSame 41 = .ok (.goto 4, 3) := by decide +kernel
theorem dX9_isSame_44 : decode cX9_isSame 44 = .ok (.iconst 0, 1) := by decide +kernel
theorem dX9_isSame_45 : decode cX9_isSame 45 = .ok (.ireturn, 1) := by decide +kernel
end
section
theorem dX9_isPassed_0 : decode cX9_isPassed 0 = .ok (.aload_n 0, 1) := by decide +kernel
theorem dX9_isPassed_1 : decode cX9_isPassed 1 = .ok (.iload_n 1, 1) := by decide +kernel
theorem dX9_isPassed_2 : decode cX9_isPassed 2 = .ok (.invokevirtual 296, 3) := by decide +kernel
theorem dX9_isPassed_5 : decode cX9_isPassed 5 = .ok (.istore_n 2, 1) := by decide +kernel
theorem dX9_isPassed_6 : decode cX9_isPassed 6 = .ok (.aload_n 0, 1) := by decide +kernel
theorem dX9_isPassed_7 : decode cX9_isPassed 7 = .ok (.getfield 7, 3) := by decide +kernel
theorem dX9_isPassed_10 : decode cX9_isPassed 10 = .ok (.iload_n 1, 1) := by decide +kernel
theorem dX9_isPassed_11 : decode cX9_isPassed 11 = .ok (.iaload, 1) := by decide +kernel
theorem dX9_isPassed_12 : decode cX9_isPassed 12 = .ok (.bipush (-9), 2) := by decide +kernel
theorem dX9_isPassed_14 : decode cX9_isPassed 14 = .ok (.if_icmp .ne 8, 3) := by decide +kernel
theorem dX9_isPassed_17 : decode cX9_isPassed 17 = .ok (.bipush (-9), 2) := by decide +kernel
theorem dX9_isPassed_19 : decode cX9_isPassed 19 = .ok (.goto 9, 3) := by decide +kernel
theorem dX9_isPassed_22 : decode cX9_isPassed 22 = .ok (.aload_n 0, 1) := by decide +kernel
theorem dX9_isPassed_23 : decode cX9_isPassed 23 = .ok (.getfield 26, 3) := by decide +kernel
theorem dX9_isPassed_26 : decode cX9_isPassed 26 = .ok (.iload_n 1, 1) := by decide +kernel
theorem dX9_isPassed_27 : decode cX9_isPassed 27 = .ok (.iaload, 1) := by decide +kernel
theorem dX9_isPassed_28 : decode cX9_isPassed 28 = .ok (.istore_n 3, 1) := by decide +kernel
theorem dX9_isPassed_29 : decode cX9_isPassed 29 = .ok (.iload_n 3, 1) := by decide +kernel
theorem dX9_isPassed_30 : decode cX9_isPassed 30 = .ok (.bipush (-9), 2) := by decide +kernel
theorem dX9_isPassed_32 : decode cX9_isPassed 32 = .ok (.if_icmp .eq 31, 3) := by decide +kernel
theorem dX9_isPassed_35 : decode cX9_isPassed 35 = .ok (.iload_n 2, 1) := by decide +kernel
theorem dX9_isPassed_36 : decode cX9_isPassed 36 = .ok (.ifCond .eq 15, 3) := by decide +kernel
theorem dX9_isPassed_39 : decode cX9_isPassed 39 = .ok (.aload_n 0, 1) := by decide +kernel
theorem dX9_isPassed_40 : decode cX9_isPassed 40 = .ok (.iload_n 3, 1) := by decide +kernel
theorem dX9_isPassed_41 : decode cX9_isPassed 41 = .ok (.invokevirtual 296, 3) := by decide +kernel
theorem dX9_isPassed_44 : decode cX9_isPassed 44 = .ok (.ifCond .ne 7, 3) := by decide +kernel
theorem dX9_isPassed_47 : decode cX9_isPassed 47 = .ok (.iconst 1, 1) := by decide +kernel
theorem dX9_isPassed_48 : decode cX9_isPassed 48 = .ok (.goto 4, 3) := by decide +kernel
theorem dX9_isPassed_51 : decode cX9_isPassed 51 = .ok (.iconst 0, 1) := by decide +kernel
theorem dX9_isPassed_52 : decode cX9_isPassed 52 = .ok (.istore_n 2, 1) := by decide +kernel
theorem dX9_isPassed_53 : decode cX9_isPassed 53 = .ok (.aload_n 0, 1) := by decide +kernel
theorem dX9_isPassed_54 : decode cX9_isPassed 54 = .ok (.getfield 26, 3) := by decide +kernel
theorem dX9_isPassed_57 : decode cX9_isPassed 57 = .ok (.iload_n 3, 1) := by decide +kernel
theorem dX9_isPassed_58 : decode cX9_isPassed 58 = .ok (.iaload, 1) := by decide +kernel
theorem dX9_isPassed_59 : decode cX9_isPassed 59 = .ok (.istore_n 3, 1) := by decide +kernel
theorem dX9_isPassed_60 : decode cX9_isPassed 60 = .ok (.goto (-31), 3) := by decide +kernel
theorem dX9_isPassed_63 : decode cX9_isPassed 63 = .ok (.iload_n 2, 1) := by decide +kernel
theorem dX9_isPassed_64 : decode cX9_isPassed 64 = .ok (.ireturn, 1) := by decide +kernel
theorem dX9_differ_0 : decode cX9_differ 0 = .ok (.iload_n 1, 1) := by decide +kernel
theorem dX9_differ_1 : decode cX9_differ 1 = .ok (.i2l, 1) := by decide +kernel
theorem dX9_differ_2 : decode cX9_differ 2 = .ok (.lconst 0, 1) := by decide +kernel
theorem dX9_differ_3 : decode cX9_differ 3 = .ok (.lconst 1, 1) := by decide +kernel
theorem dX9_differ_4 : decode cX9_differ 4 = .ok (.invokestatic 121, 3) := by decide +kernel
theorem dX9_differ_7 : decode cX9_differ 7 = .ok (.ifCond .ne 5, 3) := by decide +kernel
theorem dX9_differ_10 : decode cX9_differ 10 = .ok (.iconst (-1), 1) := by decide +kernel
theorem dX9_differ_11 : decode cX9_differ 11 = .ok (.ireturn, 1) := by decide +kernel
theorem dX9_differ_12 : decode cX9_differ 12 = .ok (.aload_n 0, 1) := by decide +kernel
theorem dX9_differ_13 : decode cX9_differ 13 = .ok (.getfield 22, 3) := by decide +kernel
theorem dX9_differ_16 : decode cX9_differ 16 = .ok (.iload_n 1, 1) := by decide +kernel
theorem dX9_differ_17 : decode cX9_differ 17 = .ok (.baload, 1) := by decide +kernel
theorem dX9_differ_18 : decode cX9_differ 18 = .ok (.ifCond .ne 6, 3) := by decide +kernel
theorem dX9_differ_21 : decode cX9_differ 21 = .ok (.bipush (-3), 2) := by decide +kernel
theorem dX9_differ_23 : decode cX9_differ 23 = .ok (.ireturn, 1) := by decide +kernel
theorem dX9_differ_24 : decode cX9_differ 24 = .ok (.iload_n 2, 1) := by decide +kernel
theorem dX9_differ_25 : decode cX9_differ 25 = .ok (.i2l, 1) := by decide +kernel
theorem dX9_differ_26 : decode cX9_differ 26 = .ok (.lconst 0, 1) := by decide +kernel
theorem dX9_differ_27 : decode cX9_differ 27 = .ok (.ldc2_w 129, 3) := by decide +kernel
theorem dX9_differ_30 : decode cX9_differ 30 = .ok (.invokestatic 121, 3) := by decide +kernel
theorem dX9_differ_33 : decode cX9_differ 33 = .ok (.ifCond .ne 6, 3) := by decide +kernel
theorem dX9_differ_36 : decode cX9_differ 36 = .ok (.bipush (-2), 2) := by decide +kernel
theorem dX9_differ_38 : decode cX9_differ 38 = .ok (.ireturn, 1) := by decide +kernel
theorem dX9_differ_39 : decode cX9_differ 39 = .ok (.iconst 0, 1) := by decide +kernel
theorem dX9_differ_40 : decode cX9_differ 40 = .ok (.istore_n 3, 1) := by decide +kernel
theorem dX9_differ_41 : decode cX9_differ 41 = .ok (.iload_n 3, 1) := by decide +kernel
theorem dX9_differ_42 : decode cX9_differ 42 = .ok (.bipush 100, 2) := by decide +kernel
theorem dX9_differ_44 : decode cX9_differ 44 = .ok (.if_icmp .ge 26, 3) := by decide +kernel
theorem dX9_differ_47 : decode cX9_differ 47 = .ok (.aload_n 0, 1) := by decide +kernel
theorem dX9_differ_48 : decode cX9_differ 48 = .ok (.getfield 13, 3) := by decide +kernel
theorem dX9_differ_51 : decode cX9_differ 51 = .ok (.iload_n 3, 1) := by decide +kernel
theorem dX9_differ_52 : decode cX9_differ 52 = .ok (.aload_n 0, 1) := by decide +kernel
theorem dX9_differ_53 : decode cX9_differ 53 = .ok (.getfield 19, 3) := by decide +kernel
theorem dX9_differ_56 : decode cX9_differ 56 = .ok (.bipush 100, 2) := by decide +kernel
theorem dX9_differ_58 : decode cX9_differ 58 = .ok (.iload_n 1, 1) := by decide +kernel
theorem dX9_differ_59 : decode cX9_differ 59 = .ok (.imul, 1) := by decide +kernel
theorem dX9_differ_60 : decode cX9_differ 60 = .ok (.iload_n 3, 1) := by decide +kernel
theorem dX9_differ_61 : decode cX9_differ 61 = .ok (.iadd, 1) := by decide +kernel
theorem dX9_differ_62 : decode cX9_differ 62 = .ok (.iaload, 1) := by decide +kernel
theorem dX9_differ_63 : decode cX9_differ 63 = .ok (.iastore, 1) := by decide +kernel
theorem dX9_differ_64 : decode cX9_differ 64 = .ok (.iinc 3 1, 3) := by decide +kernel
theorem dX9_differ_67 : decode cX9_differ 67 = .ok (.goto (-26), 3) := by decide +kernel
theorem dX9_differ_70 : decode cX9_differ 70 = .ok (.aload_n 0, 1) := by decide +kernel
theorem dX9_differ_71 : decode cX9_differ 71 = .ok (.aload_n 0, 1) := by decide +kernel
theorem dX9_differ_72 : decode cX9_differ 72 = .ok (.getfield 7, 3) := by decide +kernel
theorem dX9_differ_75 : decode cX9_differ 75 = .ok (.iconst 0, 1) := by decide +kernel
theorem dX9_differ_76 : decode cX9_differ 76 = .ok (.invokevirtual 165, 3) := by decide +kernel
theorem dX9_differ_79 : decode cX9_differ 79 = .ok (.aload_n 0, 1) := by decide +kernel
theorem dX9_differ_80 : decode cX9_differ 80 = .ok (.aload_n 0, 1) := by decide +kernel
theorem dX9_differ_81 : decode cX9_differ 81 = .ok (.getfield 13, 3) := by decide +kernel
theorem dX9_differ_84 : decode cX9_differ 84 = .ok (.iconst 1, 1) := by decide +kernel
theorem dX9_differ_85 : decode cX9_differ 85 = .ok (.invokevirtual 165, 3) := by decide +kernel
theorem dX9_differ_88 : decode cX9_differ 88 = .ok (.iconst 0, 1) := by decide +kernel
theorem dX9_differ_89 : decode cX9_differ 89 = .ok (.istore_n 3, 1) := by decide +kernel
theorem dX9_differ_90 : decode cX9_differ 90 = .ok (.bipush (-9), 2) := by decide +kernel
theorem dX9_differ_92 : decode cX9_differ 92 = .ok (.istore 4, 2) := by decide +kernel
theorem dX9_differ_94 : decode cX9_differ 94 = .ok (.iconst 0, 1) := by decide +kernel
theorem dX9_differ_95 : decode cX9_differ 95 = .ok (.istore 5, 2) := by decide +kernel
theorem dX9_differ_97 : decode cX9_differ 97 = .ok (.iconst 0, 1) := by decide +kernel
theorem dX9_differ_98 : decode cX9_differ 98 = .ok (.istore 6, 2) := by decide +kernel
theorem dX9_differ_100 : decode cX9_differ 100 = .ok (.bipush 99, 2) := by decide +kernel
theorem dX9_differ_102 : decode cX9_differ 102 = .ok (.istore 7, 2) := by decide +kernel
theorem dX9_differ_104 : decode cX9_differ 104 = .ok (.iload 7, 2) := by decide +kernel
theorem dX9_differ_106 : decode cX9_differ 106 = .ok (.ifCond .lt 104, 3) := by decide +kernel
theorem dX9_differ_109 : decode cX9_differ 109 = .ok (.iload_n 3, 1) := by decide +kernel
theorem dX9_differ_110 : decode cX9_differ 110 = .ok (.aload_n 0, 1) := by decide +kernel
theorem dX9_differ_111 : decode cX9_differ 111 = .ok (.getfield 7, 3) := by decide +kernel
theorem dX9_differ_114 : decode cX9_differ 114 = .ok (.iload 7, 2) := by decide +kernel
theorem dX9_differ_116 : decode cX9_differ 116 = .ok (.iaload, 1) := by decide +kernel
theorem dX9_differ_117 : decode cX9_differ 117 = .ok (.aload_n 0, 1) := by decide +kernel
theorem dX9_differ_118 : decode cX9_differ 118 = .ok (.getfield 13, 3) := by decide +kernel
theorem dX9_differ_121 : decode cX9_differ 121 = .ok (.iload 7, 2) := by decide +kernel
theorem dX9_differ_123 : decode cX9_differ 123 = .ok (.iaload, 1) := by decide +kernel
theorem dX9_differ_124 : decode cX9_differ 124 = .ok (.if_icmp .ne 7, 3) := by decide +kernel
theorem dX9_differ_127 : decode cX9_differ 127 = .ok (.iconst 0, 1) := by decide +kernel
theorem dX9_differ_128 : decode cX9_differ 128 = .ok (.goto 4, 3) := by decide +kernel
theorem dX9_differ_131 : decode cX9_differ 131 = .ok (.iconst 1, 1) := by decide +kernel
theorem dX9_differ_132 : decode cX9_differ 132 = .ok (.iadd, 1) := by decide +kernel
theorem dX9_differ_133 : decode cX9_differ 133 = .ok (.istore_n 3, 1) := by decide +kernel
theorem dX9_differ_134 : decode cX9_differ 134 = .ok (.aload_n 0, 1) := by decide +kernel
theorem dX9_differ_135 : decode cX9_differ 135 = .ok (.getfield 7, 3) := by decide +kernel
theorem dX9_differ_138 : decode cX9_differ 138 = .ok (.iload 7, 2) := by decide +kernel
theorem dX9_differ_140 : decode cX9_differ 140 = .ok (.iaload, 1) := by decide +kernel
theorem dX9_differ_141 : decode cX9_differ 141 = .ok (.aload_n 0, 1) := by decide +kernel
theorem dX9_differ_142 : decode cX9_differ 142 = .ok (.getfield 13, 3) := by decide +kernel
theorem dX9_differ_145 : decode cX9_differ 145 = .ok (.iload 7, 2) := by decide +kernel
theorem dX9_differ_147 : decode cX9_differ 147 = .ok (.iaload, 1) := by decide +kernel
theorem dX9_differ_148 : decode cX9_differ 148 = .ok (.if_icmp .ne 8, 3) := by decide +kernel
theorem dX9_differ_151 : decode cX9_differ 151 = .ok (.iload 4, 2) := by decide +kernel
theorem dX9_differ_153 : decode cX9_differ 153 = .ok (.goto 5, 3) := by decide +kernel
theorem dX9_differ_156 : decode cX9_differ 156 = .ok (.iload 7, 2) := by decide +kernel
theorem dX9_differ_158 : decode cX9_differ 158 = .ok (.istore 4, 2) := by decide +kernel
theorem dX9_differ_160 : decode cX9_differ 160 = .ok (.iload 5, 2) := by decide +kernel
theorem dX9_differ_162 : decode cX9_differ 162 = .ok (.aload_n 0, 1) := by decide +kernel
theorem dX9_differ_163 : decode cX9_differ 163 = .ok (.iload 7, 2) := by decide +kernel
theorem dX9_differ_165 : decode cX9_differ 165 = .ok (.invokevirtual 299, 3) := by decide +kernel
theorem dX9_differ_168 : decode cX9_differ 168 = .ok (.ifCond .eq 7, 3) := by decide +kernel
theorem dX9_differ_171 : decode cX9_differ 171 = .ok (.iconst 1, 1) := by decide +kernel
theorem dX9_differ_172 : decode cX9_differ 172 = .ok (.goto 4, 3) := by decide +kernel
theorem dX9_differ_175 : decode cX9_differ 175 = .ok (.iconst 0, 1) := by decide +kernel
theorem dX9_differ_176 : decode cX9_differ 176 = .ok (.iadd, 1) := by decide +kernel
theorem dX9_differ_177 : decode cX9_differ 177 = .ok (.istore 5, 2) := by decide +kernel
theorem dX9_differ_179 : decode cX9_differ 179 = .ok (.iload 6, 2) := by decide +kernel
theorem dX9_differ_181 : decode cX9_differ 181 = .ok (.aload_n 0, 1) := by decide +kernel
theorem dX9_differ_182 : decode cX9_differ 182 = .ok (.iload 7, 2) := by decide +kernel
theorem dX9_differ_184 : decode cX9_differ 184 = .ok (.invokevirtual 299, 3) := by decide +kernel
theorem dX9_differ_187 : decode cX9_differ 187 = .ok (.ifCond .eq 13, 3) := by decide +kernel
theorem dX9_differ_190 : decode cX9_differ 190 = .ok (.aload_n 0, 1) := by decide +kernel
theorem dX9_differ_191 : decode cX9_differ 191 = .ok (.getfield 44, 3) := by decide +kernel
theorem dX9_differ_194 : decode cX9_differ 194 = .ok (.iload 7, 2) := by decide +kernel
theorem dX9_differ_196 : decode cX9_differ 196 = .ok (.iaload, 1) := by decide +kernel
theorem dX9_differ_197 : decode cX9_differ 197 = .ok (.goto 4, 3) := by decide +kernel
theorem dX9_differ_200 : decode cX9_differ 200 = .ok (.iconst 0, 1) := by decide +kernel
theorem dX9_differ_201 : decode cX9_differ 201 = .ok (.iadd, 1) := by decide +kernel
theorem dX9_differ_202 : decode cX9_differ 202 = .ok (.istore 6, 2) := by decide +kernel
theorem dX9_differ_204 : decode cX9_differ 204 = .ok (.iinc 7 (-1), 3) := by decide +kernel
theorem dX9_differ_207 : decode cX9_differ 207 = .ok (.goto (-103), 3) := by decide +kernel
theorem dX9_differ_210 : decode cX9_differ 210 = .ok (.iload_n 2, 1) := by decide +kernel
theorem dX9_differ_211 : decode cX9_differ 211 = .ok (.ifCond .ne 7, 3) := by decide +kernel
theorem dX9_differ_214 : decode cX9_differ 214 = .ok (.iload_n 3, 1) := by decide +kernel
theorem dX9_differ_215 : decode cX9_differ 215 = .ok (.goto 25, 3) := by decide +kernel
theorem dX9_differ_218 : decode cX9_differ 218 = .ok (.iload_n 2, 1) := by decide +kernel
theorem dX9_differ_219 : decode cX9_differ 219 = .ok (.iconst 1, 1) := by decide +kernel
theorem dX9_differ_220 : decode cX9_differ 220 = .ok (.if_icmp .ne 8, 3) := by decide +kernel
theorem dX9_differ_223 : decode cX9_differ 223 = .ok (.iload 4, 2) := by decide +kernel
theorem dX9_differ_225 : decode cX9_differ 225 = .ok (.goto 15, 3) := by decide +kernel
theorem dX9_differ_228 : decode cX9_differ 228 = .ok (.iload_n 2, 1) := by decide +kernel
theorem dX9_differ_229 : decode cX9_differ 229 = .ok (.iconst 2, 1) := by decide +kernel
theorem dX9_differ_230 : decode cX9_differ 230 = .ok (.if_icmp .ne 8, 3) := by decide +kernel
theorem dX9_differ_233 : decode cX9_differ 233 = .ok (.iload 5, 2) := by decide +kernel
theorem dX9_differ_235 : decode cX9_differ 235 = .ok (.goto 5, 3) := by decide +kernel
theorem dX9_differ_238 : decode cX9_differ 238 = .ok (.iload 6, 2) := by decide +kernel
theorem dX9_differ_240 : decode cX9_differ 240 = .ok (.ireturn, 1) := by decide +kernel
theorem dJ9_floorMod_7cf53_0 : decode cJ9_floorMod_7cf53 0 = .ok (.iload_n 0, 1) := by decide +kernel
theorem dJ9_floorMod_7cf53_1 : decode cJ9_floorMod_7cf53 1 = .ok (.iload_n 1, 1) := by decide +kernel
theorem dJ9_floorMod_7cf53_2 : decode cJ9_floorMod_7cf53 2 = .ok (.irem, 1) := by decide +kernel
theorem dJ9_floorMod_7cf53_3 : decode cJ9_floorMod_7cf53 3 = .ok (.istore_n 2, 1) := by decide +kernel
theorem dJ9_floorMod_7cf53_4 : decode cJ9_floorMod_7cf53 4 = .ok (.iload_n 0, 1) := by decide +kernel
theorem dJ9_floorMod_7cf53_5 : decode cJ9_floorMod_7cf53 5 = .ok (.iload_n 1, 1) := by decide +kernel
theorem dJ9_floorMod_7cf53_6 : decode cJ9_floorMod_7cf53 6 = .ok (.ixor, 1) := by decide +kernel
theorem dJ9_floorMod_7cf53_7 : decode cJ9_floorMod_7cf53 7 = .ok (.ifCond .ge 11, 3) := by decide +kernel
theorem dJ9_floorMod_7cf53_10 : decode cJ9_floorMod_7cf53 10 = .ok (.iload_n 2, 1) := by decide +kernel
theorem dJ9_floorMod_7cf53_11 : decode cJ9_floorMod_7cf53 11 = .ok (.ifCond .eq 7, 3) := by decide +kernel
theorem dJ9_floorMod_7cf53_14 : decode cJ9_floorMod_7cf53 14 = .ok (.iload_n 2, 1) := by decide +kernel
theorem dJ9_floorMod_7cf53_15 : decode cJ9_floorMod_7cf53 15 = .ok (.iload_n 1, 1) := by decide +kernel
theorem dJ9_floorMod_7cf53_16 : decode cJ9_floorMod_7cf53 16 = .ok (.iadd, 1) := by decide +kernel
theorem dJ9_floorMod_7cf53_17 : decode cJ9_floorMod_7cf53 17 = .ok (.ireturn, 1) := by decide +kernel
theorem dJ9_floorMod_7cf53_18 : decode cJ9_floorMod_7cf53 18 = .ok (.iload_n 2, 1) := by decide +kernel
theorem dJ9_floorMod_7cf53_19 : decode cJ9_floorMod_7cf53 19 = .ok (.ireturn, 1) := by decide +kernel
theorem dJ9_max_7cf53_0 : decode cJ9_max_7cf53 0 = .ok (.iload_n 0, 1) := by decide +kernel
theorem dJ9_max_7cf53_1 : decode cJ9_max_7cf53 1 = .ok (.iload_n 1, 1) := by decide +kernel
theorem dJ9_max_7cf53_2 : decode cJ9_max_7cf53 2 = .ok (.if_icmp .lt 7, 3) := by decide +kernel
theorem dJ9_max_7cf53_5 : decode cJ9_max_7cf53 5 = .ok (.iload_n 0, 1) := by decide +kernel
theorem dJ9_max_7cf53_6 : decode cJ9_max_7cf53 6 = .ok (.goto 4, 3) := by decide +kernel
theorem dJ9_max_7cf53_9 : decode cJ9_max_7cf53 9 = .ok (.iload_n 1, 1) := by decide +kernel
theorem dJ9_max_7cf53_10 : decode cJ9_max_7cf53 10 = .ok (.ireturn, 1) := by decide +kernel
theorem dJ9_min_7cf53_0 : decode cJ9_min_7cf53 0 = .ok (.iload_n 0, 1) := by decide +kernel
theorem dJ9_min_7cf53_1 : decode cJ9_min_7cf53 1 = .ok (.iload_n 1, 1) := by decide +kernel
theorem dJ9_min_7cf53_2 : decode cJ9_min_7cf53 2 = .ok (.if_icmp .gt 7, 3) := by decide +kernel
theorem dJ9_min_7cf53_5 : decode cJ9_min_7cf53 5 = .ok (.iload_n 0, 1) := by decide +kernel
theorem dJ9_min_7cf53_6 : decode cJ9_min_7cf53 6 = .ok (.goto 4, 3) := by decide +kernel
theorem dJ9_min_7cf53_9 : decode cJ9_min_7cf53 9 = .ok (.iload_n 1, 1) := by decide +kernel
theorem dJ9_min_7cf53_10 : decode cJ9_min_7cf53 10 = .ok (.ireturn, 1) := by decide +kernel
theorem dJ7_fill_53178_0 : decode cJ7_fill_53178 0 = .ok (.iconst 0, 1) := by decide +kernel
theorem dJ7_fill_53178_1 : decode cJ7_fill_53178 1 = .ok (.istore_n 2, 1) := by decide +kernel
theorem dJ7_fill_53178_2 : decode cJ7_fill_53178 2 = .ok (.aload_n 0, 1) := by decide +kernel
theorem dJ7_fill_53178_3 : decode cJ7_fill_53178 3 = .ok (.arraylength, 1) := by decide +kernel
theorem dJ7_fill_53178_4 : decode cJ7_fill_53178 4 = .ok (.istore_n 3, 1) := by decide +kernel
theorem dJ7_fill_53178_5 : decode cJ7_fill_53178 5 = .ok (.iload_n 2, 1) := by decide +kernel
theorem dJ7_fill_53178_6 : decode cJ7_fill_53178 6 = .ok (.iload_n 3, 1) := by decide +kernel
theorem dJ7_fill_53178_7 : decode cJ7_fill_53178 7 = .ok (.if_icmp .ge 13, 3) := by decide +kernel
theorem dJ7_fill_53178_10 : decode cJ7_fill_53178 10 = .ok (.aload_n 0, 1) := by decide +kernel
theorem dJ7_fill_53178_11 : decode cJ7_fill_53178 11 = .ok (.iload_n 2, 1) := by decide +kernel
theorem dJ7_fill_53178_12 : decode cJ7_fill_53178 12 = .ok (.iload_n 1, 1) := by decide +kernel
theorem dJ7_fill_53178_13 : decode cJ7_fill_53178 13 = .ok (.iastore, 1) := by decide +kernel
theorem dJ7_fill_53178_14 : decode cJ7_fill_53178 14 = .ok (.iinc 2 1, 3) := by decide +kernel
theorem dJ7_fill_53178_17 : decode cJ7_fill_53178 17 = .ok (.goto (-12), 3) := by decide +kernel
theorem dJ7_fill_53178_20 : decode cJ7_fill_53178 20 = .ok (.return_, 1) := by decide +kernel
theorem dL_law_0 : decode cL_law 0 = .ok (.new 7, 3) := by decide +kernel
theorem dL_law_3 : decode cL_law 3 = .ok (.dup, 1) := by decide +kernel
theorem dL_law_4 : decode cL_law 4 = .ok (.invokespecial 9, 3) := by decide +kernel
theorem dL_law_7 : decode cL_law 7 = .ok (.astore_n 1, 1) := by decide +kernel
theorem dL_law_8 : decode cL_law 8 = .ok (.new 10, 3) := by decide +kernel
theorem dL_law_11 : decode cL_law 11 = .ok (.dup, 1) := by decide +kernel
theorem dL_law_12 : decode cL_law 12 = .ok (.invokespecial 12, 3) := by decide +kernel
theorem dL_law_15 : decode cL_law 15 = .ok (.astore_n 2, 1) := by decide +kernel
theorem dL_law_16 : decode cL_law 16 = .ok (.iconst 0, 1) := by decide +kernel
theorem dL_law_17 : decode cL_law 17 = .ok (.istore_n 3, 1) := by decide +kernel
theorem dL_law_18 : decode cL_law 18 = .ok (.iload_n 3, 1) := by decide +kernel
theorem dL_law_19 : decode cL_law 19 = .ok (.aload_n 0, 1) := by decide +kernel
theorem dL_law_20 : decode cL_law 20 = .ok (.arraylength, 1) := by decide +kernel
theorem dL_law_21 : decode cL_law 21 = .ok (.iconst 4, 1) := by decide +kernel
theorem dL_law_22 : decode cL_law 22 = .ok (.isub, 1) := by decide +kernel
theorem dL_law_23 : decode cL_law 23 = .ok (.if_icmp .gt 990, 3) := by decide +kernel
theorem dL_law_26 : decode cL_law 26 = .ok (.aload_n 0, 1) := by decide +kernel
theorem dL_law_27 : decode cL_law 27 = .ok (.iload_n 3, 1) := by decide +kernel
theorem dL_law_28 : decode cL_law 28 = .ok (.iaload, 1) := by decide +kernel
theorem dL_law_29 : decode cL_law 29 = .ok (.bipush 31, 2) := by decide +kernel
theorem dL_law_31 : decode cL_law 31 = .ok (.iand, 1) := by decide +kernel
theorem dL_law_32 : decode cL_law 32 = .ok (.tableswitch 975 0 26 #[124, 157, 180, 203, 266, 279, 302, 335, 358, 401, 444, 477, 510, 533, 566, 589, 602, 625, 658, 701, 744, 777, 810, 833, 896, 919, 942], 124) := by decide +kernel
theorem dL_law_156 : decode cL_law 156 = .ok (.aload_n 1, 1) := by decide +kernel
theorem dL_law_157 : decode cL_law 157 = .ok (.aload_n 0, 1) := by decide +kernel
theorem dL_law_158 : decode cL_law 158 = .ok (.iload_n 3, 1) := by decide +kernel
theorem dL_law_159 : decode cL_law 159 = .ok (.iconst 1, 1) := by decide +kernel
theorem dL_law_160 : decode cL_law 160 = .ok (.iadd, 1) := by decide +kernel
theorem dL_law_161 : decode cL_law 161 = .ok (.iaload, 1) := by decide +kernel
theorem dL_law_162 : decode cL_law 162 = .ok (.aload_n 0, 1) := by decide +kernel
theorem dL_law_163 : decode cL_law 163 = .ok (.iload_n 3, 1) := by decide +kernel
theorem dL_law_164 : decode cL_law 164 = .ok (.iconst 2, 1) := by decide +kernel
theorem dL_law_165 : decode cL_law 165 = .ok (.iadd, 1) := by decide +kernel
theorem dL_law_166 : decode cL_law 166 = .ok (.iaload, 1) := by decide +kernel
theorem dL_law_167 : decode cL_law 167 = .ok (.invokevirtual 13, 3) := by decide +kernel
theorem dL_law_170 : decode cL_law 170 = .ok (.aload_n 2, 1) := by decide +kernel
theorem dL_law_171 : decode cL_law 171 = .ok (.aload_n 0, 1) := by decide +kernel
theorem dL_law_172 : decode cL_law 172 = .ok (.iload_n 3, 1) := by decide +kernel
theorem dL_law_173 : decode cL_law 173 = .ok (.iconst 1, 1) := by decide +kernel
theorem dL_law_174 : decode cL_law 174 = .ok (.iadd, 1) := by decide +kernel
theorem dL_law_175 : decode cL_law 175 = .ok (.iaload, 1) := by decide +kernel
theorem dL_law_176 : decode cL_law 176 = .ok (.aload_n 0, 1) := by decide +kernel
theorem dL_law_177 : decode cL_law 177 = .ok (.iload_n 3, 1) := by decide +kernel
theorem dL_law_178 : decode cL_law 178 = .ok (.iconst 2, 1) := by decide +kernel
theorem dL_law_179 : decode cL_law 179 = .ok (.iadd, 1) := by decide +kernel
theorem dL_law_180 : decode cL_law 180 = .ok (.iaload, 1) := by decide +kernel
theorem dL_law_181 : decode cL_law 181 = .ok (.invokevirtual 17, 3) := by decide +kernel
theorem dL_law_184 : decode cL_law 184 = .ok (.if_icmp .eq 823, 3) := by decide +kernel
theorem dL_law_187 : decode cL_law 187 = .ok (.iconst 0, 1) := by decide +kernel
theorem dL_law_188 : decode cL_law 188 = .ok (.ireturn, 1) := by decide +kernel
theorem dL_law_189 : decode cL_law 189 = .ok (.aload_n 1, 1) := by decide +kernel
theorem dL_law_190 : decode cL_law 190 = .ok (.aload_n 0, 1) := by decide +kernel
theorem dL_law_191 : decode cL_law 191 = .ok (.iload_n 3, 1) := by decide +kernel
theorem dL_law_192 : decode cL_law 192 = .ok (.iconst 1, 1) := by decide +kernel
theorem dL_law_193 : decode cL_law 193 = .ok (.iadd, 1) := by decide +kernel
theorem dL_law_194 : decode cL_law 194 = .ok (.iaload, 1) := by decide +kernel
theorem dL_law_195 : decode cL_law 195 = .ok (.invokevirtual 18, 3) := by decide +kernel
theorem dL_law_198 : decode cL_law 198 = .ok (.aload_n 2, 1) := by decide +kernel
theorem dL_law_199 : decode cL_law 199 = .ok (.aload_n 0, 1) := by decide +kernel
theorem dL_law_200 : decode cL_law 200 = .ok (.iload_n 3, 1) := by decide +kernel
theorem dL_law_201 : decode cL_law 201 = .ok (.iconst 1, 1) := by decide +kernel
theorem dL_law_202 : decode cL_law 202 = .ok (.iadd, 1) := by decide +kernel
theorem dL_law_203 : decode cL_law 203 = .ok (.iaload, 1) := by decide +kernel
theorem dL_law_204 : decode cL_law 204 = .ok (.invokevirtual 22, 3) := by decide +kernel
theorem dL_law_207 : decode cL_law 207 = .ok (.if_icmp .eq 800, 3) := by decide +kernel
theorem dL_law_210 : decode cL_law 210 = .ok (.iconst 0, 1) := by decide +kernel
theorem dL_law_211 : decode cL_law 211 = .ok (.ireturn, 1) := by decide +kernel
theorem dL_law_212 : decode cL_law 212 = .ok (.aload_n 1, 1) := by decide +kernel
theorem dL_law_213 : decode cL_law 213 = .ok (.aload_n 0, 1) := by decide +kernel
theorem dL_law_214 : decode cL_law 214 = .ok (.iload_n 3, 1) := by decide +kernel
theorem dL_law_215 : decode cL_law 215 = .ok (.iconst 1, 1) := by decide +kernel
theorem dL_law_216 : decode cL_law 216 = .ok (.iadd, 1) := by decide +kernel
theorem dL_law_217 : decode cL_law 217 = .ok (.iaload, 1) := by decide +kernel
theorem dL_law_218 : decode cL_law 218 = .ok (.invokevirtual 23, 3) := by decide +kernel
theorem dL_law_221 : decode cL_law 221 = .ok (.aload_n 2, 1) := by decide +kernel
theorem dL_law_222 : decode cL_law 222 = .ok (.aload_n 0, 1) := by decide +kernel
theorem dL_law_223 : decode cL_law 223 = .ok (.iload_n 3, 1) := by decide +kernel
theorem dL_law_224 : decode cL_law 224 = .ok (.iconst 1, 1) := by decide +kernel
theorem dL_law_225 : decode cL_law 225 = .ok (.iadd, 1) := by decide +kernel
theorem dL_law_226 : decode cL_law 226 = .ok (.iaload, 1) := by decide +kernel
theorem dL_law_227 : decode cL_law 227 = .ok (.invokevirtual 26, 3) := by decide +kernel
theorem dL_law_230 : decode cL_law 230 = .ok (.if_icmp .eq 777, 3) := by decide +kernel
theorem dL_law_233 : decode cL_law 233 = .ok (.iconst 0, 1) := by decide +kernel
theorem dL_law_234 : decode cL_law 234 = .ok (.ireturn, 1) := by decide +kernel
theorem dL_law_235 : decode cL_law 235 = .ok (.aload_n 1, 1) := by decide +kernel
theorem dL_law_236 : decode cL_law 236 = .ok (.aload_n 0, 1) := by decide +kernel
theorem dL_law_237 : decode cL_law 237 = .ok (.iload_n 3, 1) := by decide +kernel
theorem dL_law_238 : decode cL_law 238 = .ok (.iconst 1, 1) := by decide +kernel
theorem dL_law_239 : decode cL_law 239 = .ok (.iadd, 1) := by decide +kernel
theorem dL_law_240 : decode cL_law 240 = .ok (.iaload, 1) := by decide +kernel
theorem dL_law_241 : decode cL_law 241 = .ok (.aload_n 0, 1) := by decide +kernel
theorem dL_law_242 : decode cL_law 242 = .ok (.iload_n 3, 1) := by decide +kernel
theorem dL_law_243 : decode cL_law 243 = .ok (.iconst 2, 1) := by decide +kernel
theorem dL_law_244 : decode cL_law 244 = .ok (.iadd, 1) := by decide +kernel
theorem dL_law_245 : decode cL_law 245 = .ok (.iaload, 1) := by decide +kernel
theorem dL_law_246 : decode cL_law 246 = .ok (.i2l, 1) := by decide +kernel
theorem dL_law_247 : decode cL_law 247 = .ok (.bipush 32, 2) := by decide +kernel
theorem dL_law_249 : decode cL_law 249 = .ok (.lshl, 1) := by decide +kernel
theorem dL_law_250 : decode cL_law 250 = .ok (.aload_n 0, 1) := by decide +kernel
theorem dL_law_251 : decode cL_law 251 = .ok (.iload_n 3, 1) := by decide +kernel
theorem dL_law_252 : decode cL_law 252 = .ok (.iconst 3, 1) := by decide +kernel
theorem dL_law_253 : decode cL_law 253 = .ok (.iadd, 1) := by decide +kernel
theorem dL_law_254 : decode cL_law 254 = .ok (.iaload, 1) := by decide +kernel
theorem dL_law_255 : decode cL_law 255 = .ok (.i2l, 1) := by decide +kernel
theorem dL_law_256 : decode cL_law 256 = .ok (.ldc2_w 27, 3) := by decide +kernel
theorem dL_law_259 : decode cL_law 259 = .ok (.land, 1) := by decide +kernel
theorem dL_law_260 : decode cL_law 260 = .ok (.lor, 1) := by decide +kernel
theorem dL_law_261 : decode cL_law 261 = .ok (.invokevirtual 29, 3) := by decide +kernel
theorem dL_law_264 : decode cL_law 264 = .ok (.aload_n 2, 1) := by decide +kernel
theorem dL_law_265 : decode cL_law 265 = .ok (.aload_n 0, 1) := by decide +kernel
theorem dL_law_266 : decode cL_law 266 = .ok (.iload_n 3, 1) := by decide +kernel
theorem dL_law_267 : decode cL_law 267 = .ok (.iconst 1, 1) := by decide +kernel
theorem dL_law_268 : decode cL_law 268 = .ok (.iadd, 1) := by decide +kernel
theorem dL_law_269 : decode cL_law 269 = .ok (.iaload, 1) := by decide +kernel
theorem dL_law_270 : decode cL_law 270 = .ok (.aload_n 0, 1) := by decide +kernel
theorem dL_law_271 : decode cL_law 271 = .ok (.iload_n 3, 1) := by decide +kernel
theorem dL_law_272 : decode cL_law 272 = .ok (.iconst 2, 1) := by decide +kernel
theorem dL_law_273 : decode cL_law 273 = .ok (.iadd, 1) := by decide +kernel
theorem dL_law_274 : decode cL_law 274 = .ok (.iaload, 1) := by decide +kernel
theorem dL_law_275 : decode cL_law 275 = .ok (.i2l, 1) := by decide +kernel
theorem dL_law_276 : decode cL_law 276 = .ok (.bipush 32, 2) := by decide +kernel
theorem dL_law_278 : decode cL_law 278 = .ok (.lshl, 1) := by decide +kernel
theorem dL_law_279 : decode cL_law 279 = .ok (.aload_n 0, 1) := by decide +kernel
theorem dL_law_280 : decode cL_law 280 = .ok (.iload_n 3, 1) := by decide +kernel
theorem dL_law_281 : decode cL_law 281 = .ok (.iconst 3, 1) := by decide +kernel
theorem dL_law_282 : decode cL_law 282 = .ok (.iadd, 1) := by decide +kernel
theorem dL_law_283 : decode cL_law 283 = .ok (.iaload, 1) := by decide +kernel
theorem dL_law_284 : decode cL_law 284 = .ok (.i2l, 1) := by decide +kernel
theorem dL_law_285 : decode cL_law 285 = .ok (.ldc2_w 27, 3) := by decide +kernel
theorem dL_law_288 : decode cL_law 288 = .ok (.land, 1) := by decide +kernel
theorem dL_law_289 : decode cL_law 289 = .ok (.lor, 1) := by decide +kernel
theorem dL_law_290 : decode cL_law 290 = .ok (.invokevirtual 33, 3) := by decide +kernel
theorem dL_law_293 : decode cL_law 293 = .ok (.if_icmp .eq 714, 3) := by decide +kernel
theorem dL_law_296 : decode cL_law 296 = .ok (.iconst 0, 1) := by decide +kernel
theorem dL_law_297 : decode cL_law 297 = .ok (.ireturn, 1) := by decide +kernel
theorem dL_law_298 : decode cL_law 298 = .ok (.aload_n 1, 1) := by decide +kernel
theorem dL_law_299 : decode cL_law 299 = .ok (.invokevirtual 34, 3) := by decide +kernel
theorem dL_law_302 : decode cL_law 302 = .ok (.aload_n 2, 1) := by decide +kernel
theorem dL_law_303 : decode cL_law 303 = .ok (.invokevirtual 38, 3) := by decide +kernel
theorem dL_law_306 : decode cL_law 306 = .ok (.if_icmp .eq 701, 3) := by decide +kernel
theorem dL_law_309 : decode cL_law 309 = .ok (.iconst 0, 1) := by decide +kernel
theorem dL_law_310 : decode cL_law 310 = .ok (.ireturn, 1) := by decide +kernel
theorem dL_law_311 : decode cL_law 311 = .ok (.aload_n 1, 1) := by decide +kernel
theorem dL_law_312 : decode cL_law 312 = .ok (.aload_n 0, 1) := by decide +kernel
theorem dL_law_313 : decode cL_law 313 = .ok (.iload_n 3, 1) := by decide +kernel
theorem dL_law_314 : decode cL_law 314 = .ok (.iconst 1, 1) := by decide +kernel
theorem dL_law_315 : decode cL_law 315 = .ok (.iadd, 1) := by decide +kernel
theorem dL_law_316 : decode cL_law 316 = .ok (.iaload, 1) := by decide +kernel
theorem dL_law_317 : decode cL_law 317 = .ok (.invokevirtual 39, 3) := by decide +kernel
theorem dL_law_320 : decode cL_law 320 = .ok (.aload_n 2, 1) := by decide +kernel
theorem dL_law_321 : decode cL_law 321 = .ok (.aload_n 0, 1) := by decide +kernel
theorem dL_law_322 : decode cL_law 322 = .ok (.iload_n 3, 1) := by decide +kernel
theorem dL_law_323 : decode cL_law 323 = .ok (.iconst 1, 1) := by decide +kernel
theorem dL_law_324 : decode cL_law 324 = .ok (.iadd, 1) := by decide +kernel
theorem dL_law_325 : decode cL_law 325 = .ok (.iaload, 1) := by decide +kernel
theorem dL_law_326 : decode cL_law 326 = .ok (.invokevirtual 42, 3) := by decide +kernel
theorem dL_law_329 : decode cL_law 329 = .ok (.if_icmp .eq 678, 3) := by decide +kernel
theorem dL_law_332 : decode cL_law 332 = .ok (.iconst 0, 1) := by decide +kernel
theorem dL_law_333 : decode cL_law 333 = .ok (.ireturn, 1) := by decide +kernel
theorem dL_law_334 : decode cL_law 334 = .ok (.aload_n 1, 1) := by decide +kernel
theorem dL_law_335 : decode cL_law 335 = .ok (.aload_n 0, 1) := by decide +kernel
theorem dL_law_336 : decode cL_law 336 = .ok (.iload_n 3, 1) := by decide +kernel
theorem dL_law_337 : decode cL_law 337 = .ok (.iconst 1, 1) := by decide +kernel
theorem dL_law_338 : decode cL_law 338 = .ok (.iadd, 1) := by decide +kernel
theorem dL_law_339 : decode cL_law 339 = .ok (.iaload, 1) := by decide +kernel
theorem dL_law_340 : decode cL_law 340 = .ok (.aload_n 0, 1) := by decide +kernel
theorem dL_law_341 : decode cL_law 341 = .ok (.iload_n 3, 1) := by decide +kernel
theorem dL_law_342 : decode cL_law 342 = .ok (.iconst 2, 1) := by decide +kernel
theorem dL_law_343 : decode cL_law 343 = .ok (.iadd, 1) := by decide +kernel
theorem dL_law_344 : decode cL_law 344 = .ok (.iaload, 1) := by decide +kernel
theorem dL_law_345 : decode cL_law 345 = .ok (.invokevirtual 43, 3) := by decide +kernel
theorem dL_law_348 : decode cL_law 348 = .ok (.aload_n 2, 1) := by decide +kernel
theorem dL_law_349 : decode cL_law 349 = .ok (.aload_n 0, 1) := by decide +kernel
theorem dL_law_350 : decode cL_law 350 = .ok (.iload_n 3, 1) := by decide +kernel
theorem dL_law_351 : decode cL_law 351 = .ok (.iconst 1, 1) := by decide +kernel
theorem dL_law_352 : decode cL_law 352 = .ok (.iadd, 1) := by decide +kernel
theorem dL_law_353 : decode cL_law 353 = .ok (.iaload, 1) := by decide +kernel
theorem dL_law_354 : decode cL_law 354 = .ok (.aload_n 0, 1) := by decide +kernel
theorem dL_law_355 : decode cL_law 355 = .ok (.iload_n 3, 1) := by decide +kernel
theorem dL_law_356 : decode cL_law 356 = .ok (.iconst 2, 1) := by decide +kernel
theorem dL_law_357 : decode cL_law 357 = .ok (.iadd, 1) := by decide +kernel
theorem dL_law_358 : decode cL_law 358 = .ok (.iaload, 1) := by decide +kernel
theorem dL_law_359 : decode cL_law 359 = .ok (.invokevirtual 46, 3) := by decide +kernel
theorem dL_law_362 : decode cL_law 362 = .ok (.if_icmp .eq 645, 3) := by decide +kernel
theorem dL_law_365 : decode cL_law 365 = .ok (.iconst 0, 1) := by decide +kernel
theorem dL_law_366 : decode cL_law 366 = .ok (.ireturn, 1) := by decide +kernel
theorem dL_law_367 : decode cL_law 367 = .ok (.aload_n 1, 1) := by decide +kernel
theorem dL_law_368 : decode cL_law 368 = .ok (.aload_n 0, 1) := by decide +kernel
theorem dL_law_369 : decode cL_law 369 = .ok (.iload_n 3, 1) := by decide +kernel
theorem dL_law_370 : decode cL_law 370 = .ok (.iconst 1, 1) := by decide +kernel
theorem dL_law_371 : decode cL_law 371 = .ok (.iadd, 1) := by decide +kernel
theorem dL_law_372 : decode cL_law 372 = .ok (.iaload, 1) := by decide +kernel
theorem dL_law_373 : decode cL_law 373 = .ok (.invokevirtual 47, 3) := by decide +kernel
theorem dL_law_376 : decode cL_law 376 = .ok (.aload_n 2, 1) := by decide +kernel
theorem dL_law_377 : decode cL_law 377 = .ok (.aload_n 0, 1) := by decide +kernel
theorem dL_law_378 : decode cL_law 378 = .ok (.iload_n 3, 1) := by decide +kernel
theorem dL_law_379 : decode cL_law 379 = .ok (.iconst 1, 1) := by decide +kernel
theorem dL_law_380 : decode cL_law 380 = .ok (.iadd, 1) := by decide +kernel
theorem dL_law_381 : decode cL_law 381 = .ok (.iaload, 1) := by decide +kernel
theorem dL_law_382 : decode cL_law 382 = .ok (.invokevirtual 50, 3) := by decide +kernel
theorem dL_law_385 : decode cL_law 385 = .ok (.if_icmp .eq 622, 3) := by decide +kernel
theorem dL_law_388 : decode cL_law 388 = .ok (.iconst 0, 1) := by decide +kernel
theorem dL_law_389 : decode cL_law 389 = .ok (.ireturn, 1) := by decide +kernel
theorem dL_law_390 : decode cL_law 390 = .ok (.aload_n 1, 1) := by decide +kernel
theorem dL_law_391 : decode cL_law 391 = .ok (.aload_n 0, 1) := by decide +kernel
theorem dL_law_392 : decode cL_law 392 = .ok (.iload_n 3, 1) := by decide +kernel
theorem dL_law_393 : decode cL_law 393 = .ok (.iconst 1, 1) := by decide +kernel
theorem dL_law_394 : decode cL_law 394 = .ok (.iadd, 1) := by decide +kernel
theorem dL_law_395 : decode cL_law 395 = .ok (.iaload, 1) := by decide +kernel
theorem dL_law_396 : decode cL_law 396 = .ok (.aload_n 0, 1) := by decide +kernel
theorem dL_law_397 : decode cL_law 397 = .ok (.iload_n 3, 1) := by decide +kernel
theorem dL_law_398 : decode cL_law 398 = .ok (.iconst 2, 1) := by decide +kernel
theorem dL_law_399 : decode cL_law 399 = .ok (.iadd, 1) := by decide +kernel
theorem dL_law_400 : decode cL_law 400 = .ok (.iaload, 1) := by decide +kernel
theorem dL_law_401 : decode cL_law 401 = .ok (.aload_n 0, 1) := by decide +kernel
theorem dL_law_402 : decode cL_law 402 = .ok (.iload_n 3, 1) := by decide +kernel
theorem dL_law_403 : decode cL_law 403 = .ok (.iconst 3, 1) := by decide +kernel
theorem dL_law_404 : decode cL_law 404 = .ok (.iadd, 1) := by decide +kernel
theorem dL_law_405 : decode cL_law 405 = .ok (.iaload, 1) := by decide +kernel
theorem dL_law_406 : decode cL_law 406 = .ok (.invokevirtual 51, 3) := by decide +kernel
theorem dL_law_409 : decode cL_law 409 = .ok (.aload_n 2, 1) := by decide +kernel
theorem dL_law_410 : decode cL_law 410 = .ok (.aload_n 0, 1) := by decide +kernel
theorem dL_law_411 : decode cL_law 411 = .ok (.iload_n 3, 1) := by decide +kernel
theorem dL_law_412 : decode cL_law 412 = .ok (.iconst 1, 1) := by decide +kernel
theorem dL_law_413 : decode cL_law 413 = .ok (.iadd, 1) := by decide +kernel
theorem dL_law_414 : decode cL_law 414 = .ok (.iaload, 1) := by decide +kernel
theorem dL_law_415 : decode cL_law 415 = .ok (.aload_n 0, 1) := by decide +kernel
theorem dL_law_416 : decode cL_law 416 = .ok (.iload_n 3, 1) := by decide +kernel
theorem dL_law_417 : decode cL_law 417 = .ok (.iconst 2, 1) := by decide +kernel
theorem dL_law_418 : decode cL_law 418 = .ok (.iadd, 1) := by decide +kernel
theorem dL_law_419 : decode cL_law 419 = .ok (.iaload, 1) := by decide +kernel
theorem dL_law_420 : decode cL_law 420 = .ok (.aload_n 0, 1) := by decide +kernel
theorem dL_law_421 : decode cL_law 421 = .ok (.iload_n 3, 1) := by decide +kernel
theorem dL_law_422 : decode cL_law 422 = .ok (.iconst 3, 1) := by decide +kernel
theorem dL_law_423 : decode cL_law 423 = .ok (.iadd, 1) := by decide +kernel
theorem dL_law_424 : decode cL_law 424 = .ok (.iaload, 1) := by decide +kernel
theorem dL_law_425 : decode cL_law 425 = .ok (.invokevirtual 55, 3) := by decide +kernel
theorem dL_law_428 : decode cL_law 428 = .ok (.if_icmp .eq 579, 3) := by decide +kernel
theorem dL_law_431 : decode cL_law 431 = .ok (.iconst 0, 1) := by decide +kernel
theorem dL_law_432 : decode cL_law 432 = .ok (.ireturn, 1) := by decide +kernel
theorem dL_law_433 : decode cL_law 433 = .ok (.aload_n 1, 1) := by decide +kernel
theorem dL_law_434 : decode cL_law 434 = .ok (.aload_n 0, 1) := by decide +kernel
theorem dL_law_435 : decode cL_law 435 = .ok (.iload_n 3, 1) := by decide +kernel
theorem dL_law_436 : decode cL_law 436 = .ok (.iconst 1, 1) := by decide +kernel
theorem dL_law_437 : decode cL_law 437 = .ok (.iadd, 1) := by decide +kernel
theorem dL_law_438 : decode cL_law 438 = .ok (.iaload, 1) := by decide +kernel
theorem dL_law_439 : decode cL_law 439 = .ok (.aload_n 0, 1) := by decide +kernel
theorem dL_law_440 : decode cL_law 440 = .ok (.iload_n 3, 1) := by decide +kernel
theorem dL_law_441 : decode cL_law 441 = .ok (.iconst 2, 1) := by decide +kernel
theorem dL_law_442 : decode cL_law 442 = .ok (.iadd, 1) := by decide +kernel
theorem dL_law_443 : decode cL_law 443 = .ok (.iaload, 1) := by decide +kernel
theorem dL_law_444 : decode cL_law 444 = .ok (.aload_n 0, 1) := by decide +kernel
theorem dL_law_445 : decode cL_law 445 = .ok (.iload_n 3, 1) := by decide +kernel
theorem dL_law_446 : decode cL_law 446 = .ok (.iconst 3, 1) := by decide +kernel
theorem dL_law_447 : decode cL_law 447 = .ok (.iadd, 1) := by decide +kernel
theorem dL_law_448 : decode cL_law 448 = .ok (.iaload, 1) := by decide +kernel
theorem dL_law_449 : decode cL_law 449 = .ok (.invokevirtual 56, 3) := by decide +kernel
theorem dL_law_452 : decode cL_law 452 = .ok (.aload_n 2, 1) := by decide +kernel
theorem dL_law_453 : decode cL_law 453 = .ok (.aload_n 0, 1) := by decide +kernel
theorem dL_law_454 : decode cL_law 454 = .ok (.iload_n 3, 1) := by decide +kernel
theorem dL_law_455 : decode cL_law 455 = .ok (.iconst 1, 1) := by decide +kernel
theorem dL_law_456 : decode cL_law 456 = .ok (.iadd, 1) := by decide +kernel
theorem dL_law_457 : decode cL_law 457 = .ok (.iaload, 1) := by decide +kernel
theorem dL_law_458 : decode cL_law 458 = .ok (.aload_n 0, 1) := by decide +kernel
theorem dL_law_459 : decode cL_law 459 = .ok (.iload_n 3, 1) := by decide +kernel
theorem dL_law_460 : decode cL_law 460 = .ok (.iconst 2, 1) := by decide +kernel
theorem dL_law_461 : decode cL_law 461 = .ok (.iadd, 1) := by decide +kernel
theorem dL_law_462 : decode cL_law 462 = .ok (.iaload, 1) := by decide +kernel
theorem dL_law_463 : decode cL_law 463 = .ok (.aload_n 0, 1) := by decide +kernel
theorem dL_law_464 : decode cL_law 464 = .ok (.iload_n 3, 1) := by decide +kernel
theorem dL_law_465 : decode cL_law 465 = .ok (.iconst 3, 1) := by decide +kernel
theorem dL_law_466 : decode cL_law 466 = .ok (.iadd, 1) := by decide +kernel
theorem dL_law_467 : decode cL_law 467 = .ok (.iaload, 1) := by decide +kernel
theorem dL_law_468 : decode cL_law 468 = .ok (.invokevirtual 59, 3) := by decide +kernel
theorem dL_law_471 : decode cL_law 471 = .ok (.if_icmp .eq 536, 3) := by decide +kernel
theorem dL_law_474 : decode cL_law 474 = .ok (.iconst 0, 1) := by decide +kernel
theorem dL_law_475 : decode cL_law 475 = .ok (.ireturn, 1) := by decide +kernel
theorem dL_law_476 : decode cL_law 476 = .ok (.aload_n 1, 1) := by decide +kernel
theorem dL_law_477 : decode cL_law 477 = .ok (.aload_n 0, 1) := by decide +kernel
theorem dL_law_478 : decode cL_law 478 = .ok (.iload_n 3, 1) := by decide +kernel
theorem dL_law_479 : decode cL_law 479 = .ok (.iconst 1, 1) := by decide +kernel
theorem dL_law_480 : decode cL_law 480 = .ok (.iadd, 1) := by decide +kernel
theorem dL_law_481 : decode cL_law 481 = .ok (.iaload, 1) := by decide +kernel
theorem dL_law_482 : decode cL_law 482 = .ok (.aload_n 0, 1) := by decide +kernel
theorem dL_law_483 : decode cL_law 483 = .ok (.iload_n 3, 1) := by decide +kernel
theorem dL_law_484 : decode cL_law 484 = .ok (.iconst 2, 1) := by decide +kernel
theorem dL_law_485 : decode cL_law 485 = .ok (.iadd, 1) := by decide +kernel
theorem dL_law_486 : decode cL_law 486 = .ok (.iaload, 1) := by decide +kernel
theorem dL_law_487 : decode cL_law 487 = .ok (.invokevirtual 60, 3) := by decide +kernel
theorem dL_law_490 : decode cL_law 490 = .ok (.aload_n 2, 1) := by decide +kernel
theorem dL_law_491 : decode cL_law 491 = .ok (.aload_n 0, 1) := by decide +kernel
theorem dL_law_492 : decode cL_law 492 = .ok (.iload_n 3, 1) := by decide +kernel
theorem dL_law_493 : decode cL_law 493 = .ok (.iconst 1, 1) := by decide +kernel
theorem dL_law_494 : decode cL_law 494 = .ok (.iadd, 1) := by decide +kernel
theorem dL_law_495 : decode cL_law 495 = .ok (.iaload, 1) := by decide +kernel
theorem dL_law_496 : decode cL_law 496 = .ok (.aload_n 0, 1) := by decide +kernel
theorem dL_law_497 : decode cL_law 497 = .ok (.iload_n 3, 1) := by decide +kernel
theorem dL_law_498 : decode cL_law 498 = .ok (.iconst 2, 1) := by decide +kernel
theorem dL_law_499 : decode cL_law 499 = .ok (.iadd, 1) := by decide +kernel
theorem dL_law_500 : decode cL_law 500 = .ok (.iaload, 1) := by decide +kernel
theorem dL_law_501 : decode cL_law 501 = .ok (.invokevirtual 63, 3) := by decide +kernel
theorem dL_law_504 : decode cL_law 504 = .ok (.if_icmp .eq 503, 3) := by decide +kernel
theorem dL_law_507 : decode cL_law 507 = .ok (.iconst 0, 1) := by decide +kernel
theorem dL_law_508 : decode cL_law 508 = .ok (.ireturn, 1) := by decide +kernel
theorem dL_law_509 : decode cL_law 509 = .ok (.aload_n 1, 1) := by decide +kernel
theorem dL_law_510 : decode cL_law 510 = .ok (.aload_n 0, 1) := by decide +kernel
theorem dL_law_511 : decode cL_law 511 = .ok (.iload_n 3, 1) := by decide +kernel
theorem dL_law_512 : decode cL_law 512 = .ok (.iconst 1, 1) := by decide +kernel
theorem dL_law_513 : decode cL_law 513 = .ok (.iadd, 1) := by decide +kernel
theorem dL_law_514 : decode cL_law 514 = .ok (.iaload, 1) := by decide +kernel
theorem dL_law_515 : decode cL_law 515 = .ok (.aload_n 0, 1) := by decide +kernel
theorem dL_law_516 : decode cL_law 516 = .ok (.iload_n 3, 1) := by decide +kernel
theorem dL_law_517 : decode cL_law 517 = .ok (.iconst 2, 1) := by decide +kernel
theorem dL_law_518 : decode cL_law 518 = .ok (.iadd, 1) := by decide +kernel
theorem dL_law_519 : decode cL_law 519 = .ok (.iaload, 1) := by decide +kernel
theorem dL_law_520 : decode cL_law 520 = .ok (.invokevirtual 64, 3) := by decide +kernel
theorem dL_law_523 : decode cL_law 523 = .ok (.aload_n 2, 1) := by decide +kernel
theorem dL_law_524 : decode cL_law 524 = .ok (.aload_n 0, 1) := by decide +kernel
theorem dL_law_525 : decode cL_law 525 = .ok (.iload_n 3, 1) := by decide +kernel
theorem dL_law_526 : decode cL_law 526 = .ok (.iconst 1, 1) := by decide +kernel
theorem dL_law_527 : decode cL_law 527 = .ok (.iadd, 1) := by decide +kernel
theorem dL_law_528 : decode cL_law 528 = .ok (.iaload, 1) := by decide +kernel
theorem dL_law_529 : decode cL_law 529 = .ok (.aload_n 0, 1) := by decide +kernel
theorem dL_law_530 : decode cL_law 530 = .ok (.iload_n 3, 1) := by decide +kernel
theorem dL_law_531 : decode cL_law 531 = .ok (.iconst 2, 1) := by decide +kernel
theorem dL_law_532 : decode cL_law 532 = .ok (.iadd, 1) := by decide +kernel
theorem dL_law_533 : decode cL_law 533 = .ok (.iaload, 1) := by decide +kernel
theorem dL_law_534 : decode cL_law 534 = .ok (.invokevirtual 67, 3) := by decide +kernel
theorem dL_law_537 : decode cL_law 537 = .ok (.if_icmp .eq 470, 3) := by decide +kernel
theorem dL_law_540 : decode cL_law 540 = .ok (.iconst 0, 1) := by decide +kernel
theorem dL_law_541 : decode cL_law 541 = .ok (.ireturn, 1) := by decide +kernel
theorem dL_law_542 : decode cL_law 542 = .ok (.aload_n 1, 1) := by decide +kernel
theorem dL_law_543 : decode cL_law 543 = .ok (.aload_n 0, 1) := by decide +kernel
theorem dL_law_544 : decode cL_law 544 = .ok (.iload_n 3, 1) := by decide +kernel
theorem dL_law_545 : decode cL_law 545 = .ok (.iconst 1, 1) := by decide +kernel
theorem dL_law_546 : decode cL_law 546 = .ok (.iadd, 1) := by decide +kernel
theorem dL_law_547 : decode cL_law 547 = .ok (.iaload, 1) := by decide +kernel
theorem dL_law_548 : decode cL_law 548 = .ok (.invokevirtual 68, 3) := by decide +kernel
theorem dL_law_551 : decode cL_law 551 = .ok (.aload_n 2, 1) := by decide +kernel
theorem dL_law_552 : decode cL_law 552 = .ok (.aload_n 0, 1) := by decide +kernel
theorem dL_law_553 : decode cL_law 553 = .ok (.iload_n 3, 1) := by decide +kernel
theorem dL_law_554 : decode cL_law 554 = .ok (.iconst 1, 1) := by decide +kernel
theorem dL_law_555 : decode cL_law 555 = .ok (.iadd, 1) := by decide +kernel
theorem dL_law_556 : decode cL_law 556 = .ok (.iaload, 1) := by decide +kernel
theorem dL_law_557 : decode cL_law 557 = .ok (.invokevirtual 71, 3) := by decide +kernel
theorem dL_law_560 : decode cL_law 560 = .ok (.if_icmp .eq 447, 3) := by decide +kernel
theorem dL_law_563 : decode cL_law 563 = .ok (.iconst 0, 1) := by decide +kernel
theorem dL_law_564 : decode cL_law 564 = .ok (.ireturn, 1) := by decide +kernel
theorem dL_law_565 : decode cL_law 565 = .ok (.aload_n 1, 1) := by decide +kernel
theorem dL_law_566 : decode cL_law 566 = .ok (.aload_n 0, 1) := by decide +kernel
theorem dL_law_567 : decode cL_law 567 = .ok (.iload_n 3, 1) := by decide +kernel
theorem dL_law_568 : decode cL_law 568 = .ok (.iconst 1, 1) := by decide +kernel
theorem dL_law_569 : decode cL_law 569 = .ok (.iadd, 1) := by decide +kernel
theorem dL_law_570 : decode cL_law 570 = .ok (.iaload, 1) := by decide +kernel
theorem dL_law_571 : decode cL_law 571 = .ok (.aload_n 0, 1) := by decide +kernel
theorem dL_law_572 : decode cL_law 572 = .ok (.iload_n 3, 1) := by decide +kernel
theorem dL_law_573 : decode cL_law 573 = .ok (.iconst 2, 1) := by decide +kernel
theorem dL_law_574 : decode cL_law 574 = .ok (.iadd, 1) := by decide +kernel
theorem dL_law_575 : decode cL_law 575 = .ok (.iaload, 1) := by decide +kernel
theorem dL_law_576 : decode cL_law 576 = .ok (.invokevirtual 72, 3) := by decide +kernel
theorem dL_law_579 : decode cL_law 579 = .ok (.aload_n 2, 1) := by decide +kernel
theorem dL_law_580 : decode cL_law 580 = .ok (.aload_n 0, 1) := by decide +kernel
theorem dL_law_581 : decode cL_law 581 = .ok (.iload_n 3, 1) := by decide +kernel
theorem dL_law_582 : decode cL_law 582 = .ok (.iconst 1, 1) := by decide +kernel
theorem dL_law_583 : decode cL_law 583 = .ok (.iadd, 1) := by decide +kernel
theorem dL_law_584 : decode cL_law 584 = .ok (.iaload, 1) := by decide +kernel
theorem dL_law_585 : decode cL_law 585 = .ok (.aload_n 0, 1) := by decide +kernel
theorem dL_law_586 : decode cL_law 586 = .ok (.iload_n 3, 1) := by decide +kernel
theorem dL_law_587 : decode cL_law 587 = .ok (.iconst 2, 1) := by decide +kernel
theorem dL_law_588 : decode cL_law 588 = .ok (.iadd, 1) := by decide +kernel
theorem dL_law_589 : decode cL_law 589 = .ok (.iaload, 1) := by decide +kernel
theorem dL_law_590 : decode cL_law 590 = .ok (.invokevirtual 75, 3) := by decide +kernel
theorem dL_law_593 : decode cL_law 593 = .ok (.if_icmp .eq 414, 3) := by decide +kernel
theorem dL_law_596 : decode cL_law 596 = .ok (.iconst 0, 1) := by decide +kernel
theorem dL_law_597 : decode cL_law 597 = .ok (.ireturn, 1) := by decide +kernel
theorem dL_law_598 : decode cL_law 598 = .ok (.aload_n 1, 1) := by decide +kernel
theorem dL_law_599 : decode cL_law 599 = .ok (.aload_n 0, 1) := by decide +kernel
theorem dL_law_600 : decode cL_law 600 = .ok (.iload_n 3, 1) := by decide +kernel
theorem dL_law_601 : decode cL_law 601 = .ok (.iconst 1, 1) := by decide +kernel
theorem dL_law_602 : decode cL_law 602 = .ok (.iadd, 1) := by decide +kernel
theorem dL_law_603 : decode cL_law 603 = .ok (.iaload, 1) := by decide +kernel
theorem dL_law_604 : decode cL_law 604 = .ok (.invokevirtual 76, 3) := by decide +kernel
theorem dL_law_607 : decode cL_law 607 = .ok (.aload_n 2, 1) := by decide +kernel
theorem dL_law_608 : decode cL_law 608 = .ok (.aload_n 0, 1) := by decide +kernel
theorem dL_law_609 : decode cL_law 609 = .ok (.iload_n 3, 1) := by decide +kernel
theorem dL_law_610 : decode cL_law 610 = .ok (.iconst 1, 1) := by decide +kernel
theorem dL_law_611 : decode cL_law 611 = .ok (.iadd, 1) := by decide +kernel
theorem dL_law_612 : decode cL_law 612 = .ok (.iaload, 1) := by decide +kernel
theorem dL_law_613 : decode cL_law 613 = .ok (.invokevirtual 79, 3) := by decide +kernel
theorem dL_law_616 : decode cL_law 616 = .ok (.if_icmp .eq 391, 3) := by decide +kernel
theorem dL_law_619 : decode cL_law 619 = .ok (.iconst 0, 1) := by decide +kernel
theorem dL_law_620 : decode cL_law 620 = .ok (.ireturn, 1) := by decide +kernel
theorem dL_law_621 : decode cL_law 621 = .ok (.aload_n 1, 1) := by decide +kernel
theorem dL_law_622 : decode cL_law 622 = .ok (.invokevirtual 80, 3) := by decide +kernel
theorem dL_law_625 : decode cL_law 625 = .ok (.aload_n 2, 1) := by decide +kernel
theorem dL_law_626 : decode cL_law 626 = .ok (.invokevirtual 83, 3) := by decide +kernel
theorem dL_law_629 : decode cL_law 629 = .ok (.if_icmp .eq 378, 3) := by decide +kernel
theorem dL_law_632 : decode cL_law 632 = .ok (.iconst 0, 1) := by decide +kernel
theorem dL_law_633 : decode cL_law 633 = .ok (.ireturn, 1) := by decide +kernel
theorem dL_law_634 : decode cL_law 634 = .ok (.aload_n 1, 1) := by decide +kernel
theorem dL_law_635 : decode cL_law 635 = .ok (.aload_n 0, 1) := by decide +kernel
theorem dL_law_636 : decode cL_law 636 = .ok (.iload_n 3, 1) := by decide +kernel
theorem dL_law_637 : decode cL_law 637 = .ok (.iconst 1, 1) := by decide +kernel
theorem dL_law_638 : decode cL_law 638 = .ok (.iadd, 1) := by decide +kernel
theorem dL_law_639 : decode cL_law 639 = .ok (.iaload, 1) := by decide +kernel
theorem dL_law_640 : decode cL_law 640 = .ok (.invokevirtual 84, 3) := by decide +kernel
theorem dL_law_643 : decode cL_law 643 = .ok (.aload_n 2, 1) := by decide +kernel
theorem dL_law_644 : decode cL_law 644 = .ok (.aload_n 0, 1) := by decide +kernel
theorem dL_law_645 : decode cL_law 645 = .ok (.iload_n 3, 1) := by decide +kernel
theorem dL_law_646 : decode cL_law 646 = .ok (.iconst 1, 1) := by decide +kernel
theorem dL_law_647 : decode cL_law 647 = .ok (.iadd, 1) := by decide +kernel
theorem dL_law_648 : decode cL_law 648 = .ok (.iaload, 1) := by decide +kernel
theorem dL_law_649 : decode cL_law 649 = .ok (.invokevirtual 87, 3) := by decide +kernel
theorem dL_law_652 : decode cL_law 652 = .ok (.if_icmp .eq 355, 3) := by decide +kernel
theorem dL_law_655 : decode cL_law 655 = .ok (.iconst 0, 1) := by decide +kernel
theorem dL_law_656 : decode cL_law 656 = .ok (.ireturn, 1) := by decide +kernel
theorem dL_law_657 : decode cL_law 657 = .ok (.aload_n 1, 1) := by decide +kernel
theorem dL_law_658 : decode cL_law 658 = .ok (.aload_n 0, 1) := by decide +kernel
theorem dL_law_659 : decode cL_law 659 = .ok (.iload_n 3, 1) := by decide +kernel
theorem dL_law_660 : decode cL_law 660 = .ok (.iconst 1, 1) := by decide +kernel
theorem dL_law_661 : decode cL_law 661 = .ok (.iadd, 1) := by decide +kernel
theorem dL_law_662 : decode cL_law 662 = .ok (.iaload, 1) := by decide +kernel
theorem dL_law_663 : decode cL_law 663 = .ok (.aload_n 0, 1) := by decide +kernel
theorem dL_law_664 : decode cL_law 664 = .ok (.iload_n 3, 1) := by decide +kernel
theorem dL_law_665 : decode cL_law 665 = .ok (.iconst 2, 1) := by decide +kernel
theorem dL_law_666 : decode cL_law 666 = .ok (.iadd, 1) := by decide +kernel
theorem dL_law_667 : decode cL_law 667 = .ok (.iaload, 1) := by decide +kernel
theorem dL_law_668 : decode cL_law 668 = .ok (.invokevirtual 88, 3) := by decide +kernel
theorem dL_law_671 : decode cL_law 671 = .ok (.aload_n 2, 1) := by decide +kernel
theorem dL_law_672 : decode cL_law 672 = .ok (.aload_n 0, 1) := by decide +kernel
theorem dL_law_673 : decode cL_law 673 = .ok (.iload_n 3, 1) := by decide +kernel
theorem dL_law_674 : decode cL_law 674 = .ok (.iconst 1, 1) := by decide +kernel
theorem dL_law_675 : decode cL_law 675 = .ok (.iadd, 1) := by decide +kernel
theorem dL_law_676 : decode cL_law 676 = .ok (.iaload, 1) := by decide +kernel
theorem dL_law_677 : decode cL_law 677 = .ok (.aload_n 0, 1) := by decide +kernel
theorem dL_law_678 : decode cL_law 678 = .ok (.iload_n 3, 1) := by decide +kernel
theorem dL_law_679 : decode cL_law 679 = .ok (.iconst 2, 1) := by decide +kernel
theorem dL_law_680 : decode cL_law 680 = .ok (.iadd, 1) := by decide +kernel
theorem dL_law_681 : decode cL_law 681 = .ok (.iaload, 1) := by decide +kernel
theorem dL_law_682 : decode cL_law 682 = .ok (.invokevirtual 91, 3) := by decide +kernel
theorem dL_law_685 : decode cL_law 685 = .ok (.if_icmp .eq 322, 3) := by decide +kernel
theorem dL_law_688 : decode cL_law 688 = .ok (.iconst 0, 1) := by decide +kernel
theorem dL_law_689 : decode cL_law 689 = .ok (.ireturn, 1) := by decide +kernel
theorem dL_law_690 : decode cL_law 690 = .ok (.aload_n 1, 1) := by decide +kernel
theorem dL_law_691 : decode cL_law 691 = .ok (.aload_n 0, 1) := by decide +kernel
theorem dL_law_692 : decode cL_law 692 = .ok (.iload_n 3, 1) := by decide +kernel
theorem dL_law_693 : decode cL_law 693 = .ok (.iconst 1, 1) := by decide +kernel
theorem dL_law_694 : decode cL_law 694 = .ok (.iadd, 1) := by decide +kernel
theorem dL_law_695 : decode cL_law 695 = .ok (.iaload, 1) := by decide +kernel
theorem dL_law_696 : decode cL_law 696 = .ok (.aload_n 0, 1) := by decide +kernel
theorem dL_law_697 : decode cL_law 697 = .ok (.iload_n 3, 1) := by decide +kernel
theorem dL_law_698 : decode cL_law 698 = .ok (.iconst 2, 1) := by decide +kernel
theorem dL_law_699 : decode cL_law 699 = .ok (.iadd, 1) := by decide +kernel
theorem dL_law_700 : decode cL_law 700 = .ok (.iaload, 1) := by decide +kernel
theorem dL_law_701 : decode cL_law 701 = .ok (.aload_n 0, 1) := by decide +kernel
theorem dL_law_702 : decode cL_law 702 = .ok (.iload_n 3, 1) := by decide +kernel
theorem dL_law_703 : decode cL_law 703 = .ok (.iconst 3, 1) := by decide +kernel
theorem dL_law_704 : decode cL_law 704 = .ok (.iadd, 1) := by decide +kernel
theorem dL_law_705 : decode cL_law 705 = .ok (.iaload, 1) := by decide +kernel
theorem dL_law_706 : decode cL_law 706 = .ok (.invokevirtual 92, 3) := by decide +kernel
theorem dL_law_709 : decode cL_law 709 = .ok (.aload_n 2, 1) := by decide +kernel
theorem dL_law_710 : decode cL_law 710 = .ok (.aload_n 0, 1) := by decide +kernel
theorem dL_law_711 : decode cL_law 711 = .ok (.iload_n 3, 1) := by decide +kernel
theorem dL_law_712 : decode cL_law 712 = .ok (.iconst 1, 1) := by decide +kernel
theorem dL_law_713 : decode cL_law 713 = .ok (.iadd, 1) := by decide +kernel
theorem dL_law_714 : decode cL_law 714 = .ok (.iaload, 1) := by decide +kernel
theorem dL_law_715 : decode cL_law 715 = .ok (.aload_n 0, 1) := by decide +kernel
theorem dL_law_716 : decode cL_law 716 = .ok (.iload_n 3, 1) := by decide +kernel
theorem dL_law_717 : decode cL_law 717 = .ok (.iconst 2, 1) := by decide +kernel
theorem dL_law_718 : decode cL_law 718 = .ok (.iadd, 1) := by decide +kernel
theorem dL_law_719 : decode cL_law 719 = .ok (.iaload, 1) := by decide +kernel
theorem dL_law_720 : decode cL_law 720 = .ok (.aload_n 0, 1) := by decide +kernel
theorem dL_law_721 : decode cL_law 721 = .ok (.iload_n 3, 1) := by decide +kernel
theorem dL_law_722 : decode cL_law 722 = .ok (.iconst 3, 1) := by decide +kernel
theorem dL_law_723 : decode cL_law 723 = .ok (.iadd, 1) := by decide +kernel
theorem dL_law_724 : decode cL_law 724 = .ok (.iaload, 1) := by decide +kernel
theorem dL_law_725 : decode cL_law 725 = .ok (.invokevirtual 95, 3) := by decide +kernel
theorem dL_law_728 : decode cL_law 728 = .ok (.if_icmp .eq 279, 3) := by decide +kernel
theorem dL_law_731 : decode cL_law 731 = .ok (.iconst 0, 1) := by decide +kernel
theorem dL_law_732 : decode cL_law 732 = .ok (.ireturn, 1) := by decide +kernel
theorem dL_law_733 : decode cL_law 733 = .ok (.aload_n 1, 1) := by decide +kernel
theorem dL_law_734 : decode cL_law 734 = .ok (.aload_n 0, 1) := by decide +kernel
theorem dL_law_735 : decode cL_law 735 = .ok (.iload_n 3, 1) := by decide +kernel
theorem dL_law_736 : decode cL_law 736 = .ok (.iconst 1, 1) := by decide +kernel
theorem dL_law_737 : decode cL_law 737 = .ok (.iadd, 1) := by decide +kernel
theorem dL_law_738 : decode cL_law 738 = .ok (.iaload, 1) := by decide +kernel
theorem dL_law_739 : decode cL_law 739 = .ok (.aload_n 0, 1) := by decide +kernel
theorem dL_law_740 : decode cL_law 740 = .ok (.iload_n 3, 1) := by decide +kernel
theorem dL_law_741 : decode cL_law 741 = .ok (.iconst 2, 1) := by decide +kernel
theorem dL_law_742 : decode cL_law 742 = .ok (.iadd, 1) := by decide +kernel
theorem dL_law_743 : decode cL_law 743 = .ok (.iaload, 1) := by decide +kernel
theorem dL_law_744 : decode cL_law 744 = .ok (.aload_n 0, 1) := by decide +kernel
theorem dL_law_745 : decode cL_law 745 = .ok (.iload_n 3, 1) := by decide +kernel
theorem dL_law_746 : decode cL_law 746 = .ok (.iconst 3, 1) := by decide +kernel
theorem dL_law_747 : decode cL_law 747 = .ok (.iadd, 1) := by decide +kernel
theorem dL_law_748 : decode cL_law 748 = .ok (.iaload, 1) := by decide +kernel
theorem dL_law_749 : decode cL_law 749 = .ok (.invokevirtual 96, 3) := by decide +kernel
theorem dL_law_752 : decode cL_law 752 = .ok (.aload_n 2, 1) := by decide +kernel
theorem dL_law_753 : decode cL_law 753 = .ok (.aload_n 0, 1) := by decide +kernel
theorem dL_law_754 : decode cL_law 754 = .ok (.iload_n 3, 1) := by decide +kernel
theorem dL_law_755 : decode cL_law 755 = .ok (.iconst 1, 1) := by decide +kernel
theorem dL_law_756 : decode cL_law 756 = .ok (.iadd, 1) := by decide +kernel
theorem dL_law_757 : decode cL_law 757 = .ok (.iaload, 1) := by decide +kernel
theorem dL_law_758 : decode cL_law 758 = .ok (.aload_n 0, 1) := by decide +kernel
theorem dL_law_759 : decode cL_law 759 = .ok (.iload_n 3, 1) := by decide +kernel
theorem dL_law_760 : decode cL_law 760 = .ok (.iconst 2, 1) := by decide +kernel
theorem dL_law_761 : decode cL_law 761 = .ok (.iadd, 1) := by decide +kernel
theorem dL_law_762 : decode cL_law 762 = .ok (.iaload, 1) := by decide +kernel
theorem dL_law_763 : decode cL_law 763 = .ok (.aload_n 0, 1) := by decide +kernel
theorem dL_law_764 : decode cL_law 764 = .ok (.iload_n 3, 1) := by decide +kernel
theorem dL_law_765 : decode cL_law 765 = .ok (.iconst 3, 1) := by decide +kernel
theorem dL_law_766 : decode cL_law 766 = .ok (.iadd, 1) := by decide +kernel
theorem dL_law_767 : decode cL_law 767 = .ok (.iaload, 1) := by decide +kernel
theorem dL_law_768 : decode cL_law 768 = .ok (.invokevirtual 99, 3) := by decide +kernel
theorem dL_law_771 : decode cL_law 771 = .ok (.if_icmp .eq 236, 3) := by decide +kernel
theorem dL_law_774 : decode cL_law 774 = .ok (.iconst 0, 1) := by decide +kernel
theorem dL_law_775 : decode cL_law 775 = .ok (.ireturn, 1) := by decide +kernel
theorem dL_law_776 : decode cL_law 776 = .ok (.aload_n 1, 1) := by decide +kernel
theorem dL_law_777 : decode cL_law 777 = .ok (.aload_n 0, 1) := by decide +kernel
theorem dL_law_778 : decode cL_law 778 = .ok (.iload_n 3, 1) := by decide +kernel
theorem dL_law_779 : decode cL_law 779 = .ok (.iconst 1, 1) := by decide +kernel
theorem dL_law_780 : decode cL_law 780 = .ok (.iadd, 1) := by decide +kernel
theorem dL_law_781 : decode cL_law 781 = .ok (.iaload, 1) := by decide +kernel
theorem dL_law_782 : decode cL_law 782 = .ok (.aload_n 0, 1) := by decide +kernel
theorem dL_law_783 : decode cL_law 783 = .ok (.iload_n 3, 1) := by decide +kernel
theorem dL_law_784 : decode cL_law 784 = .ok (.iconst 2, 1) := by decide +kernel
theorem dL_law_785 : decode cL_law 785 = .ok (.iadd, 1) := by decide +kernel
theorem dL_law_786 : decode cL_law 786 = .ok (.iaload, 1) := by decide +kernel
theorem dL_law_787 : decode cL_law 787 = .ok (.invokevirtual 100, 3) := by decide +kernel
theorem dL_law_790 : decode cL_law 790 = .ok (.aload_n 2, 1) := by decide +kernel
theorem dL_law_791 : decode cL_law 791 = .ok (.aload_n 0, 1) := by decide +kernel
theorem dL_law_792 : decode cL_law 792 = .ok (.iload_n 3, 1) := by decide +kernel
theorem dL_law_793 : decode cL_law 793 = .ok (.iconst 1, 1) := by decide +kernel
theorem dL_law_794 : decode cL_law 794 = .ok (.iadd, 1) := by decide +kernel
theorem dL_law_795 : decode cL_law 795 = .ok (.iaload, 1) := by decide +kernel
theorem dL_law_796 : decode cL_law 796 = .ok (.aload_n 0, 1) := by decide +kernel
theorem dL_law_797 : decode cL_law 797 = .ok (.iload_n 3, 1) := by decide +kernel
theorem dL_law_798 : decode cL_law 798 = .ok (.iconst 2, 1) := by decide +kernel
theorem dL_law_799 : decode cL_law 799 = .ok (.iadd, 1) := by decide +kernel
theorem dL_law_800 : decode cL_law 800 = .ok (.iaload, 1) := by decide +kernel
theorem dL_law_801 : decode cL_law 801 = .ok (.invokevirtual 103, 3) := by decide +kernel
theorem dL_law_804 : decode cL_law 804 = .ok (.if_icmp .eq 203, 3) := by decide +kernel
theorem dL_law_807 : decode cL_law 807 = .ok (.iconst 0, 1) := by decide +kernel
theorem dL_law_808 : decode cL_law 808 = .ok (.ireturn, 1) := by decide +kernel
theorem dL_law_809 : decode cL_law 809 = .ok (.aload_n 1, 1) := by decide +kernel
theorem dL_law_810 : decode cL_law 810 = .ok (.aload_n 0, 1) := by decide +kernel
theorem dL_law_811 : decode cL_law 811 = .ok (.iload_n 3, 1) := by decide +kernel
theorem dL_law_812 : decode cL_law 812 = .ok (.iconst 1, 1) := by decide +kernel
theorem dL_law_813 : decode cL_law 813 = .ok (.iadd, 1) := by decide +kernel
theorem dL_law_814 : decode cL_law 814 = .ok (.iaload, 1) := by decide +kernel
theorem dL_law_815 : decode cL_law 815 = .ok (.aload_n 0, 1) := by decide +kernel
theorem dL_law_816 : decode cL_law 816 = .ok (.iload_n 3, 1) := by decide +kernel
theorem dL_law_817 : decode cL_law 817 = .ok (.iconst 2, 1) := by decide +kernel
theorem dL_law_818 : decode cL_law 818 = .ok (.iadd, 1) := by decide +kernel
theorem dL_law_819 : decode cL_law 819 = .ok (.iaload, 1) := by decide +kernel
theorem dL_law_820 : decode cL_law 820 = .ok (.invokevirtual 104, 3) := by decide +kernel
theorem dL_law_823 : decode cL_law 823 = .ok (.aload_n 2, 1) := by decide +kernel
theorem dL_law_824 : decode cL_law 824 = .ok (.aload_n 0, 1) := by decide +kernel
theorem dL_law_825 : decode cL_law 825 = .ok (.iload_n 3, 1) := by decide +kernel
theorem dL_law_826 : decode cL_law 826 = .ok (.iconst 1, 1) := by decide +kernel
theorem dL_law_827 : decode cL_law 827 = .ok (.iadd, 1) := by decide +kernel
theorem dL_law_828 : decode cL_law 828 = .ok (.iaload, 1) := by decide +kernel
theorem dL_law_829 : decode cL_law 829 = .ok (.aload_n 0, 1) := by decide +kernel
theorem dL_law_830 : decode cL_law 830 = .ok (.iload_n 3, 1) := by decide +kernel
theorem dL_law_831 : decode cL_law 831 = .ok (.iconst 2, 1) := by decide +kernel
theorem dL_law_832 : decode cL_law 832 = .ok (.iadd, 1) := by decide +kernel
theorem dL_law_833 : decode cL_law 833 = .ok (.iaload, 1) := by decide +kernel
theorem dL_law_834 : decode cL_law 834 = .ok (.invokevirtual 107, 3) := by decide +kernel
theorem dL_law_837 : decode cL_law 837 = .ok (.if_icmp .eq 170, 3) := by decide +kernel
theorem dL_law_840 : decode cL_law 840 = .ok (.iconst 0, 1) := by decide +kernel
theorem dL_law_841 : decode cL_law 841 = .ok (.ireturn, 1) := by decide +kernel
theorem dL_law_842 : decode cL_law 842 = .ok (.aload_n 1, 1) := by decide +kernel
theorem dL_law_843 : decode cL_law 843 = .ok (.aload_n 0, 1) := by decide +kernel
theorem dL_law_844 : decode cL_law 844 = .ok (.iload_n 3, 1) := by decide +kernel
theorem dL_law_845 : decode cL_law 845 = .ok (.iconst 1, 1) := by decide +kernel
theorem dL_law_846 : decode cL_law 846 = .ok (.iadd, 1) := by decide +kernel
theorem dL_law_847 : decode cL_law 847 = .ok (.iaload, 1) := by decide +kernel
theorem dL_law_848 : decode cL_law 848 = .ok (.invokevirtual 108, 3) := by decide +kernel
theorem dL_law_851 : decode cL_law 851 = .ok (.aload_n 2, 1) := by decide +kernel
theorem dL_law_852 : decode cL_law 852 = .ok (.aload_n 0, 1) := by decide +kernel
theorem dL_law_853 : decode cL_law 853 = .ok (.iload_n 3, 1) := by decide +kernel
theorem dL_law_854 : decode cL_law 854 = .ok (.iconst 1, 1) := by decide +kernel
theorem dL_law_855 : decode cL_law 855 = .ok (.iadd, 1) := by decide +kernel
theorem dL_law_856 : decode cL_law 856 = .ok (.iaload, 1) := by decide +kernel
theorem dL_law_857 : decode cL_law 857 = .ok (.invokevirtual 111, 3) := by decide +kernel
theorem dL_law_860 : decode cL_law 860 = .ok (.if_icmp .eq 147, 3) := by decide +kernel
theorem dL_law_863 : decode cL_law 863 = .ok (.iconst 0, 1) := by decide +kernel
theorem dL_law_864 : decode cL_law 864 = .ok (.ireturn, 1) := by decide +kernel
theorem dL_law_865 : decode cL_law 865 = .ok (.aload_n 1, 1) := by decide +kernel
theorem dL_law_866 : decode cL_law 866 = .ok (.aload_n 0, 1) := by decide +kernel
theorem dL_law_867 : decode cL_law 867 = .ok (.iload_n 3, 1) := by decide +kernel
theorem dL_law_868 : decode cL_law 868 = .ok (.iconst 1, 1) := by decide +kernel
theorem dL_law_869 : decode cL_law 869 = .ok (.iadd, 1) := by decide +kernel
theorem dL_law_870 : decode cL_law 870 = .ok (.iaload, 1) := by decide +kernel
theorem dL_law_871 : decode cL_law 871 = .ok (.aload_n 0, 1) := by decide +kernel
theorem dL_law_872 : decode cL_law 872 = .ok (.iload_n 3, 1) := by decide +kernel
theorem dL_law_873 : decode cL_law 873 = .ok (.iconst 2, 1) := by decide +kernel
theorem dL_law_874 : decode cL_law 874 = .ok (.iadd, 1) := by decide +kernel
theorem dL_law_875 : decode cL_law 875 = .ok (.iaload, 1) := by decide +kernel
theorem dL_law_876 : decode cL_law 876 = .ok (.i2l, 1) := by decide +kernel
theorem dL_law_877 : decode cL_law 877 = .ok (.bipush 32, 2) := by decide +kernel
theorem dL_law_879 : decode cL_law 879 = .ok (.lshl, 1) := by decide +kernel
theorem dL_law_880 : decode cL_law 880 = .ok (.aload_n 0, 1) := by decide +kernel
theorem dL_law_881 : decode cL_law 881 = .ok (.iload_n 3, 1) := by decide +kernel
theorem dL_law_882 : decode cL_law 882 = .ok (.iconst 3, 1) := by decide +kernel
theorem dL_law_883 : decode cL_law 883 = .ok (.iadd, 1) := by decide +kernel
theorem dL_law_884 : decode cL_law 884 = .ok (.iaload, 1) := by decide +kernel
theorem dL_law_885 : decode cL_law 885 = .ok (.i2l, 1) := by decide +kernel
theorem dL_law_886 : decode cL_law 886 = .ok (.ldc2_w 27, 3) := by decide +kernel
theorem dL_law_889 : decode cL_law 889 = .ok (.land, 1) := by decide +kernel
theorem dL_law_890 : decode cL_law 890 = .ok (.lor, 1) := by decide +kernel
theorem dL_law_891 : decode cL_law 891 = .ok (.invokevirtual 112, 3) := by decide +kernel
theorem dL_law_894 : decode cL_law 894 = .ok (.aload_n 2, 1) := by decide +kernel
theorem dL_law_895 : decode cL_law 895 = .ok (.aload_n 0, 1) := by decide +kernel
theorem dL_law_896 : decode cL_law 896 = .ok (.iload_n 3, 1) := by decide +kernel
theorem dL_law_897 : decode cL_law 897 = .ok (.iconst 1, 1) := by decide +kernel
theorem dL_law_898 : decode cL_law 898 = .ok (.iadd, 1) := by decide +kernel
theorem dL_law_899 : decode cL_law 899 = .ok (.iaload, 1) := by decide +kernel
theorem dL_law_900 : decode cL_law 900 = .ok (.aload_n 0, 1) := by decide +kernel
theorem dL_law_901 : decode cL_law 901 = .ok (.iload_n 3, 1) := by decide +kernel
theorem dL_law_902 : decode cL_law 902 = .ok (.iconst 2, 1) := by decide +kernel
theorem dL_law_903 : decode cL_law 903 = .ok (.iadd, 1) := by decide +kernel
theorem dL_law_904 : decode cL_law 904 = .ok (.iaload, 1) := by decide +kernel
theorem dL_law_905 : decode cL_law 905 = .ok (.i2l, 1) := by decide +kernel
theorem dL_law_906 : decode cL_law 906 = .ok (.bipush 32, 2) := by decide +kernel
theorem dL_law_908 : decode cL_law 908 = .ok (.lshl, 1) := by decide +kernel
theorem dL_law_909 : decode cL_law 909 = .ok (.aload_n 0, 1) := by decide +kernel
theorem dL_law_910 : decode cL_law 910 = .ok (.iload_n 3, 1) := by decide +kernel
theorem dL_law_911 : decode cL_law 911 = .ok (.iconst 3, 1) := by decide +kernel
theorem dL_law_912 : decode cL_law 912 = .ok (.iadd, 1) := by decide +kernel
theorem dL_law_913 : decode cL_law 913 = .ok (.iaload, 1) := by decide +kernel
theorem dL_law_914 : decode cL_law 914 = .ok (.i2l, 1) := by decide +kernel
theorem dL_law_915 : decode cL_law 915 = .ok (.ldc2_w 27, 3) := by decide +kernel
theorem dL_law_918 : decode cL_law 918 = .ok (.land, 1) := by decide +kernel
theorem dL_law_919 : decode cL_law 919 = .ok (.lor, 1) := by decide +kernel
theorem dL_law_920 : decode cL_law 920 = .ok (.invokevirtual 115, 3) := by decide +kernel
theorem dL_law_923 : decode cL_law 923 = .ok (.if_icmp .eq 84, 3) := by decide +kernel
theorem dL_law_926 : decode cL_law 926 = .ok (.iconst 0, 1) := by decide +kernel
theorem dL_law_927 : decode cL_law 927 = .ok (.ireturn, 1) := by decide +kernel
theorem dL_law_928 : decode cL_law 928 = .ok (.aload_n 1, 1) := by decide +kernel
theorem dL_law_929 : decode cL_law 929 = .ok (.aload_n 0, 1) := by decide +kernel
theorem dL_law_930 : decode cL_law 930 = .ok (.iload_n 3, 1) := by decide +kernel
theorem dL_law_931 : decode cL_law 931 = .ok (.iconst 1, 1) := by decide +kernel
theorem dL_law_932 : decode cL_law 932 = .ok (.iadd, 1) := by decide +kernel
theorem dL_law_933 : decode cL_law 933 = .ok (.iaload, 1) := by decide +kernel
theorem dL_law_934 : decode cL_law 934 = .ok (.invokevirtual 116, 3) := by decide +kernel
theorem dL_law_937 : decode cL_law 937 = .ok (.aload_n 2, 1) := by decide +kernel
theorem dL_law_938 : decode cL_law 938 = .ok (.aload_n 0, 1) := by decide +kernel
theorem dL_law_939 : decode cL_law 939 = .ok (.iload_n 3, 1) := by decide +kernel
theorem dL_law_940 : decode cL_law 940 = .ok (.iconst 1, 1) := by decide +kernel
theorem dL_law_941 : decode cL_law 941 = .ok (.iadd, 1) := by decide +kernel
theorem dL_law_942 : decode cL_law 942 = .ok (.iaload, 1) := by decide +kernel
theorem dL_law_943 : decode cL_law 943 = .ok (.invokevirtual 119, 3) := by decide +kernel
theorem dL_law_946 : decode cL_law 946 = .ok (.if_icmp .eq 61, 3) := by decide +kernel
theorem dL_law_949 : decode cL_law 949 = .ok (.iconst 0, 1) := by decide +kernel
theorem dL_law_950 : decode cL_law 950 = .ok (.ireturn, 1) := by decide +kernel
theorem dL_law_951 : decode cL_law 951 = .ok (.aload_n 1, 1) := by decide +kernel
theorem dL_law_952 : decode cL_law 952 = .ok (.aload_n 0, 1) := by decide +kernel
theorem dL_law_953 : decode cL_law 953 = .ok (.iload_n 3, 1) := by decide +kernel
theorem dL_law_954 : decode cL_law 954 = .ok (.iconst 1, 1) := by decide +kernel
theorem dL_law_955 : decode cL_law 955 = .ok (.iadd, 1) := by decide +kernel
theorem dL_law_956 : decode cL_law 956 = .ok (.iaload, 1) := by decide +kernel
theorem dL_law_957 : decode cL_law 957 = .ok (.invokevirtual 120, 3) := by decide +kernel
theorem dL_law_960 : decode cL_law 960 = .ok (.aload_n 2, 1) := by decide +kernel
theorem dL_law_961 : decode cL_law 961 = .ok (.aload_n 0, 1) := by decide +kernel
theorem dL_law_962 : decode cL_law 962 = .ok (.iload_n 3, 1) := by decide +kernel
theorem dL_law_963 : decode cL_law 963 = .ok (.iconst 1, 1) := by decide +kernel
theorem dL_law_964 : decode cL_law 964 = .ok (.iadd, 1) := by decide +kernel
theorem dL_law_965 : decode cL_law 965 = .ok (.iaload, 1) := by decide +kernel
theorem dL_law_966 : decode cL_law 966 = .ok (.invokevirtual 123, 3) := by decide +kernel
theorem dL_law_969 : decode cL_law 969 = .ok (.if_icmp .eq 38, 3) := by decide +kernel
theorem dL_law_972 : decode cL_law 972 = .ok (.iconst 0, 1) := by decide +kernel
theorem dL_law_973 : decode cL_law 973 = .ok (.ireturn, 1) := by decide +kernel
theorem dL_law_974 : decode cL_law 974 = .ok (.aload_n 1, 1) := by decide +kernel
theorem dL_law_975 : decode cL_law 975 = .ok (.aload_n 0, 1) := by decide +kernel
theorem dL_law_976 : decode cL_law 976 = .ok (.iload_n 3, 1) := by decide +kernel
theorem dL_law_977 : decode cL_law 977 = .ok (.iconst 1, 1) := by decide +kernel
theorem dL_law_978 : decode cL_law 978 = .ok (.iadd, 1) := by decide +kernel
theorem dL_law_979 : decode cL_law 979 = .ok (.iaload, 1) := by decide +kernel
theorem dL_law_980 : decode cL_law 980 = .ok (.aload_n 0, 1) := by decide +kernel
theorem dL_law_981 : decode cL_law 981 = .ok (.iload_n 3, 1) := by decide +kernel
theorem dL_law_982 : decode cL_law 982 = .ok (.iconst 2, 1) := by decide +kernel
theorem dL_law_983 : decode cL_law 983 = .ok (.iadd, 1) := by decide +kernel
theorem dL_law_984 : decode cL_law 984 = .ok (.iaload, 1) := by decide +kernel
theorem dL_law_985 : decode cL_law 985 = .ok (.invokevirtual 124, 3) := by decide +kernel
theorem dL_law_988 : decode cL_law 988 = .ok (.aload_n 2, 1) := by decide +kernel
theorem dL_law_989 : decode cL_law 989 = .ok (.aload_n 0, 1) := by decide +kernel
theorem dL_law_990 : decode cL_law 990 = .ok (.iload_n 3, 1) := by decide +kernel
theorem dL_law_991 : decode cL_law 991 = .ok (.iconst 1, 1) := by decide +kernel
theorem dL_law_992 : decode cL_law 992 = .ok (.iadd, 1) := by decide +kernel
theorem dL_law_993 : decode cL_law 993 = .ok (.iaload, 1) := by decide +kernel
theorem dL_law_994 : decode cL_law 994 = .ok (.aload_n 0, 1) := by decide +kernel
theorem dL_law_995 : decode cL_law 995 = .ok (.iload_n 3, 1) := by decide +kernel
theorem dL_law_996 : decode cL_law 996 = .ok (.iconst 2, 1) := by decide +kernel
theorem dL_law_997 : decode cL_law 997 = .ok (.iadd, 1) := by decide +kernel
theorem dL_law_998 : decode cL_law 998 = .ok (.iaload, 1) := by decide +kernel
theorem dL_law_999 : decode cL_law 999 = .ok (.invokevirtual 127, 3) := by decide +kernel
theorem dL_law_1002 : decode cL_law 1002 = .ok (.if_icmp .eq 5, 3) := by decide +kernel
theorem dL_law_1005 : decode cL_law 1005 = .ok (.iconst 0, 1) := by decide +kernel
theorem dL_law_1006 : decode cL_law 1006 = .ok (.ireturn, 1) := by decide +kernel
theorem dL_law_1007 : decode cL_law 1007 = .ok (.iinc 3 4, 3) := by decide +kernel
theorem dL_law_1010 : decode cL_law 1010 = .ok (.goto (-992), 3) := by decide +kernel
theorem dL_law_1013 : decode cL_law 1013 = .ok (.iconst 1, 1) := by decide +kernel
theorem dL_law_1014 : decode cL_law 1014 = .ok (.ireturn, 1) := by decide +kernel
end
section
/-! ===== memory of a run: how many cells; the kind of each cell; its references; its numbers ===== -/
abbrev Mm : Type := Nat × (Nat → Nat × Nat) × (Nat → Nat → Option Nat) × (Nat → Nat → Int32)
def mN (σ : Mm) : Nat := σ.1
def mK (σ : Mm) : Nat → Nat × Nat := σ.2.1
def mR (σ : Mm) : Nat → Nat → Option Nat := σ.2.2.1
def mD (σ : Mm) : Nat → Nat → Int32 := σ.2.2.2
def sA (σ : Mm) (a : Nat) (f : Nat → Int32) : Mm := (σ.1, σ.2.1, σ.2.2.1, fun b => if b = a then f else mD σ b)
def sD (σ : Mm) (a k : Nat) (v : Int32) : Mm := sA σ a (upd (mD σ a) k v)
def sR (σ : Mm) (a k v : Nat) : Mm := (σ.1, σ.2.1, (fun b => if b = a then va_up (mR σ a) k (some v) else mR σ b), σ.2.2.2)
def nw (σ : Mm) (kd : Nat × Nat) : Mm := (σ.1 + 1, (fun b => if b = σ.1 then kd else mK σ b), (fun b => if b = σ.1 then (fun _ => none) else mR σ b), (fun b => if b = σ.1 then (fun _ => 0) else mD σ b))
/-- which fields of a class are references -/
def fT : Nat → List Bool
  | 0 => [true, false, false]
  | 1 => [true, false]
  | 2 => [true, false]
  | 3 => [true, true, false, false, false]
  | 4 => [false, false, false, false]
  | 5 => [true, false, true, false, true, true, true]
  | 6 => [true, false]
  | 7 => [true, true, true, true, true, false, false, true]
  | 8 => [true, true, true, true, true, true, true, true]
  | 9 => [true, true, true, false, false, true, true, true, true, true, true, true, true, true, true, true, true, true, true, true, true, false, true, false, true, false, false, true, false, true, true, true, true, true, true, true, false, false, true, true, true, false, true, true, true, true]
  | _ => []
abbrev GG : Type := Launch × (Nat → ClassId) × (Nat → Nat → Nat) × ClassId × ClassId × ClassId × ClassId × Nat
def gl (g : GG) : Launch := g.1
def gG (g : GG) : va_G := (g.2.1, g.2.2.1)
def gcI (g : GG) : ClassId := g.2.2.2.1
def gcZ (g : GG) : ClassId := g.2.2.2.2.1
def gcP (g : GG) : ClassId := g.2.2.2.2.2.1
def gcS (g : GG) : ClassId := g.2.2.2.2.2.2.1
def gB (g : GG) : Nat := g.2.2.2.2.2.2.2
def rE (g : GG) (σ : Mm) (i k : Nat) : Option Nat := (mR σ i k).map (gB g + ·)
def fV (g : GG) (σ : Mm) (ci i k : Nat) : Value := if (fT ci).getD k false = true then va_rf (rE g σ i k) else .int (mD σ i k)
def fE (g : GG) (σ : Mm) (ci i : Nat) : List Value := (List.range (fT ci).length).map (fV g σ ci i)
def cE (g : GG) (σ : Mm) (i : Nat) : va_E :=
  if (mK σ i).1 = 0 then .inr ((mK σ i).2, fE g σ (mK σ i).2 i)
  else if (mK σ i).1 = 1 then .inl (gcI g, (mK σ i).2, .inl (mD σ i))
  else if (mK σ i).1 = 2 then .inl (gcZ g, (mK σ i).2, .inl (mD σ i))
  else if (mK σ i).1 = 3 then .inl (gcP g, (mK σ i).2, .inr (.inr (.inr (.inr (rE g σ i)))))
  else .inl (gcS g, (mK σ i).2, .inr (.inr (.inr (.inr (rE g σ i)))))
def hw (g : GG) (σ : Mm) : va_W := (List.range (mN σ)).map (fun i => (gB g + i, cE g σ i))
abbrev tysG (g : GG) : List (ClassId × FieldType) := [(gcI g, .int), (gcZ g, .boolean), (gcP g, .object "BorderProofs$Pairs"), (gcS g, .object "BorderProofs$Slot")]
def Rel (g : GG) (σ : Mm) (H : Heap) : Prop := H.size = gB g + mN σ ∧ va_P (gG g) vwCl (hw g σ) H
abbrev aA (g : GG) : Nat → Prop := fun q => gB g ≤ q
theorem hw_get {g : GG} {σ : Mm} {i : Nat} (h : i < mN σ) : (hw g σ)[i]? = some (gB g + i, cE g σ i) := by
  simp [hw, h]
theorem hw_D (g : GG) (σ : Mm) : va_D (aA g) (hw g σ) := by
  refine ⟨fun i j p q hi hj hpq => ?_, fun k q hk => ?_⟩
  · simp only [hw, List.getElem?_map, Option.map_eq_some_iff] at hi hj
    obtain ⟨i', hi', rfl⟩ := hi
    obtain ⟨j', hj', rfl⟩ := hj
    rw [List.getElem?_range (by rcases List.getElem?_eq_some_iff.mp hi' with ⟨h, -⟩; simpa using h)] at hi'
    rw [List.getElem?_range (by rcases List.getElem?_eq_some_iff.mp hj' with ⟨h, -⟩; simpa using h)] at hj'
    cases hi'; cases hj'
    simp only at hpq
    omega
  · simp only [hw, List.getElem?_map, Option.map_eq_some_iff] at hk
    obtain ⟨i', -, rfl⟩ := hk
    exact Nat.le_add_right _ _
theorem hw_set {g : GG} {σ σ' : Mm} {i : Nat} (hn : mN σ' = mN σ) (ho : ∀ j, j ≠ i → cE g σ' j = cE g σ j) : (hw g σ).set i (gB g + i, cE g σ' i) = hw g σ' := by
  apply List.ext_getElem?
  intro j
  rw [List.getElem?_set]
  by_cases hj : i = j
  · subst hj
    by_cases hlt : i < mN σ
    · rw [if_pos rfl, if_pos (by simpa [hw] using hlt), hw_get (by rw [hn]; exact hlt)]
    · rw [if_pos rfl, if_neg (by simpa [hw] using hlt)]
      symm
      rw [List.getElem?_eq_none_iff]
      simp only [hw, List.length_map, List.length_range, hn]
      omega
  · rw [if_neg hj]
    by_cases hlt : j < mN σ
    · rw [hw_get hlt, hw_get (by rw [hn]; exact hlt), ho j (fun h => hj h.symm)]
    · rw [List.getElem?_eq_none (by simp [hw]; omega), List.getElem?_eq_none (by simp [hw, hn]; omega)]
theorem hw_push {g : GG} {σ σ' : Mm} (hn : mN σ' = mN σ + 1) (ho : ∀ j, j < mN σ → cE g σ' j = cE g σ j) : hw g σ ++ [(gB g + mN σ, cE g σ' (mN σ))] = hw g σ' := by
  unfold hw
  rw [hn, List.range_succ, List.map_append]
  congr 1
  exact List.map_congr_left (fun j hj => by rw [ho j (List.mem_range.mp hj)])
/-- the cells of another memory that is the same but for one cell -/
theorem cE_same {g : GG} {σ σ' : Mm} {j : Nat} (hk : mK σ' j = mK σ j) (hr : mR σ' j = mR σ j) (hd : mD σ' j = mD σ j) : cE g σ' j = cE g σ j := by
  have h1 : rE g σ' j = rE g σ j := by funext k; simp [rE, hr]
  have h2 : ∀ ci, fE g σ' ci j = fE g σ ci j := fun ci => by simp [fE, fV, h1, hd]
  unfold cE
  rw [hk, h1, h2, hd]
theorem fE_get {g : GG} {σ : Mm} {ci i k : Nat} (h : k < (fT ci).length) : (fE g σ ci i)[k]? = some (fV g σ ci i k) := by
  simp [fE, h]
theorem fE_len {g : GG} {σ : Mm} {ci i : Nat} : (fE g σ ci i).length = (fT ci).length := by simp [fE]
theorem fE_set {g : GG} {σ σ' : Mm} {ci i k : Nat} (ho : ∀ j, j ≠ k → fV g σ' ci i j = fV g σ ci i j) : (fE g σ ci i).set k (fV g σ' ci i k) = fE g σ' ci i := by
  apply List.ext_getElem?
  intro j
  rw [List.getElem?_set]
  by_cases hj : k = j
  · subst hj
    by_cases hlt : k < (fT ci).length
    · rw [if_pos rfl, if_pos (by rw [fE_len]; exact hlt), fE_get hlt]
    · rw [if_pos rfl, if_neg (by rw [fE_len]; exact hlt), List.getElem?_eq_none (by rw [fE_len]; omega)]
  · rw [if_neg hj]
    by_cases hlt : j < (fT ci).length
    · rw [fE_get hlt, fE_get hlt, ho j (fun h => hj h.symm)]
    · rw [List.getElem?_eq_none (by rw [fE_len]; omega), List.getElem?_eq_none (by rw [fE_len]; omega)]
/-! what the memory's own words say -/
theorem mN_sA (σ : Mm) (a : Nat) (f : Nat → Int32) : mN (sA σ a f) = mN σ := rfl
theorem mK_sA (σ : Mm) (a : Nat) (f : Nat → Int32) : mK (sA σ a f) = mK σ := rfl
theorem mR_sA (σ : Mm) (a : Nat) (f : Nat → Int32) : mR (sA σ a f) = mR σ := rfl
theorem mD_sA (σ : Mm) (a : Nat) (f : Nat → Int32) (b : Nat) : mD (sA σ a f) b = if b = a then f else mD σ b := rfl
theorem mN_sD (σ : Mm) (a k : Nat) (v : Int32) : mN (sD σ a k v) = mN σ := rfl
theorem mK_sD (σ : Mm) (a k : Nat) (v : Int32) : mK (sD σ a k v) = mK σ := rfl
theorem mR_sD (σ : Mm) (a k : Nat) (v : Int32) : mR (sD σ a k v) = mR σ := rfl
theorem mD_sD (σ : Mm) (a k : Nat) (v : Int32) (b : Nat) : mD (sD σ a k v) b = if b = a then upd (mD σ a) k v else mD σ b := rfl
theorem mN_sR (σ : Mm) (a k v : Nat) : mN (sR σ a k v) = mN σ := rfl
theorem mK_sR (σ : Mm) (a k v : Nat) : mK (sR σ a k v) = mK σ := rfl
theorem mD_sR (σ : Mm) (a k v : Nat) : mD (sR σ a k v) = mD σ := rfl
theorem mR_sR (σ : Mm) (a k v b : Nat) : mR (sR σ a k v) b = if b = a then va_up (mR σ a) k (some v) else mR σ b := rfl
theorem mN_nw (σ : Mm) (kd : Nat × Nat) : mN (nw σ kd) = mN σ + 1 := rfl
theorem mK_nw (σ : Mm) (kd : Nat × Nat) (b : Nat) : mK (nw σ kd) b = if b = mN σ then kd else mK σ b := rfl
theorem mR_nw (σ : Mm) (kd : Nat × Nat) (b : Nat) : mR (nw σ kd) b = if b = mN σ then (fun _ => none) else mR σ b := rfl
theorem mD_nw (σ : Mm) (kd : Nat × Nat) (b : Nat) : mD (nw σ kd) b = if b = mN σ then (fun _ => 0) else mD σ b := rfl
/-- the checks of the machine, as numbers that are looked at -/
def kO (σ : Mm) (a ci : Nat) : Bool := decide (a < mN σ) && decide (mK σ a = (0, ci))
def ix (i : Int32) : Nat := i.toNatClampNeg
def kA (σ : Mm) (t a : Nat) (i : Int32) : Bool := decide (a < mN σ) && decide ((mK σ a).1 = t) && decide (¬ i < 0) && decide (ix i < (mK σ a).2)
theorem kO_spec {σ : Mm} {a ci : Nat} (h : kO σ a ci = true) : a < mN σ ∧ mK σ a = (0, ci) := by
  simpa [kO] using h
theorem kA_spec {σ : Mm} {t a : Nat} {i : Int32} (h : kA σ t a i = true) : a < mN σ ∧ (mK σ a).1 = t ∧ vp_in i (mK σ a).2 := by
  simp only [kA, Bool.and_eq_true, decide_eq_true_eq] at h
  obtain ⟨⟨⟨h1, h2⟩, h3⟩, h4⟩ := h
  exact ⟨h1, h2, fun q => q.elim h3 (fun q => by unfold ix at h4; omega)⟩
theorem cE_obj {g : GG} {σ : Mm} {a ci : Nat} (h : mK σ a = (0, ci)) : cE g σ a = .inr (ci, fE g σ ci a) := by simp [cE, h]
theorem cE_int {g : GG} {σ : Mm} {a : Nat} (h : (mK σ a).1 = 1) : cE g σ a = .inl (gcI g, (mK σ a).2, .inl (mD σ a)) := by simp [cE, h]
theorem cE_boo {g : GG} {σ : Mm} {a : Nat} (h : (mK σ a).1 = 2) : cE g σ a = .inl (gcZ g, (mK σ a).2, .inl (mD σ a)) := by simp [cE, h]
theorem cE_prs {g : GG} {σ : Mm} {a : Nat} (h : (mK σ a).1 = 3) : cE g σ a = .inl (gcP g, (mK σ a).2, .inr (.inr (.inr (.inr (rE g σ a))))) := by simp [cE, h]
theorem cE_slt {g : GG} {σ : Mm} {a : Nat} (h : (mK σ a).1 = 4) : cE g σ a = .inl (gcS g, (mK σ a).2, .inr (.inr (.inr (.inr (rE g σ a))))) := by simp [cE, h]
end
section
/-! ===== the tables' words that every method carries ===== -/
def bigG : List Cond := lw_tbl.filter goodWord
theorem inG {w : Cond} (i : Nat) (h : lw_tbl[i]? = some w) (hg : goodWord w = true) : w ∈ bigG := List.mem_filter.mpr ⟨List.mem_of_getElem? h, hg⟩
theorem bigG_good {w : Cond} (h : w ∈ bigG) : (w.onTables && w.keeps) = true ∨ ∃ ty, w = .arrayClass ty := good_of_word (List.mem_filter.mp h).2
theorem all_inG {ws : List Cond} (ps : List Nat) (hp : ws = ps.filterMap (fun i => lw_tbl[i]?)) (h : ws.all goodWord = true) : ∀ w ∈ ws, w ∈ bigG := by
  intro w hw
  have h1 := List.all_eq_true.mp h w hw
  rw [hp] at hw
  obtain ⟨i, -, hi⟩ := List.mem_filterMap.mp hw
  exact inG i hi h1
def ClsOk (ci : Nat) (C : String) (T : u_T) (N : Nat) (ty : Nat → FieldType) : Prop :=
  vwCl[ci]? = some (C, T, N) ∧ (∀ w ∈ u_ws C T N, w ∈ bigG) ∧ (∀ k, k < N → parseFieldDescriptor (T k).2.2.1 = some (ty k)) ∧ (∀ a, a < N → ∀ b, b < N → a ≠ b → (T a).2.1 ≠ (T b).2.1) ∧ (fT ci).length = N
/-- links between private members of classes of one nest -/
def nwL : List (String × Nat × MethodName × String) := [
  (RX8, 18, yX7_init, "BorderProofs"),
  (RX7, 33, yX3_init, "BorderProofs"),
  (RX8, 32, yX5_init, "BorderProofs"),
  (RX5, 11, yX1_init, "BorderProofs"),
  (RX5, 31, yX7_init, "BorderProofs"),
  (RX5, 38, yX3_init, "BorderProofs"),
  (RX8, 51, yX1_init, "BorderProofs"),
  (RX8, 56, yX6_init, "BorderProofs"),
  (RX2, 25, yX8_isNumber, "BorderProofs"),
  (RX7, 42, yX8_isNumber, "BorderProofs"),
  (RX7, 64, yX8_isAbove, "BorderProofs"),
  (RX7, 72, yX8_digestOfNode, "BorderProofs"),
  (RX7, 114, yX8_nodeItem, "BorderProofs"),
  (RX5, 88, yX8_keyOfItem, "BorderProofs"),
  (RX5, 122, yX8_isNumber, "BorderProofs"),
  (RX5, 125, yX8_isAbove, "BorderProofs"),
  (RX5, 99, yX8_valueOfItem, "BorderProofs")]
def Nws (U : State) : Prop := ∀ q ∈ nwL, va_Nw (.methodLinkNest q.1 q.2.1 q.2.2.1 q.2.2.2) U
theorem Nws.warm {s U : State} (hW : s.WarmedH U.vm) (h : Nws s) : Nws U := fun q hq => va_Nw.warmM hW (h q hq)
theorem Nws.same {s U : State} (hv : s.vm = U.vm) (h : Nws s) : Nws U := fun q hq => va_Nw.same rfl hv (h q hq)
/-- what the tables say at a state, beside the words -/
def Tb (g : GG) (U : State) : Prop := va_K (gG g) vwCl (tysG g) U ∧ Nws U ∧ va_AO "BorderProofs$Pairs" U ∧ va_AO "BorderProofs$Slot" U ∧ gB g ≤ U.heap.size
theorem Tb.warm {g : GG} {s U : State} (hW : s.WarmedH U.vm) (hz : gB g ≤ U.heap.size) (h : Tb g s) : Tb g U := ⟨va_K.moved hW.alike h.1, h.2.1.warm hW, va_AO.moved hW.alike h.2.2.1, va_AO.moved hW.alike h.2.2.2.1, hz⟩
def Pre0 (g : GG) (σ : Mm) (U : State) : Prop := Rel g σ U.heap ∧ Tb g U
def Qg (g : GG) (o : Option Value) (σ' : Mm) : Array Value → State → Outcome → State → Prop := fun _ st oc t => oc = .returned o ∧ Rel g σ' t.heap ∧ va_F (aA g) st t
def Ct (g : GG) (y : MethodName) (cc : ByteArray) (maxL : Nat) (ret : Option FieldType) (rm : Room) (av : List Value) (σ : Mm) (o : Option Value) (σ' : Mm) : Prop :=
  Met (gl g) y (Cond.code y cc maxL ret :: bigG) rm (va_Pc av (Pre0 g σ)) (Qg g o σ') rm.cells rm.slots (aA g)
def En (g : GG) (own : String) (cc : ByteArray) (maxL : Nat) (ret : Option FieldType) (ini : Bool) (p : Program) (s : State) (m : MethodId) (args : Array Value) (meth : Method) (c : Code) : Prop :=
  p.tables.exec = Jvm.exec ∧ c.code = cc ∧ c.maxLocals = maxL ∧ meth.sig.returnType = ret ∧ meth.locks = false ∧ s.vm.findClass own = some m.cls ∧ (∀ w ∈ bigG, w.before args s = true) ∧ (ini = true → meth.name = "<init>") ∧ Tb g s
def VJ (g : GG) (own : String) (cc : ByteArray) (maxL : Nat) (ret : Option FieldType) (ini : Bool) (rm : Room) (o : Option Value) (σ' : Mm) (kc ks pc : Nat) (lv : List (Nat × Value)) (st : List Value) (σ : Mm) : Prop :=
  ∀ (p : Program) (e : Env) (s : State) (m : MethodId) (args : Array Value) (below : List Frame) (meth : Method) (c : Code) (H : Heap) (locs : List Loc) (cells slots : Nat) (ls : Array Slot),
    En g own cc maxL ret ini p s m args meth c → Rel g σ H → va_S (aA g) s.heap H locs → lv_has ls maxL lv → cells + kc ≤ rm.cells → slots + ks ≤ rm.slots →
    W p (gl g) e rm s m args below meth c H locs cells slots (MQ below (Qg g o σ') args s rm.cells rm.slots (aA g)) (F0 m pc ls st)
set_option maxHeartbeats 4000000 in
theorem Ct.of {g : GG} {y : MethodName} {cc : ByteArray} {maxL : Nat} {ret : Option FieldType} {rm : Room} {av : List Value} {σ σ' : Mm} {o : Option Value} (ini : Bool) (hy : plainName y.cls = true) (hini : ini = true → y.name = "<init>") (hlen : (lg_sl av).length ≤ maxL)
    (h : VJ g y.cls cc maxL ret ini rm o σ' rm.cells rm.slots 0 (lv_args 0 av) [] σ) : Ct g y cc maxL ret rm av σ o σ' := by
  refine Met.ofW (cc := cc) (maxL := maxL) (ret := ret) hy rfl ?_
  intro p e s m args below meth c s₁ B hml hv
  obtain ⟨rfl, hR, hT⟩ := hv
  have hts := atoms_spec (ws := Cond.code y cc maxL ret :: bigG) B.pre
  have hl := lv_entry av (n := maxL) hlen
  rw [lg_entry_eq]
  exact h p e s m _ below meth c s.heap [] 0 0 _ ⟨B.exec, B.bytes, hml, B.returns, B.notSynchronized, findClass_of_methodNamed B.named, fun w hw => hts w (List.mem_cons_of_mem _ hw), fun hi => (name_of_methodNamed B.named B.method).1.trans (hini hi), hT⟩ hR va_S.rf hl (Nat.le_of_eq (Nat.zero_add _)) (Nat.le_of_eq (Nat.zero_add _))
theorem wsGood {y : MethodName} {cc : ByteArray} {maxL : Nat} {ret : Option FieldType} (h : Cond.code y cc maxL ret ∈ bigG) : GoodIn bigG (Cond.code y cc maxL ret :: bigG) := by
  intro w hw
  rcases List.mem_cons.mp hw with rfl | hw
  · exact ⟨h, bigG_good h⟩
  · exact ⟨hw, bigG_good hw⟩
section CALLS
variable {p : Program} {e : Env} {rm : Room} {s : State} {m : MethodId} {args : Array Value} {below : List Frame} {meth : Method} {c : Code} {H : Heap} {locs : List Loc} {cells slots : Nat} {Q : State → Prop} {g : GG} {own : String} {cc : ByteArray} {maxL : Nat} {ret : Option FieldType} {ini : Bool} {σ : Mm} {ls : Array Slot} {pc : Nat} {rest st0 : List Value} {lv : List (Nat × Value)}
theorem Tb.U (E : En g own cc maxL ret ini p s m args meth c) (hR : Rel g σ H) {U : State} (hU : U.heap = H) (hW : s.WarmedH U.vm) : Pre0 g σ U :=
  ⟨by rw [hU]; exact hR, E.2.2.2.2.2.2.2.2.warm hW (by rw [hU, hR.1]; exact Nat.le_add_right _ _)⟩
theorem blind (av : List Value) : FrameBlind (va_Pc av (Pre0 g σ)) := fun a U f mk q =>
  ⟨q.1, q.2.1, va_K.moved (u := U) (U := U.calling f mk a) (Vm.Alike.refl U.vm) q.2.2.1, Nws.same (s := U) (U := U.calling f mk a) rfl q.2.2.2.1, va_AO.moved (u := U) (U := U.calling f mk a) (Vm.Alike.refl U.vm) q.2.2.2.2.1, va_AO.moved (u := U) (U := U.calling f mk a) (Vm.Alike.refl U.vm) q.2.2.2.2.2.1, q.2.2.2.2.2.2⟩
/-- what a call needs of the tables: 0 virtual, 1 static, 2 special; nest mates have another link -/
def LkB (y : MethodName) (cc' : ByteArray) (maxL' : Nat) (ret' : Option FieldType) (n : Nat) : Prop :=
  Cond.code y cc' maxL' ret' ∈ bigG ∧ Cond.initialized y.cls ∈ bigG ∧ (y.cls ≠ "java/lang/invoke/MethodHandle" ∧ y.cls ≠ "java/lang/invoke/VarHandle" ∧ (parseMethodDescriptor y.desc).map (fun d => d.parameters.length) = some n)
def LkV (y : MethodName) : Prop := Cond.instanceMethod y ∈ bigG ∧ Cond.selects y.cls y y ∈ bigG
theorem goesOn {rm' : Room} {a : Array Value} {o : Option Value} {σ1 : Mm} {st1 : List Value} (hst1 : o.toList ++ rest = st1)
    (hr : va_Run p (gl g) e rm s m args below meth c H locs cells slots rm'.cells rm'.slots (F0 m pc ls st0) rest (Qg g o σ1 a) (aA g)) (hS : va_S (aA g) s.heap H locs)
    (kk : ∀ (H1 : Heap) (locs1 : List Loc), Rel g σ1 H1 → va_S (aA g) s.heap H1 locs1 → W p (gl g) e rm s m args below meth c H1 locs1 (cells + rm'.cells) (slots + rm'.slots) Q (F0 m (pc + 3) ls st1)) : W p (gl g) e rm s m args below meth c H locs cells slots Q (F0 m pc ls st0) := by
  intro T hT X
  obtain ⟨v, st₀, t, T', L, h0, X', hL, e1, e2, ⟨hv, hR1, hz, hk⟩, st⟩ := hr T hT X
  cases hv
  subst hst1
  rw [h0] at hz hk
  obtain ⟨t2, a1, b1⟩ := kk T'.heap (locs ++ L) (by rw [e1]; exact hR1)
    ⟨Nat.le_trans hS.1 (by rw [e1]; exact hz), fun q h1 h2 => by rw [e1, hk q (Nat.lt_of_lt_of_le h1 hS.1) h2]; exact hS.2.1 q h1 h2, fun q hq => by
      rcases List.mem_append.mp hq with h | h
      · exact hS.2.2 q h
      · exact hL q h⟩ T' rfl X'
  exact ⟨t2, st t2 a1, b1⟩
variable {st1 : List Value} {y : MethodName} {cc' : ByteArray} {maxL' n idx : Nat} {ret' : Option FieldType} {rm' : Room} {As : List Value} {o : Option Value} {σ1 : Mm} {a : Nat} {ci : Nat} {C : String} {T : u_T} {N : Nat} {ty : Nat → FieldType} {host : String}
theorem xV (E : En g own cc maxL ret ini p s m args meth c) (hR : Rel g σ H) (hS : va_S (aA g) s.heap H locs) (hl : lv_has ls maxL lv)
    (hM : Ct g y cc' maxL' ret' rm' (.ref (gB g + a) :: As) σ o σ1) (hk : kO σ a ci = true) (hok : ClsOk ci y.cls T N ty) (hB : LkB y cc' maxL' ret' n) (hV : LkV y) (hlk : Cond.methodLink own idx y ∈ bigG)
    (hroom : rm'.frames + 1 ≤ rm.frames ∧ 8 + (maxL' + 11) + rm'.locals ≤ rm.locals) (hn : As.length = n) (hst : st0 = As.reverse ++ .ref (gB g + a) :: rest) (hst1 : o.toList ++ rest = st1) (hrest : (rest.map fun v => v.category).sum ≤ 8) (hdg : decode cc pc = .ok (.invokevirtual idx, 3)) (hf : cells + rm'.cells ≤ rm.cells ∧ slots + rm'.slots ≤ rm.slots)
    (kk : ∀ (H1 : Heap) (locs1 : List Loc), Rel g σ1 H1 → va_S (aA g) s.heap H1 locs1 → W p (gl g) e rm s m args below meth c H1 locs1 (cells + rm'.cells) (slots + rm'.slots) Q (F0 m (pc + 3) ls st1)) : W p (gl g) e rm s m args below meth c H locs cells slots Q (F0 m pc ls st0) := by
  obtain ⟨hx, hb, hml, hr, hlocks, hown, hts, hin, hT⟩ := id E
  obtain ⟨ha, hkk⟩ := kO_spec hk
  refine goesOn hst1 (a := (Value.ref (gB g + a) :: As).toArray) (va_runV (C := y.cls) (n := n) (As := As) (rest := rest) ⟨hx, hb, hml, hown, hts⟩ hM ⟨callB_of n hts (wsGood hB.1) rfl rfl rfl (hts _ hB.2.1) (hts _ hlk) hB.2.2 hroom, hts _ hV.1, hts _ hV.2⟩ ⟨blind _, va_recv hT.1 hR.2 hok.1 (by rw [hw_get ha, cE_obj hkk]), fun U hU hW => ⟨rfl, Tb.U E hR hU hW⟩⟩ rfl hn hl.1 hst (lv_room hrest) hdg hf) hS kk
theorem xS (E : En g own cc maxL ret ini p s m args meth c) (hR : Rel g σ H) (hS : va_S (aA g) s.heap H locs) (hl : lv_has ls maxL lv)
    (hM : Ct g y cc' maxL' ret' rm' As σ o σ1) (hB : LkB y cc' maxL' ret' n) (hV : Cond.static y ∈ bigG) (hlk : Cond.methodLink own idx y ∈ bigG)
    (hroom : rm'.frames + 1 ≤ rm.frames ∧ 8 + (maxL' + 11) + rm'.locals ≤ rm.locals) (hn : As.length = n) (hst : st0 = As.reverse ++ rest) (hst1 : o.toList ++ rest = st1) (hrest : (rest.map fun v => v.category).sum ≤ 8) (hdg : decode cc pc = .ok (.invokestatic idx, 3)) (hf : cells + rm'.cells ≤ rm.cells ∧ slots + rm'.slots ≤ rm.slots)
    (kk : ∀ (H1 : Heap) (locs1 : List Loc), Rel g σ1 H1 → va_S (aA g) s.heap H1 locs1 → W p (gl g) e rm s m args below meth c H1 locs1 (cells + rm'.cells) (slots + rm'.slots) Q (F0 m (pc + 3) ls st1)) : W p (gl g) e rm s m args below meth c H locs cells slots Q (F0 m pc ls st0) := by
  obtain ⟨hx, hb, hml, hr, hlocks, hown, hts, hin, hT⟩ := id E
  refine goesOn hst1 (a := As.toArray) (va_runS (n := n) (As := As) (rest := rest) ⟨hx, hb, hml, hown, hts⟩ hM ⟨callB_of n hts (wsGood hB.1) rfl rfl rfl (hts _ hB.2.1) (hts _ hlk) hB.2.2 hroom, hts _ hV⟩ ⟨blind _, fun U hU hW => ⟨rfl, Tb.U E hR hU hW⟩⟩ rfl hn hl.1 hst (lv_room hrest) hdg hf) hS kk
theorem xSN (E : En g own cc maxL ret ini p s m args meth c) (hR : Rel g σ H) (hS : va_S (aA g) s.heap H locs) (hl : lv_has ls maxL lv)
    (hM : Ct g y cc' maxL' ret' rm' As σ o σ1) (hB : LkB y cc' maxL' ret' n) (hV : Cond.static y ∈ bigG) (hlk : (own, idx, y, host) ∈ nwL)
    (hroom : rm'.frames + 1 ≤ rm.frames ∧ 8 + (maxL' + 11) + rm'.locals ≤ rm.locals) (hn : As.length = n) (hst : st0 = As.reverse ++ rest) (hst1 : o.toList ++ rest = st1) (hrest : (rest.map fun v => v.category).sum ≤ 8) (hdg : decode cc pc = .ok (.invokestatic idx, 3)) (hf : cells + rm'.cells ≤ rm.cells ∧ slots + rm'.slots ≤ rm.slots)
    (kk : ∀ (H1 : Heap) (locs1 : List Loc), Rel g σ1 H1 → va_S (aA g) s.heap H1 locs1 → W p (gl g) e rm s m args below meth c H1 locs1 (cells + rm'.cells) (slots + rm'.slots) Q (F0 m (pc + 3) ls st1)) : W p (gl g) e rm s m args below meth c H locs cells slots Q (F0 m pc ls st0) := by
  obtain ⟨hx, hb, hml, hr, hlocks, hown, hts, hin, hT⟩ := id E
  refine goesOn hst1 (a := As.toArray) (va_runSN (n := n) (As := As) (rest := rest) ⟨hx, hb, hml, hown, hts⟩ hM ⟨va_cnB n hts (wsGood hB.1) rfl rfl rfl (hT.2.1 _ hlk) (hts _ hB.2.1) hB.2.2 hroom, hts _ hV, trivial⟩ ⟨blind _, fun U hU hW => ⟨rfl, Tb.U E hR hU hW⟩⟩ rfl hn hl.1 hst (lv_room hrest) hdg hf) hS kk
theorem xI (E : En g own cc maxL ret ini p s m args meth c) (hR : Rel g σ H) (hS : va_S (aA g) s.heap H locs) (hl : lv_has ls maxL lv)
    (hM : Ct g y cc' maxL' none rm' (.ref (gB g + a) :: As) σ o σ1) (hB : LkB y cc' maxL' none n) (hV : y.name = "<init>" ∧ Cond.instanceMethod y ∈ bigG) (hlk : Cond.methodLink own idx y ∈ bigG)
    (hroom : rm'.frames + 1 ≤ rm.frames ∧ 8 + (maxL' + 11) + rm'.locals ≤ rm.locals) (hn : As.length = n) (hst : st0 = As.reverse ++ .ref (gB g + a) :: rest) (hst1 : o.toList ++ rest = st1) (hrest : (rest.map fun v => v.category).sum ≤ 8) (hdg : decode cc pc = .ok (.invokespecial idx, 3)) (hf : cells + rm'.cells ≤ rm.cells ∧ slots + rm'.slots ≤ rm.slots)
    (kk : ∀ (H1 : Heap) (locs1 : List Loc), Rel g σ1 H1 → va_S (aA g) s.heap H1 locs1 → W p (gl g) e rm s m args below meth c H1 locs1 (cells + rm'.cells) (slots + rm'.slots) Q (F0 m (pc + 3) ls st1)) : W p (gl g) e rm s m args below meth c H locs cells slots Q (F0 m pc ls st0) := by
  obtain ⟨hx, hb, hml, hr, hlocks, hown, hts, hin, hT⟩ := id E
  refine goesOn hst1 (a := (Value.ref (gB g + a) :: As).toArray) (va_runI (n := n) (As := As) (rest := rest) ⟨hx, hb, hml, hown, hts⟩ hM ⟨callB_of n hts (wsGood hB.1) rfl rfl rfl (hts _ hB.2.1) (hts _ hlk) hB.2.2 hroom, hV.1, hts _ hV.2⟩ ⟨blind _, fun U hU hW => ⟨rfl, Tb.U E hR hU hW⟩⟩ rfl hn hl.1 hst (lv_room hrest) hdg hf) hS kk
theorem xIN (E : En g own cc maxL ret ini p s m args meth c) (hR : Rel g σ H) (hS : va_S (aA g) s.heap H locs) (hl : lv_has ls maxL lv)
    (hM : Ct g y cc' maxL' none rm' (.ref (gB g + a) :: As) σ o σ1) (hB : LkB y cc' maxL' none n) (hV : y.name = "<init>" ∧ Cond.instanceMethod y ∈ bigG) (hlk : (own, idx, y, host) ∈ nwL)
    (hroom : rm'.frames + 1 ≤ rm.frames ∧ 8 + (maxL' + 11) + rm'.locals ≤ rm.locals) (hn : As.length = n) (hst : st0 = As.reverse ++ .ref (gB g + a) :: rest) (hst1 : o.toList ++ rest = st1) (hrest : (rest.map fun v => v.category).sum ≤ 8) (hdg : decode cc pc = .ok (.invokespecial idx, 3)) (hf : cells + rm'.cells ≤ rm.cells ∧ slots + rm'.slots ≤ rm.slots)
    (kk : ∀ (H1 : Heap) (locs1 : List Loc), Rel g σ1 H1 → va_S (aA g) s.heap H1 locs1 → W p (gl g) e rm s m args below meth c H1 locs1 (cells + rm'.cells) (slots + rm'.slots) Q (F0 m (pc + 3) ls st1)) : W p (gl g) e rm s m args below meth c H locs cells slots Q (F0 m pc ls st0) := by
  obtain ⟨hx, hb, hml, hr, hlocks, hown, hts, hin, hT⟩ := id E
  refine goesOn hst1 (a := (Value.ref (gB g + a) :: As).toArray) (va_runIN (n := n) (As := As) (rest := rest) ⟨hx, hb, hml, hown, hts⟩ hM ⟨va_cnB n hts (wsGood hB.1) rfl rfl rfl (hT.2.1 _ hlk) (hts _ hB.2.1) hB.2.2 hroom, hV.1, hts _ hV.2⟩ ⟨blind _, fun U hU hW => ⟨rfl, Tb.U E hR hU hW⟩⟩ rfl hn hl.1 hst (lv_room hrest) hdg hf) hS kk
end CALLS
end
section
/-! ===== fields, arrays, makings, ends: rows over the memory ===== -/
def kL (σ : Mm) (a : Nat) : Bool := decide (a < mN σ) && decide ((mK σ a).1 = 1)
section ROWS
variable {p : Program} {e : Env} {rm : Room} {s : State} {m : MethodId} {args : Array Value} {below : List Frame} {meth : Method} {c : Code} {H : Heap} {locs : List Loc} {cells slots : Nat} {Q : State → Prop} {g : GG} {own : String} {cc : ByteArray} {maxL : Nat} {ret : Option FieldType} {ini : Bool} {σ : Mm} {ls : Array Slot} {pc : Nat} {rest : List Value} {lv : List (Nat × Value)}
variable {idx a ci k : Nat} {C : String} {T : u_T} {N : Nat} {ty : Nat → FieldType}
theorem x_get (E : En g own cc maxL ret ini p s m args meth c) (hR : Rel g σ H) (hk : kO σ a ci = true) (hok : ClsOk ci C T N ty) (k : Nat) (hkN : k < N) (hlk : Cond.fieldLink own idx (T k).1 (T k).2.1 (T k).2.2.1 ∈ bigG) (hdg : decode cc pc = .ok (.getfield idx, 3))
    (kk : W p (gl g) e rm s m args below meth c H locs cells slots Q (F0 m (pc + 3) ls (fV g σ ci a k :: rest))) : W p (gl g) e rm s m args below meth c H locs cells slots Q (F0 m pc ls (.ref (gB g + a) :: rest)) := by
  obtain ⟨hx, hb, hml, hr, hlocks, hown, hts, hin, hT⟩ := id E
  obtain ⟨ha, hkk⟩ := kO_spec hk
  exact va_get hx hb hts hok.2.1 hown hT.1 hR.2 a (by rw [hw_get ha, cE_obj hkk]) hok.1 k hkN (hts _ hlk) (fun x h => h) (fE_get (by rw [hok.2.2.2.2]; exact hkN)) hdg kk
theorem x_getI (E : En g own cc maxL ret ini p s m args meth c) (hR : Rel g σ H) (hk : kO σ a ci = true) (hok : ClsOk ci C T N ty) (k : Nat) (hkN : k < N) (hf : (fT ci).getD k false = false) (hlk : Cond.fieldLink own idx (T k).1 (T k).2.1 (T k).2.2.1 ∈ bigG) (hdg : decode cc pc = .ok (.getfield idx, 3))
    (kk : W p (gl g) e rm s m args below meth c H locs cells slots Q (F0 m (pc + 3) ls (.int (mD σ a k) :: rest))) : W p (gl g) e rm s m args below meth c H locs cells slots Q (F0 m pc ls (.ref (gB g + a) :: rest)) :=
  x_get E hR hk hok k hkN hlk hdg (by rw [show fV g σ ci a k = .int (mD σ a k) by unfold fV; rw [if_neg (by rw [hf]; decide)]]; exact kk)
theorem x_getR {b : Nat} (E : En g own cc maxL ret ini p s m args meth c) (hR : Rel g σ H) (hk : kO σ a ci = true) (hr : mR σ a k = some b) (hok : ClsOk ci C T N ty) (hkN : k < N) (hf : (fT ci).getD k false = true) (hlk : Cond.fieldLink own idx (T k).1 (T k).2.1 (T k).2.2.1 ∈ bigG) (hdg : decode cc pc = .ok (.getfield idx, 3))
    (kk : W p (gl g) e rm s m args below meth c H locs cells slots Q (F0 m (pc + 3) ls (.ref (gB g + b) :: rest))) : W p (gl g) e rm s m args below meth c H locs cells slots Q (F0 m pc ls (.ref (gB g + a) :: rest)) :=
  x_get E hR hk hok k hkN hlk hdg (by rw [show fV g σ ci a k = .ref (gB g + b) by unfold fV; rw [if_pos hf, rE, hr]; rfl]; exact kk)
/-- a store into a field: the memory behind it is σ' -/
theorem x_put {σ' : Mm} {v : Value} (E : En g own cc maxL ret ini p s m args meth c) (hR : Rel g σ H) (hS : va_S (aA g) s.heap H locs) (hk : kO σ a ci = true) (hok : ClsOk ci C T N ty) (k : Nat) (hkN : k < N) (hlk : Cond.fieldLink own idx (T k).1 (T k).2.1 (T k).2.2.1 ∈ bigG)
    (hfin : (T k).2.2.2 = false ∨ ((T k).2.2.2 = true ∧ ini = true ∧ (T k).1 = own)) (hn : narrow (ty k) v = v) (hfit : fits (ty k) v = true)
    (hv : fV g σ' ci a k = v) (hN : mN σ' = mN σ) (hK : mK σ' = mK σ) (ho : ∀ j, j ≠ a → mR σ' j = mR σ j ∧ mD σ' j = mD σ j) (hof : ∀ j, j ≠ k → fV g σ' ci a j = fV g σ ci a j) (hdg : decode cc pc = .ok (.putfield idx, 3))
    (kk : ∀ (H1 : Heap) (locs1 : List Loc), Rel g σ' H1 → va_S (aA g) s.heap H1 locs1 → W p (gl g) e rm s m args below meth c H1 locs1 cells slots Q (F0 m (pc + 3) ls rest)) : W p (gl g) e rm s m args below meth c H locs cells slots Q (F0 m pc ls (v :: .ref (gB g + a) :: rest)) := by
  obtain ⟨hx, hb, hml, hr, hlocks, hown, hts, hin, hT⟩ := id E
  obtain ⟨ha, hkk⟩ := kO_spec hk
  obtain ⟨hc, hinw, hty, hnm, hlen⟩ := id hok
  have he : (hw g σ)[a]? = some (gB g + a, .inr (ci, fE g σ ci a)) := by rw [hw_get ha, cE_obj hkk]
  have hset : (hw g σ).set a (gB g + a, .inr (ci, (fE g σ ci a).set k v)) = hw g σ' := by
    rw [← hv, fE_set hof, ← cE_obj (σ := σ') (by rw [hK]; exact hkk)]
    exact hw_set hN (fun j hj => cE_same (by rw [hK]) (ho j hj).1 (ho j hj).2)
  have hap := va_apart (own := own) hts hinw ty hty hnm hT.1 hc
  obtain ⟨r, h1, cell, q1, q2, q3, q4⟩ := hR.2 a _ he
  have hrr : r = (C, T, N) := Option.some.inj (h1.symm.trans hc)
  subst hrr
  obtain ⟨hSl, hfc, kC, hkC, hkind⟩ := hT.1.1 ci _ hc
  obtain ⟨cf, kf, fi, f, hi, hsl⟩ := hSl k hkN
  have hst := (u_facts hfc hkC (u_lays hts hinw hkN) hi).1
  have fin : ∀ (H' : Heap), H'[gB g + a]? = some (cell.setSlot f.slot v) → H'.size = H.size → (∀ q, q ≠ gB g + a → H'[q]? = H[q]?) → W p (gl g) e rm s m args below meth c H' (locs ++ [⟨gB g + a, f.slot⟩]) cells slots Q (F0 m (pc + 3) ls rest) := by
    intro H' e1 e2 e3
    rw [hsl] at e1
    have hPs : va_P (gG g) vwCl ((hw g σ).set a (gB g + a, .inr (ci, (fE g σ ci a).set k v))) H' :=
      hR.2.set (hw_D g σ) he ⟨_, hc, t_OB.to (V := updV (vp_V (fE g σ ci a)) k v) ⟨_, e1, q2, q3, t_set q4 hap hkN v⟩ (fun j _ => vp_updV_set (by rw [fE_len, hlen]; exact hkN) v j)⟩ e3
    rw [hset] at hPs
    exact kk H' _ ⟨by rw [e2, hR.1, hN], hPs⟩ (hS.put e2 e3 (Nat.le_add_right _ _))
  have hlay := hts _ (hinw _ (u_in_lay hkN))
  unfold u_lay at hlay
  rcases hfin with hfin | ⟨hfin, hini, hdecl⟩
  · rw [if_neg (by rw [hfin]; decide)] at hlay
    have h6 := u_store hfc hkC hkind hlay hi (hty k hkN) hn hfit
    exact W.putK hx hb (f := f) ⟨hown, hts _ hlk, ⟨_, _, _, hi⟩, hst⟩ (by rw [q2]; exact h6) q1 q3 (by rw [hsl]; exact k2_hasslot (q4 k hkN)) rfl rfl hdg fin
  · rw [if_pos hfin] at hlay
    have hcf : m.cls = cf := by
      obtain ⟨_, _, c', _, _, _, -, -, hf', -, -, -, hown2, -⟩ := Cond.laysFinal_spec hlay
      have e1 : c' = cf := by have := hi.symm.trans hf'; simp at this; exact this.1.symm
      rw [hdecl] at hown2
      rw [← e1]; exact Option.some.inj (hown.symm.trans hown2)
    have h6 := u_fits hfc hkC hkind (Or.inr hlay) hi (hty k hkN) hn hfit
    exact W.putFinK hx hb hown (hts _ hlk) hi hst hcf (hin hini) (by rw [q2]; exact h6) q1 q3 (by rw [hsl]; exact k2_hasslot (q4 k hkN)) rfl rfl hdg fin
theorem x_putI {v : Int32} (E : En g own cc maxL ret ini p s m args meth c) (hR : Rel g σ H) (hS : va_S (aA g) s.heap H locs) (hk : kO σ a ci = true) (hok : ClsOk ci C T N ty) (k : Nat) (hkN : k < N) (hf : (fT ci).getD k false = false) (hlk : Cond.fieldLink own idx (T k).1 (T k).2.1 (T k).2.2.1 ∈ bigG)
    (hfin : (T k).2.2.2 = false ∨ ((T k).2.2.2 = true ∧ ini = true ∧ (T k).1 = own)) (hn : narrow (ty k) (.int v) = .int v) (hfit : fits (ty k) (.int v) = true) (hdg : decode cc pc = .ok (.putfield idx, 3))
    (kk : ∀ (H1 : Heap) (locs1 : List Loc), Rel g (sD σ a k v) H1 → va_S (aA g) s.heap H1 locs1 → W p (gl g) e rm s m args below meth c H1 locs1 cells slots Q (F0 m (pc + 3) ls rest)) : W p (gl g) e rm s m args below meth c H locs cells slots Q (F0 m pc ls (.int v :: .ref (gB g + a) :: rest)) := by
  refine x_put (σ' := sD σ a k v) E hR hS hk hok k hkN hlk hfin hn hfit ?_ rfl rfl ?_ ?_ hdg kk
  · unfold fV; rw [if_neg (by rw [hf]; decide)]; simp [mD_sD, upd]
  · intro j hj
    exact ⟨rfl, by rw [mD_sD, if_neg hj]⟩
  · intro j hj
    simp [fV, rE, mR_sD, mD_sD, upd, hj]
theorem x_putR {b : Nat} (E : En g own cc maxL ret ini p s m args meth c) (hR : Rel g σ H) (hS : va_S (aA g) s.heap H locs) (hk : kO σ a ci = true) (hok : ClsOk ci C T N ty) (k : Nat) (hkN : k < N) (hf : (fT ci).getD k false = true) (hlk : Cond.fieldLink own idx (T k).1 (T k).2.1 (T k).2.2.1 ∈ bigG)
    (hfin : (T k).2.2.2 = false ∨ ((T k).2.2.2 = true ∧ ini = true ∧ (T k).1 = own)) (hn : ∀ q, narrow (ty k) (.ref q) = .ref q) (hfit : ∀ q, fits (ty k) (.ref q) = true) (hdg : decode cc pc = .ok (.putfield idx, 3))
    (kk : ∀ (H1 : Heap) (locs1 : List Loc), Rel g (sR σ a k b) H1 → va_S (aA g) s.heap H1 locs1 → W p (gl g) e rm s m args below meth c H1 locs1 cells slots Q (F0 m (pc + 3) ls rest)) : W p (gl g) e rm s m args below meth c H locs cells slots Q (F0 m pc ls (.ref (gB g + b) :: .ref (gB g + a) :: rest)) := by
  refine x_put (σ' := sR σ a k b) E hR hS hk hok k hkN hlk hfin (hn _) (hfit _) ?_ rfl rfl ?_ ?_ hdg kk
  · unfold fV; rw [if_pos hf]; simp [rE, mR_sR, va_up, va_rf]
  · intro j hj
    exact ⟨by rw [mR_sR, if_neg hj], rfl⟩
  · intro j hj
    simp [fV, rE, mR_sR, mD_sR, va_up, hj]
theorem x_ild {i : Int32} (E : En g own cc maxL ret ini p s m args meth c) (hR : Rel g σ H) (hk : kA σ 1 a i = true) (hdg : decode cc pc = .ok (.iaload, 1))
    (kk : W p (gl g) e rm s m args below meth c H locs cells slots Q (F0 m (pc + 1) ls (.int (mD σ a (ix i)) :: rest))) : W p (gl g) e rm s m args below meth c H locs cells slots Q (F0 m pc ls (.int i :: .ref (gB g + a) :: rest)) := by
  obtain ⟨hx, hb, hml, hr, hlocks, hown, hts, hin, hT⟩ := id E
  obtain ⟨ha, hkk, hi⟩ := kA_spec hk
  exact va_iald hx hb hT.1 hR.2 a 0 (by rw [hw_get ha, cE_int hkk]) rfl hi hdg kk
theorem x_zld {i : Int32} (E : En g own cc maxL ret ini p s m args meth c) (hR : Rel g σ H) (hk : kA σ 2 a i = true) (hdg : decode cc pc = .ok (.baload, 1))
    (kk : W p (gl g) e rm s m args below meth c H locs cells slots Q (F0 m (pc + 1) ls (.int (mD σ a (ix i)) :: rest))) : W p (gl g) e rm s m args below meth c H locs cells slots Q (F0 m pc ls (.int i :: .ref (gB g + a) :: rest)) := by
  obtain ⟨hx, hb, hml, hr, hlocks, hown, hts, hin, hT⟩ := id E
  obtain ⟨ha, hkk, hi⟩ := kA_spec hk
  exact va_zald hx hb hT.1 hR.2 a 1 (by rw [hw_get ha, cE_boo hkk]) rfl hi hdg kk
theorem x_ald {i : Int32} {t b : Nat} (E : En g own cc maxL ret ini p s m args meth c) (hR : Rel g σ H) (ht : t = 3 ∨ t = 4) (hk : kA σ t a i = true) (hb' : mR σ a (ix i) = some b) (hdg : decode cc pc = .ok (.aaload, 1))
    (kk : W p (gl g) e rm s m args below meth c H locs cells slots Q (F0 m (pc + 1) ls (.ref (gB g + b) :: rest))) : W p (gl g) e rm s m args below meth c H locs cells slots Q (F0 m pc ls (.int i :: .ref (gB g + a) :: rest)) := by
  obtain ⟨hx, hb, hml, hr, hlocks, hown, hts, hin, hT⟩ := id E
  obtain ⟨ha, hkk, hi⟩ := kA_spec hk
  have hv : va_rf (rE g σ a i.toNatClampNeg) = .ref (gB g + b) := by
    have : mR σ a i.toNatClampNeg = some b := hb'
    simp [rE, this, va_rf]
  rcases ht with rfl | rfl
  · exact va_aldq hx hb hT.1 hR.2 a 2 (by rw [hw_get ha, cE_prs hkk]) rfl hi hdg (by rw [hv]; exact kk)
  · exact va_aldq hx hb hT.1 hR.2 a 3 (by rw [hw_get ha, cE_slt hkk]) rfl hi hdg (by rw [hv]; exact kk)
theorem sA_set {f : Nat → Int32} (hkk : (mK σ a).1 = 1) : (hw g σ).set a (gB g + a, .inl (gcI g, (mK σ a).2, .inl f)) = hw g (sA σ a f) := by
  have h1 : cE g (sA σ a f) a = .inl (gcI g, (mK σ a).2, .inl f) := by rw [cE_int (by rw [mK_sA]; exact hkk), mK_sA, mD_sA, if_pos rfl]
  rw [← h1]
  exact hw_set rfl (fun j hj => cE_same rfl rfl (by rw [mD_sA, if_neg hj]))
theorem sA_setZ {f : Nat → Int32} (hkk : (mK σ a).1 = 2) : (hw g σ).set a (gB g + a, .inl (gcZ g, (mK σ a).2, .inl f)) = hw g (sA σ a f) := by
  have h1 : cE g (sA σ a f) a = .inl (gcZ g, (mK σ a).2, .inl f) := by rw [cE_boo (by rw [mK_sA]; exact hkk), mK_sA, mD_sA, if_pos rfl]
  rw [← h1]
  exact hw_set rfl (fun j hj => cE_same rfl rfl (by rw [mD_sA, if_neg hj]))
theorem x_ist {i x : Int32} (E : En g own cc maxL ret ini p s m args meth c) (hR : Rel g σ H) (hS : va_S (aA g) s.heap H locs) (hk : kA σ 1 a i = true) (hdg : decode cc pc = .ok (.iastore, 1))
    (kk : ∀ (H1 : Heap) (locs1 : List Loc), Rel g (sD σ a (ix i) x) H1 → va_S (aA g) s.heap H1 locs1 → W p (gl g) e rm s m args below meth c H1 locs1 cells slots Q (F0 m (pc + 1) ls rest)) : W p (gl g) e rm s m args below meth c H locs cells slots Q (F0 m pc ls (.int x :: .int i :: .ref (gB g + a) :: rest)) := by
  obtain ⟨hx, hb, hml, hr, hlocks, hown, hts, hin, hT⟩ := id E
  obtain ⟨ha, hkk, hi⟩ := kA_spec hk
  have he : (hw g σ)[a]? = some (gB g + a, .inl (gcI g, (mK σ a).2, .inl (mD σ a))) := by rw [hw_get ha, cE_int hkk]
  refine W.iast hx hb (hR.2 a _ he) ((hT.1.2 0 _ rfl).1 (mK σ a).2 (fun j => .int (mD σ a j))) (fun q => by cases q) (by show ¬ (i < 0 ∨ (arrV _ _ _).slots.size ≤ _); rw [arrV_size]; exact hi) rfl rfl hdg fun H1 e1 z oq => ?_
  refine kk H1 _ ⟨by rw [z, hR.1]; rfl, ?_⟩ (hS.put z oq (Nat.le_add_right _ _))
  show va_P (gG g) vwCl (hw g (sA σ a (upd (mD σ a) (ix i) x))) H1
  rw [← sA_set hkk]
  refine hR.2.set (hw_D g σ) he ?_ oq
  show H1[gB g + a]? = some (vp_cell _ _)
  rw [e1]
  simp only [vp_cell_i, arrV_store]
  congr 2
  funext q
  by_cases hq : q = i.toNatClampNeg
  · subst hq
    simp [updV, upd, ix]
  · simp [updV, upd, hq, ix]
theorem x_zst {i x : Int32} (E : En g own cc maxL ret ini p s m args meth c) (hR : Rel g σ H) (hS : va_S (aA g) s.heap H locs) (hk : kA σ 2 a i = true) (hn : vp_nar .boolean x = x) (hdg : decode cc pc = .ok (.bastore, 1))
    (kk : ∀ (H1 : Heap) (locs1 : List Loc), Rel g (sD σ a (ix i) x) H1 → va_S (aA g) s.heap H1 locs1 → W p (gl g) e rm s m args below meth c H1 locs1 cells slots Q (F0 m (pc + 1) ls rest)) : W p (gl g) e rm s m args below meth c H locs cells slots Q (F0 m pc ls (.int x :: .int i :: .ref (gB g + a) :: rest)) := by
  obtain ⟨hx, hb, hml, hr, hlocks, hown, hts, hin, hT⟩ := id E
  obtain ⟨ha, hkk, hi⟩ := kA_spec hk
  have he : (hw g σ)[a]? = some (gB g + a, .inl (gcZ g, (mK σ a).2, .inl (mD σ a))) := by rw [hw_get ha, cE_boo hkk]
  refine W.zast hx hb (hR.2 a _ he) ((hT.1.2 1 _ rfl).1 (mK σ a).2 (fun j => .int (mD σ a j))) (fun q => by cases q) (by show ¬ (i < 0 ∨ (arrV _ _ _).slots.size ≤ _); rw [arrV_size]; exact hi) rfl rfl hdg fun H1 e1 z oq => ?_
  refine kk H1 _ ⟨by rw [z, hR.1]; rfl, ?_⟩ (hS.put z oq (Nat.le_add_right _ _))
  show va_P (gG g) vwCl (hw g (sA σ a (upd (mD σ a) (ix i) x))) H1
  rw [← sA_setZ hkk]
  refine hR.2.set (hw_D g σ) he ?_ oq
  show H1[gB g + a]? = some (vp_cell _ _)
  rw [e1]
  have hnn : narrow .boolean (.int x) = .int x := by
    exact (show narrow .boolean (.int x) = .int (vp_nar .boolean x) from rfl).trans (by rw [hn])
  rw [hnn]
  simp only [vp_cell_i, arrV_store]
  congr 2
  funext q
  by_cases hq : q = i.toNatClampNeg
  · subst hq
    simp [updV, upd, ix]
  · simp [updV, upd, hq, ix]
theorem x_alen (E : En g own cc maxL ret ini p s m args meth c) (hR : Rel g σ H) (hk : kL σ a = true) (hdg : decode cc pc = .ok (.arraylength, 1))
    (kk : W p (gl g) e rm s m args below meth c H locs cells slots Q (F0 m (pc + 1) ls (.int (Int32.ofNat (mK σ a).2) :: rest))) : W p (gl g) e rm s m args below meth c H locs cells slots Q (F0 m pc ls (.ref (gB g + a) :: rest)) := by
  obtain ⟨hx, hb, hml, hr, hlocks, hown, hts, hin, hT⟩ := id E
  simp only [kL, Bool.and_eq_true, decide_eq_true_eq] at hk
  exact va_alen hx hb hT.1 hR.2 a 0 (by rw [hw_get hk.1, cE_int hk.2]) (ty := .int) rfl rfl hdg kk
/-- the ends -/
theorem xr_i {Qo : Option Value} {σ' : Mm} {v : Int32} (E : En g own cc maxL ret ini p s m args meth c) (hR : Rel g σ H) (hS : va_S (aA g) s.heap H locs) (hret : ret = some .int) (ho : Qo = some (.int v)) (hs : σ' = σ) (hc : cells ≤ rm.cells) (hsl : slots ≤ rm.slots) (hdg : decode cc pc = .ok (.ireturn, 1)) :
    W p (gl g) e rm s m args below meth c H locs cells slots (MQ below (Qg g Qo σ') args s rm.cells rm.slots (aA g)) (F0 m pc ls [.int v]) := by
  obtain ⟨hx, hb, hml, hr, hlocks, hown, hts, hin, hT⟩ := id E
  subst hret; subst ho; subst hs
  refine W.widen hc hsl ?_
  exact W.iret hx hb hr (fun t ht hW => ⟨rfl, by rw [ht]; exact hR, hS.F ht⟩) hS.2.2 hdg hlocks
theorem xr_z {Qo : Option Value} {σ' : Mm} {v : Int32} (E : En g own cc maxL ret ini p s m args meth c) (hR : Rel g σ H) (hS : va_S (aA g) s.heap H locs) (hret : ret = some .boolean) (hz : vp_nar .boolean v = v) (ho : Qo = some (.int v)) (hs : σ' = σ) (hc : cells ≤ rm.cells) (hsl : slots ≤ rm.slots) (hdg : decode cc pc = .ok (.ireturn, 1)) :
    W p (gl g) e rm s m args below meth c H locs cells slots (MQ below (Qg g Qo σ') args s rm.cells rm.slots (aA g)) (F0 m pc ls [.int v]) := by
  obtain ⟨hx, hb, hml, hr, hlocks, hown, hts, hin, hT⟩ := id E
  subst hret; subst ho; subst hs
  refine W.widen hc hsl ?_
  have hnn : narrow .boolean (.int v) = .int v := by
    exact (show narrow .boolean (.int v) = .int (vp_nar .boolean v) from rfl).trans (by rw [hz])
  exact W.zret hx hb hr hnn (fun t ht hW => ⟨rfl, by rw [ht]; exact hR, hS.F ht⟩) hS.2.2 hdg hlocks
theorem xr_l {Qo : Option Value} {σ' : Mm} {v : Int64} (E : En g own cc maxL ret ini p s m args meth c) (hR : Rel g σ H) (hS : va_S (aA g) s.heap H locs) (hret : ret = some .long) (ho : Qo = some (.long v)) (hs : σ' = σ) (hc : cells ≤ rm.cells) (hsl : slots ≤ rm.slots) (hdg : decode cc pc = .ok (.lreturn, 1)) :
    W p (gl g) e rm s m args below meth c H locs cells slots (MQ below (Qg g Qo σ') args s rm.cells rm.slots (aA g)) (F0 m pc ls [.long v]) := by
  obtain ⟨hx, hb, hml, hr, hlocks, hown, hts, hin, hT⟩ := id E
  subst hret; subst ho; subst hs
  refine W.widen hc hsl ?_
  exact W.lret hx hb hr (fun t ht hW => ⟨rfl, by rw [ht]; exact hR, hS.F ht⟩) hS.2.2 hdg hlocks
theorem xr_a {Qo : Option Value} {σ' : Mm} {v : Nat} {nm : String} (E : En g own cc maxL ret ini p s m args meth c) (hR : Rel g σ H) (hS : va_S (aA g) s.heap H locs) (hret : ret = some (.object nm)) (ho : Qo = some (.ref (gB g + v))) (hs : σ' = σ) (hc : cells ≤ rm.cells) (hsl : slots ≤ rm.slots) (hdg : decode cc pc = .ok (.areturn, 1)) :
    W p (gl g) e rm s m args below meth c H locs cells slots (MQ below (Qg g Qo σ') args s rm.cells rm.slots (aA g)) (F0 m pc ls [.ref (gB g + v)]) := by
  obtain ⟨hx, hb, hml, hr, hlocks, hown, hts, hin, hT⟩ := id E
  subst hret; subst ho; subst hs
  refine W.widen hc hsl ?_
  exact W.aret hx hb hr (Or.inl ⟨nm, rfl⟩) (Or.inr ⟨_, rfl⟩) (fun t ht hW => ⟨rfl, by rw [ht]; exact hR, hS.F ht⟩) hS.2.2 hdg hlocks
theorem xr_v {Qo : Option Value} {σ' : Mm} (E : En g own cc maxL ret ini p s m args meth c) (hR : Rel g σ H) (hS : va_S (aA g) s.heap H locs) (hret : ret = none) (ho : Qo = none) (hs : σ' = σ) (hc : cells ≤ rm.cells) (hsl : slots ≤ rm.slots) (hdg : decode cc pc = .ok (.return_, 1)) :
    W p (gl g) e rm s m args below meth c H locs cells slots (MQ below (Qg g Qo σ') args s rm.cells rm.slots (aA g)) (F0 m pc ls []) := by
  obtain ⟨hx, hb, hml, hr, hlocks, hown, hts, hin, hT⟩ := id E
  subst hret; subst ho; subst hs
  refine W.widen hc hsl ?_
  exact W.vret hx hb hr (fun t ht hW => ⟨rfl, by rw [ht]; exact hR, hS.F ht⟩) hS.2.2 hdg hlocks
end ROWS
end
section
/-! ===== makings; arrays of references; arraycopy; Object's own beginning ===== -/
section MAKES
variable {p : Program} {e : Env} {rm : Room} {s : State} {m : MethodId} {args : Array Value} {below : List Frame} {meth : Method} {c : Code} {H : Heap} {locs : List Loc} {cells slots : Nat} {Q : State → Prop} {g : GG} {own : String} {cc : ByteArray} {maxL : Nat} {ret : Option FieldType} {ini : Bool} {σ : Mm} {ls : Array Slot} {pc : Nat} {rest : List Value} {lv : List (Nat × Value)}
variable {idx a ci k : Nat} {C : String} {T : u_T} {N : Nat} {ty : Nat → FieldType}
theorem Rel.push {kd : Nat × Nat} {H1 : Heap} (hR : Rel g σ H) (hS : va_S (aA g) s.heap H locs) (z1 : H1.size = H.size + 1) (o1 : ∀ q, q < H.size → H1[q]? = H[q]?) (hat : va_at (gG g) vwCl (gB g + mN σ, cE g (nw σ kd) (mN σ)) H1) :
    Rel g (nw σ kd) H1 ∧ va_S (aA g) s.heap H1 locs := by
  refine ⟨⟨by rw [z1, hR.1, mN_nw]; omega, ?_⟩, ⟨Nat.le_trans hS.1 (by omega), fun x h1 h2 => (o1 x (Nat.lt_of_lt_of_le h1 hS.1)).trans (hS.2.1 x h1 h2), hS.2.2⟩⟩
  rw [← hw_push (mN_nw σ kd) (fun j hj => cE_same (by rw [mK_nw, if_neg (Nat.ne_of_lt hj)]) (by rw [mR_nw, if_neg (Nat.ne_of_lt hj)]) (by rw [mD_nw, if_neg (Nat.ne_of_lt hj)]))]
  refine (hR.2.kept (fun k x hx => o1 x.1 ((hR.2 k x hx).lt))).app (fun k x hx => ?_)
  have hz : k < 1 := (List.getElem?_eq_some_iff.mp hx).1
  rw [show k = 0 by omega] at hx
  cases hx
  exact hat
theorem x_new (E : En g own cc maxL ret ini p s m args meth c) (hR : Rel g σ H) (hS : va_S (aA g) s.heap H locs) (hok : ClsOk ci C T N ty) (hdef : ∀ j, j < N → defaultValue (ty j) = if (fT ci).getD j false = true then .null else .int 0) (hlk : Cond.classLink own idx C ∈ bigG) (hin : Cond.instantiable C N ∈ bigG) (hini : Cond.initialized C ∈ bigG)
    (hcells : cells + 1 ≤ rm.cells) (hslots : slots + N ≤ rm.slots) (hdg : decode cc pc = .ok (.new idx, 3))
    (kk : ∀ (H1 : Heap), Rel g (nw σ (0, ci)) H1 → va_S (aA g) s.heap H1 locs → W p (gl g) e rm s m args below meth c H1 locs (cells + 1) (slots + N) Q (F0 m (pc + 3) ls (.ref (gB g + mN σ) :: rest))) : W p (gl g) e rm s m args below meth c H locs cells slots Q (F0 m pc ls rest) := by
  obtain ⟨hx, hb, hml, hr, hlocks, hown, hts, hinn, hT⟩ := id E
  obtain ⟨hc, hinw, hty, hnm, hlen⟩ := id hok
  have hKn := hT.1.1 ci _ hc
  refine W.newcK hx hb hown (hts _ hlk) (hts _ hin) (hts _ hini) rfl hdg hcells hslots hKn.2.1 hR.1 fun H1 kC hkC e1 z1 o1 => ?_
  have h := Rel.push (kd := (0, ci)) hR hS (by rw [z1, hR.1]) (by rw [hR.1]; exact o1) (by
    rw [cE_obj (by rw [mK_nw, if_pos rfl])]
    refine ⟨_, hc, (u_born ty hts hinw hKn hkC e1 hty).to (fun j hj => ?_)⟩
    rw [hdef j hj]
    show _ = (fE g (nw σ (0, ci)) ci (mN σ)).getD j .null
    have h9 := fE_get (g := g) (σ := nw σ (0, ci)) (ci := ci) (i := mN σ) (k := j) (by rw [hlen]; exact hj)
    simp only [List.getD_eq_getElem?_getD, h9, Option.getD_some, fV, rE, mR_nw, mD_nw, if_true, Option.map_none, va_rf])
  exact kk H1 h.1 h.2
theorem x_newI {n : Int32} {L : Nat} (E : En g own cc maxL ret ini p s m args meth c) (hR : Rel g σ H) (hS : va_S (aA g) s.heap H locs) (har : Cond.arrayClass .int ∈ bigG) (hn : ¬ n < 0) (hL : n.toNatClampNeg = L) (hb4 : L ≤ 100000)
    (hcells : cells + 1 ≤ rm.cells) (hslots : slots + L ≤ rm.slots) (hdg : decode cc pc = .ok (.newarray .int, 2))
    (kk : ∀ (H1 : Heap), Rel g (nw σ (1, L)) H1 → va_S (aA g) s.heap H1 locs → W p (gl g) e rm s m args below meth c H1 locs (cells + 1) (slots + L) Q (F0 m (pc + 2) ls (.ref (gB g + mN σ) :: rest))) : W p (gl g) e rm s m args below meth c H locs cells slots Q (F0 m pc ls (.int n :: rest)) := by
  obtain ⟨hx, hb, hml, hr, hlocks, hown, hts, hinn, hT⟩ := id E
  have hcb : L * componentBytes .int ≤ 536870912 := by
    have : componentBytes .int = 4 := by decide
    rw [this]; omega
  refine va_newaK (atype := .int) hx hb (hts _ har) rfl hdg rfl hn hL hcb hcells hslots hR.1 fun H1 cA e1 z1 o1 hAr hNm => ?_
  have hA : cA = gcI g := Option.some.inj (hNm.symm.trans (hT.1.2 0 _ rfl).2)
  subst hA
  have h := Rel.push (kd := (1, L)) hR hS (by rw [z1, hR.1]) (by rw [hR.1]; exact o1) (by
    rw [cE_int (by rw [mK_nw, if_pos rfl])]
    show H1[gB g + mN σ]? = some (vp_cell _ _)
    rw [e1, vp_cell_i, mK_nw, if_pos rfl, mD_nw, if_pos rfl]
    rfl)
  exact kk H1 h.1 h.2
theorem x_newZ {n : Int32} {L : Nat} (E : En g own cc maxL ret ini p s m args meth c) (hR : Rel g σ H) (hS : va_S (aA g) s.heap H locs) (har : Cond.arrayClass .boolean ∈ bigG) (hn : ¬ n < 0) (hL : n.toNatClampNeg = L) (hb4 : L ≤ 100000)
    (hcells : cells + 1 ≤ rm.cells) (hslots : slots + L ≤ rm.slots) (hdg : decode cc pc = .ok (.newarray .boolean, 2))
    (kk : ∀ (H1 : Heap), Rel g (nw σ (2, L)) H1 → va_S (aA g) s.heap H1 locs → W p (gl g) e rm s m args below meth c H1 locs (cells + 1) (slots + L) Q (F0 m (pc + 2) ls (.ref (gB g + mN σ) :: rest))) : W p (gl g) e rm s m args below meth c H locs cells slots Q (F0 m pc ls (.int n :: rest)) := by
  obtain ⟨hx, hb, hml, hr, hlocks, hown, hts, hinn, hT⟩ := id E
  have hcb : L * componentBytes .boolean ≤ 536870912 := by
    have : componentBytes .boolean ≤ 4 := by decide
    exact Nat.le_trans (Nat.mul_le_mul hb4 this) (by decide)
  refine va_newaK (atype := .boolean) hx hb (hts _ har) rfl hdg rfl hn hL hcb hcells hslots hR.1 fun H1 cA e1 z1 o1 hAr hNm => ?_
  have hA : cA = gcZ g := Option.some.inj (hNm.symm.trans (hT.1.2 1 _ rfl).2)
  subst hA
  have h := Rel.push (kd := (2, L)) hR hS (by rw [z1, hR.1]) (by rw [hR.1]; exact o1) (by
    rw [cE_boo (by rw [mK_nw, if_pos rfl])]
    show H1[gB g + mN σ]? = some (vp_cell _ _)
    rw [e1, vp_cell_i, mK_nw, if_pos rfl, mD_nw, if_pos rfl]
    rfl)
  exact kk H1 h.1 h.2
theorem x_newq {n : Int32} {L t : Nat} (E : En g own cc maxL ret ini p s m args meth c) (hR : Rel g σ H) (hS : va_S (aA g) s.heap H locs) (ht : (t = 3 ∧ C = "BorderProofs$Pairs") ∨ (t = 4 ∧ C = "BorderProofs$Slot")) (hlk : Cond.classLink own idx C ∈ bigG) (hn : ¬ n < 0) (hL : n.toNatClampNeg = L) (hb4 : L ≤ 100000)
    (hcells : cells + 1 ≤ rm.cells) (hslots : slots + L ≤ rm.slots) (hdg : decode cc pc = .ok (.anewarray idx, 3))
    (kk : ∀ (H1 : Heap), Rel g (nw σ (t, L)) H1 → va_S (aA g) s.heap H1 locs → W p (gl g) e rm s m args below meth c H1 locs (cells + 1) (slots + L) Q (F0 m (pc + 3) ls (.ref (gB g + mN σ) :: rest))) : W p (gl g) e rm s m args below meth c H locs cells slots Q (F0 m pc ls (.int n :: rest)) := by
  obtain ⟨hx, hb, hml, hr, hlocks, hown, hts, hinn, hT⟩ := id E
  subst hL
  have hover : va_AO C s := by rcases ht with ⟨-, rfl⟩ | ⟨-, rfl⟩; exact hT.2.2.1; exact hT.2.2.2.1
  refine W.anew hx hb hown (hts _ hlk) (va_AO.use hover) rfl hdg rfl hn (by omega) hcells hslots fun cA kA comp f1 f2 f3 f4 => ?_
  have hat : cE g (nw σ (t, n.toNatClampNeg)) (mN σ) = .inl (cA, n.toNatClampNeg, .inr (.inr (.inr (.inr (fun _ => none))))) := by
    have hrr : rE g (nw σ (t, n.toNatClampNeg)) (mN σ) = fun _ => none := by funext k; simp [rE, mR_nw]
    rcases ht with ⟨rfl, rfl⟩ | ⟨rfl, rfl⟩
    · obtain ⟨k1, c1, r1, r2, r3, r4⟩ := (hT.1.2 2 _ rfl).2
      rw [cE_prs (by rw [mK_nw, if_pos rfl]), hrr, mK_nw, if_pos rfl, Option.some.inj (f1.symm.trans r4)]
    · obtain ⟨k1, c1, r1, r2, r3, r4⟩ := (hT.1.2 3 _ rfl).2
      rw [cE_slt (by rw [mK_nw, if_pos rfl]), hrr, mK_nw, if_pos rfl, Option.some.inj (f1.symm.trans r4)]
  generalize hH1 : H.push ({ cls := cA, slots := Array.replicate n.toNatClampNeg .null, vm := .none } : Cell) = H1
  have z1 : H1.size = H.size + 1 := by rw [← hH1, Array.size_push]
  have e1 : H1[H.size]? = some (arrV cA n.toNatClampNeg (fun _ => .null)) := by rw [← hH1, Array.getElem?_push_size, ← arrV_new]
  have o1 : ∀ q : Nat, q < H.size → H1[q]? = H[q]? := fun q hq => by rw [← hH1, Array.getElem?_push, if_neg (Nat.ne_of_lt hq)]
  have h := Rel.push (kd := (t, n.toNatClampNeg)) hR hS z1 o1 (by
    rw [hat]
    show H1[gB g + mN σ]? = some (vp_cell _ _)
    rw [← hR.1, e1, vp_cell_q]
    rfl)
  rw [hR.1]
  exact kk H1 h.1 h.2
theorem x_ast {i : Int32} {t v : Nat} (E : En g own cc maxL ret ini p s m args meth c) (hR : Rel g σ H) (hS : va_S (aA g) s.heap H locs) (ht : (t = 3 ∧ ci = 2) ∨ (t = 4 ∧ ci = 6)) (hk : kA σ t a i = true) (hv : kO σ v ci = true) (hdg : decode cc pc = .ok (.aastore, 1))
    (kk : ∀ (H1 : Heap) (locs1 : List Loc), Rel g (sR σ a (ix i) v) H1 → va_S (aA g) s.heap H1 locs1 → W p (gl g) e rm s m args below meth c H1 locs1 cells slots Q (F0 m (pc + 1) ls rest)) : W p (gl g) e rm s m args below meth c H locs cells slots Q (F0 m pc ls (.ref (gB g + v) :: .int i :: .ref (gB g + a) :: rest)) := by
  obtain ⟨hx, hb, hml, hr, hlocks, hown, hts, hinn, hT⟩ := id E
  obtain ⟨ha, hkk, hi⟩ := kA_spec hk
  obtain ⟨hva, hvk⟩ := kO_spec hv
  have hlt : i.toNatClampNeg < (mK σ a).2 := Nat.not_le.mp fun q => hi (Or.inr q)
  have h0 : ¬ i < 0 := fun q => hi (Or.inl q)
  obtain ⟨C, T, N, cA, t0, hc, htt, he⟩ : ∃ (C : String) (T : u_T) (N : Nat) (cA : ClassId) (t0 : Nat), vwCl[ci]? = some (C, T, N) ∧ (tysG g)[t0]? = some (cA, .object C) ∧ cE g σ a = .inl (cA, (mK σ a).2, .inr (.inr (.inr (.inr (rE g σ a))))) ∧ ∀ σ' : Mm, mK σ' = mK σ → cE g σ' a = .inl (cA, (mK σ a).2, .inr (.inr (.inr (.inr (rE g σ' a))))) := by
    rcases ht with ⟨rfl, rfl⟩ | ⟨rfl, rfl⟩
    · exact ⟨RX2, TX2, 2, gcP g, 2, rfl, rfl, cE_prs hkk, fun σ' h => by rw [cE_prs (by rw [h]; exact hkk), h]⟩
    · exact ⟨RX6, TX6, 2, gcS g, 3, rfl, rfl, cE_slt hkk, fun σ' h => by rw [cE_slt (by rw [h]; exact hkk), h]⟩
  obtain ⟨he, he'⟩ := he
  have hea : (hw g σ)[a]? = some (gB g + a, .inl (cA, (mK σ a).2, .inr (.inr (.inr (.inr (rE g σ a)))))) := by rw [hw_get ha, he]
  obtain ⟨r', hr', cellV, g1, g2, g3, -⟩ := hR.2 v _ (show (hw g σ)[v]? = some (gB g + v, .inr (ci, fE g σ ci v)) by rw [hw_get hva, cE_obj hvk])
  have hcls := (hT.1.1 ci _ hc).2
  obtain ⟨kA', comp, k1, k2, k3, -⟩ := (hT.1.2 t0 _ htt).2
  have hcomp : comp = (gG g).1 ci := Option.some.inj (k3.symm.trans hcls.1)
  subst hcomp
  obtain ⟨kC, hkC, -⟩ := hcls.2
  refine W.aast hx hb (hR.2 a _ hea) (fun q h => by cases h) (fun h => by cases h) k1 k2 rfl hkC ⟨h0, by show _ < (arrV _ _ _).slots.size; rw [arrV_size]; exact hlt⟩ g1 (fun q h => by rw [g3] at h; cases h) (by rw [g2]; exact hkC) (by rw [g2]; exact va_assign hcls) rfl rfl hdg fun H1 e1 z oq => ?_
  have hset : (hw g σ).set a (gB g + a, cE g (sR σ a (ix i) v) a) = hw g (sR σ a (ix i) v) := hw_set rfl (fun j hj => cE_same rfl (by rw [mR_sR, if_neg hj]) rfl)
  refine kk H1 _ ⟨by rw [z, hR.1]; rfl, ?_⟩ (hS.put z oq (Nat.le_add_right _ _))
  rw [← hset, he' (sR σ a (ix i) v) rfl]
  refine hR.2.set (hw_D g σ) hea ?_ oq
  show H1[gB g + a]? = some (vp_cell _ _)
  rw [e1]
  simp only [vp_cell_q, arrV_store]
  congr 2
  funext q
  by_cases hq : q = i.toNatClampNeg
  · subst hq
    simp [updV, va_up, va_rf, rE, mR_sR, ix]
  · simp [updV, va_up, hq, rE, mR_sR, ix]
theorem x_obj (E : En g own cc maxL ret ini p s m args meth c) (hl : lv_has ls maxL lv) (h1 : Cond.methodLink own idx Lib.objectInit ∈ bigG) (h2 : Cond.instanceMethod Lib.objectInit ∈ bigG) (h3 : Cond.code Lib.objectInit ⟨#[0xb1]⟩ 1 none ∈ bigG) (hf : 1 ≤ rm.frames) (hlo : (rest.map fun v => v.category).sum + 12 ≤ rm.locals) (hdg : decode cc pc = .ok (.invokespecial idx, 3))
    (kk : W p (gl g) e rm s m args below meth c H locs cells slots Q (F0 m (pc + 3) ls rest)) : W p (gl g) e rm s m args below meth c H locs cells slots Q (F0 m pc ls (.ref a :: rest)) := by
  obtain ⟨hx, hb, hml, hr, hlocks, hown, hts, hinn, hT⟩ := id E
  exact W.objInit hx hb hown (hts _ h1) (hts _ h2) (hts _ h3) rfl (hl.1.trans hml.symm) rfl hdg hf (by show 2 * 0 + _ + _ ≤ _; omega) kk
def kC (σ : Mm) (a0 a : Nat) (sp dp n : Int32) : Bool := decide (a0 < mN σ) && decide ((mK σ a0).1 = 1) && decide (a < mN σ) && decide ((mK σ a).1 = 1) && decide (¬ sp < 0) && decide (¬ dp < 0) && decide (¬ n < 0) && decide (ix sp + ix n ≤ (mK σ a0).2) && decide (ix dp + ix n ≤ (mK σ a).2)
def sC (σ : Mm) (a0 a : Nat) (sp dp n : Int32) : Mm := sA σ a (va_cpy (mD σ a0) (mD σ a) (ix sp) (ix dp) (ix n))
set_option maxHeartbeats 1000000 in
theorem x_copy {a0 : Nat} {sp dp n : Int32} (E : En g own cc maxL ret ini p s m args meth c) (hR : Rel g σ H) (hS : va_S (aA g) s.heap H locs) (hl : lv_has ls maxL lv) (hk : kC σ a0 a sp dp n = true) (hlink : Cond.methodLink own idx arraycopyName ∈ bigG) (hnat : Cond.native arraycopyName ∈ bigG) (hstat : Cond.static arraycopyName ∈ bigG) (hini : Cond.initialized "java/lang/System" ∈ bigG)
    (hframes : 1 ≤ rm.frames) (hlocals : (rest.map fun v => v.category).sum + (nativeFrameWords "java/lang/System" "arraycopy" 5 + 11) ≤ rm.locals) (hdg : decode cc pc = .ok (.invokestatic idx, 3))
    (kk : ∀ (H1 : Heap) (locs1 : List Loc), Rel g (sC σ a0 a sp dp n) H1 → va_S (aA g) s.heap H1 locs1 → W p (gl g) e rm s m args below meth c H1 locs1 cells slots Q (F0 m (pc + 3) ls rest)) : W p (gl g) e rm s m args below meth c H locs cells slots Q (F0 m pc ls (.int n :: .int dp :: .ref (gB g + a) :: .int sp :: .ref (gB g + a0) :: rest)) := by
  obtain ⟨hx, hb, hml, hr, hlocks, hown, hts, hinn, hT⟩ := id E
  simp only [kC, Bool.and_eq_true, decide_eq_true_eq] at hk
  obtain ⟨⟨⟨⟨⟨⟨⟨⟨ha0, hk0⟩, ha⟩, hk1⟩, h1⟩, h2⟩, h3⟩, h4⟩, h5⟩ := hk
  have nn : ∀ z : Int32, ¬ z < 0 → z.toInt = (z.toNatClampNeg : Int) := by
    intro z hz
    have hz0 : (0 : Int) ≤ z.toInt := by
      have := Int32.not_lt.mp hz
      simpa using Int32.le_iff_toInt_le.mp this
    show z.toInt = ((z.toInt.toNat : Nat) : Int)
    omega
  have he0 : (hw g σ)[a0]? = some (gB g + a0, .inl (gcI g, (mK σ a0).2, .inl (mD σ a0))) := by rw [hw_get ha0, cE_int hk0]
  have he1 : (hw g σ)[a]? = some (gB g + a, .inl (gcI g, (mK σ a).2, .inl (mD σ a))) := by rw [hw_get ha, cE_int hk1]
  have hc0 : H[gB g + a0]? = some (vp_cell (gcI g) ((mK σ a0).2, .inl (mD σ a0))) := hR.2 a0 _ he0
  have hc1 : H[gB g + a]? = some (vp_cell (gcI g) ((mK σ a).2, .inl (mD σ a))) := hR.2 a _ he1
  intro T hT' X
  obtain ⟨-, k0, hkc0, cm0, hkk0⟩ := (hT.1.2 0 _ rfl).1 (mK σ a0).2 (fun j => .int (mD σ a0 j))
  obtain ⟨-, k1, hkc1, cm1, hkk1⟩ := (hT.1.2 0 _ rfl).1 (mK σ a).2 (fun j => .int (mD σ a j))
  obtain ⟨vm', X', step⟩ := X.arraycopy hx hown (hts _ hlink) (hts _ hnat) (hts _ hstat) (hts _ hini) (src := gB g + a0) (dst := gB g + a) (cs := vp_cell (gcI g) ((mK σ a0).2, .inl (mD σ a0))) (cd := vp_cell (gcI g) ((mK σ a).2, .inl (mD σ a))) (srcPos := sp) (destPos := dp) (n := n) (by rw [hT']; exact hc0) (by rw [hT']; exact hc1)
    (fun _ h => by cases h) (fun _ h => by cases h) (fun h => by cases h) (fun h => by cases h) hkc0 hkc1 hkk0 hkk1 (by rfl) h1 h2 h3
    (by rw [nn sp h1, nn n h3]; show ¬ _ > ((arrV _ (mK σ a0).2 (fun j => .int (mD σ a0 j))).slots.size : Int); rw [arrV_size]; unfold ix at h4; omega)
    (by rw [nn dp h2, nn n h3]; show ¬ _ > ((arrV _ (mK σ a).2 (fun j => .int (mD σ a j))).slots.size : Int); rw [arrV_size]; unfold ix at h5; omega)
    (fun vm₁ _ i hi => by
      have e1 : (vp_cell (gcI g) ((mK σ a0).2, .inl (mD σ a0))).slots.getD (sp.toNatClampNeg + i) .null = .int (mD σ a0 (sp.toNatClampNeg + i)) := by
        show (arrV _ (mK σ a0).2 (fun j => .int (mD σ a0 j))).slots.getD _ _ = _
        rw [Array.getD_eq_getD_getElem?, arrV_read _ _ (by unfold ix at h4; omega)]
        rfl
      exact ⟨by rw [e1]; rfl, by rw [e1]; exact trivial⟩)
    (g := F0 m pc ls (.int n :: .int dp :: .ref (gB g + a) :: .int sp :: .ref (gB g + a0) :: rest)) rfl (by rw [hml]; exact hl.1) (rest := rest) rfl (by rw [hb]; exact hdg) hframes (by show 2 * 0 + _ + _ ≤ _; omega)
  have e1 : copied (vp_cell (gcI g) ((mK σ a0).2, .inl (mD σ a0))) (vp_cell (gcI g) ((mK σ a).2, .inl (mD σ a))) sp dp n = vp_cell (gcI g) ((mK σ a).2, .inl (va_cpy (mD σ a0) (mD σ a) sp.toNatClampNeg dp.toNatClampNeg n.toNatClampNeg)) := va_copied (fun z => .int z) _ _ (mD σ a0) (mD σ a) h4
  rw [e1] at X' step
  have hl : gB g + a < H.size := (Array.getElem?_eq_some_iff.mp hc1).1
  generalize hcell : vp_cell (gcI g) ((mK σ a).2, .inl (va_cpy (mD σ a0) (mD σ a) sp.toNatClampNeg dp.toNatClampNeg n.toNatClampNeg)) = cell at X' step
  have hheap : ((T.setVm vm').setCell (gB g + a) cell).heap = H.setIfInBounds (gB g + a) cell := by rw [← hT']; rfl
  have oq : ∀ q : Nat, q ≠ gB g + a → (H.setIfInBounds (gB g + a) cell)[q]? = H[q]? := fun q hq => by simp [Array.getElem?_setIfInBounds, Ne.symm hq]
  have hz : (H.setIfInBounds (gB g + a) cell).size = H.size := by simp
  have hP1 : va_P (gG g) vwCl (hw g (sC σ a0 a sp dp n)) (H.setIfInBounds (gB g + a) cell) := by
    show va_P (gG g) vwCl (hw g (sA σ a _)) _
    rw [← sA_set hk1]
    refine hR.2.set (hw_D g σ) he1 ?_ oq
    show (H.setIfInBounds (gB g + a) cell)[gB g + a]? = some (vp_cell _ _)
    rw [Array.getElem?_setIfInBounds, if_pos rfl, if_pos hl, ← hcell]
    rfl
  obtain ⟨t, a1, b1⟩ := kk _ _ ⟨by rw [hz, hR.1]; rfl, hP1⟩ ⟨by rw [hz]; exact hS.1, fun q g1 g2 => by
      rw [oq q (fun h => g2 (by rw [h]; exact Nat.le_add_right _ _))]
      exact hS.2.1 q g1 g2, fun q hq => by
      rcases List.mem_append.mp hq with h | h
      · exact hS.2.2 q h
      · obtain ⟨z, -, hz⟩ := List.mem_map.mp h
        rw [← hz]
        exact Nat.le_add_right _ _⟩ _ hheap X'
  exact ⟨t, step t a1, b1⟩
end MAKES
/-! ===== how the numbers of a run are told: checks, calls, references, memories ===== -/
def zck {α : Type} (c : Bool) (x : Option α) : Option α := if c = true then x else none
def zcb {α β : Type} (o : Option (α × Mm)) (f : α → Mm → Option β) : Option β := match o with
  | none => none
  | some q => f q.1 q.2
def zrb {β : Type} (o : Option Nat) (f : Nat → Option β) : Option β := match o with
  | none => none
  | some b => f b
def zlt {β : Type} (x : Mm) (f : Mm → Option β) : Option β := f x
theorem zc_s {α : Type} {c : Bool} {x : Option α} {y : α} (h : zck c x = some y) : c = true ∧ x = some y := by
  unfold zck at h
  split at h
  · exact ⟨by assumption, h⟩
  · cases h
theorem zq_s {α β : Type} {o : Option (α × Mm)} {f : α → Mm → Option β} {y : β} (h : zcb o f = some y) : ∃ (r : α) (σ1 : Mm), o = some (r, σ1) ∧ f r σ1 = some y := by
  cases o with
  | none => cases h
  | some q => exact ⟨q.1, q.2, rfl, h⟩
theorem zr_s {β : Type} {o : Option Nat} {f : Nat → Option β} {y : β} (h : zrb o f = some y) : ∃ b : Nat, o = some b ∧ f b = some y := by
  cases o with
  | none => cases h
  | some q => exact ⟨q, rfl, h⟩
theorem zl_s {β : Type} {x : Mm} {f : Mm → Option β} {y : β} (h : zlt x f = some y) : ∃ σ1 : Mm, σ1 = x ∧ f σ1 = some y := ⟨x, rfl, h⟩
theorem ite_p {α : Type} {c : Prop} {d : Decidable c} {A B y : α} (hc : c) (h : @ite α c d A B = y) : A = y := by rw [if_pos hc] at h; exact h
theorem ite_n {α : Type} {c : Prop} {d : Decidable c} {A B y : α} (hc : ¬ c) (h : @ite α c d A B = y) : B = y := by rw [if_neg hc] at h; exact h
def zb (v : Int32) : Bool := decide (vp_nar .boolean v = v)
theorem zb_s {v : Int32} (h : zb v = true) : vp_nar .boolean v = v := of_decide_eq_true h
theorem sw_out {x : Int32} {lo hi : Int} (h : ∀ j : Int, lo ≤ j → j ≤ hi → x ≠ Int32.ofInt j) : x.toInt < lo ∨ hi < x.toInt := by
  by_cases h1 : x.toInt < lo
  · exact Or.inl h1
  · by_cases h2 : hi < x.toInt
    · exact Or.inr h2
    · exact absurd (Int32.ofInt_toInt x).symm (h x.toInt (by omega) (by omega))
end
section
set_option maxRecDepth 100000 in
theorem ok0 : ClsOk 0 RX0 TX0 3 tyX0 := ⟨rfl, all_inG [143, 145, 147] (by decide +kernel) (by decide +kernel), tyX0_ok, nmX0, rfl⟩
set_option maxRecDepth 100000 in
theorem cd0 : ∀ j, j < 3 → defaultValue (tyX0 j) = if (fT 0).getD j false = true then .null else .int 0 := by decide +kernel
theorem cn0 : Cond.instantiable RX0 3 ∈ bigG := inG 132 (by decide +kernel) (by decide +kernel)
theorem ci0 : Cond.initialized RX0 ∈ bigG := inG 45 (by decide +kernel) (by decide +kernel)
set_option maxRecDepth 100000 in
theorem ok1 : ClsOk 1 RX1 TX1 2 tyX1 := ⟨rfl, all_inG [164, 166] (by decide +kernel) (by decide +kernel), tyX1_ok, nmX1, rfl⟩
set_option maxRecDepth 100000 in
theorem cd1 : ∀ j, j < 2 → defaultValue (tyX1 j) = if (fT 1).getD j false = true then .null else .int 0 := by decide +kernel
theorem cn1 : Cond.instantiable RX1 2 ∈ bigG := inG 157 (by decide +kernel) (by decide +kernel)
theorem ci1 : Cond.initialized RX1 ∈ bigG := inG 47 (by decide +kernel) (by decide +kernel)
set_option maxRecDepth 100000 in
theorem ok2 : ClsOk 2 RX2 TX2 2 tyX2 := ⟨rfl, all_inG [72, 74] (by decide +kernel) (by decide +kernel), tyX2_ok, nmX2, rfl⟩
set_option maxRecDepth 100000 in
theorem cd2 : ∀ j, j < 2 → defaultValue (tyX2 j) = if (fT 2).getD j false = true then .null else .int 0 := by decide +kernel
theorem cn2 : Cond.instantiable RX2 2 ∈ bigG := inG 62 (by decide +kernel) (by decide +kernel)
theorem ci2 : Cond.initialized RX2 ∈ bigG := inG 41 (by decide +kernel) (by decide +kernel)
set_option maxRecDepth 100000 in
theorem ok3 : ClsOk 3 RX3 TX3 5 tyX3 := ⟨rfl, all_inG [95, 97, 99, 101, 103] (by decide +kernel) (by decide +kernel), tyX3_ok, nmX3, rfl⟩
set_option maxRecDepth 100000 in
theorem cd3 : ∀ j, j < 5 → defaultValue (tyX3 j) = if (fT 3).getD j false = true then .null else .int 0 := by decide +kernel
theorem cn3 : Cond.instantiable RX3 5 ∈ bigG := inG 85 (by decide +kernel) (by decide +kernel)
theorem ci3 : Cond.initialized RX3 ∈ bigG := inG 44 (by decide +kernel) (by decide +kernel)
set_option maxRecDepth 100000 in
theorem ok4 : ClsOk 4 RX4 TX4 4 tyX4 := ⟨rfl, all_inG [425, 427, 429, 431] (by decide +kernel) (by decide +kernel), tyX4_ok, nmX4, rfl⟩
set_option maxRecDepth 100000 in
theorem cd4 : ∀ j, j < 4 → defaultValue (tyX4 j) = if (fT 4).getD j false = true then .null else .int 0 := by decide +kernel
theorem cn4 : Cond.instantiable RX4 4 ∈ bigG := inG 412 (by decide +kernel) (by decide +kernel)
theorem ci4 : Cond.initialized RX4 ∈ bigG := inG 52 (by decide +kernel) (by decide +kernel)
set_option maxRecDepth 100000 in
theorem ok5 : ClsOk 5 RX5 TX5 7 tyX5 := ⟨rfl, all_inG [182, 184, 186, 188, 190, 192, 194] (by decide +kernel) (by decide +kernel), tyX5_ok, nmX5, rfl⟩
set_option maxRecDepth 100000 in
theorem cd5 : ∀ j, j < 7 → defaultValue (tyX5 j) = if (fT 5).getD j false = true then .null else .int 0 := by decide +kernel
theorem cn5 : Cond.instantiable RX5 7 ∈ bigG := inG 151 (by decide +kernel) (by decide +kernel)
theorem ci5 : Cond.initialized RX5 ∈ bigG := inG 46 (by decide +kernel) (by decide +kernel)
set_option maxRecDepth 100000 in
theorem ok6 : ClsOk 6 RX6 TX6 2 tyX6 := ⟨rfl, all_inG [210, 212] (by decide +kernel) (by decide +kernel), tyX6_ok, nmX6, rfl⟩
set_option maxRecDepth 100000 in
theorem cd6 : ∀ j, j < 2 → defaultValue (tyX6 j) = if (fT 6).getD j false = true then .null else .int 0 := by decide +kernel
theorem cn6 : Cond.instantiable RX6 2 ∈ bigG := inG 201 (by decide +kernel) (by decide +kernel)
theorem ci6 : Cond.initialized RX6 ∈ bigG := inG 48 (by decide +kernel) (by decide +kernel)
set_option maxRecDepth 100000 in
theorem ok7 : ClsOk 7 RX7 TX7 8 tyX7 := ⟨rfl, all_inG [114, 116, 118, 120, 122, 124, 126, 128] (by decide +kernel) (by decide +kernel), tyX7_ok, nmX7, rfl⟩
set_option maxRecDepth 100000 in
theorem cd7 : ∀ j, j < 8 → defaultValue (tyX7 j) = if (fT 7).getD j false = true then .null else .int 0 := by decide +kernel
theorem cn7 : Cond.instantiable RX7 8 ∈ bigG := inG 79 (by decide +kernel) (by decide +kernel)
theorem ci7 : Cond.initialized RX7 ∈ bigG := inG 43 (by decide +kernel) (by decide +kernel)
set_option maxRecDepth 100000 in
theorem ok8 : ClsOk 8 RX8 TX8 8 tyX8 := ⟨rfl, all_inG [223, 225, 227, 229, 231, 233, 235, 237] (by decide +kernel) (by decide +kernel), tyX8_ok, nmX8, rfl⟩
set_option maxRecDepth 100000 in
theorem cd8 : ∀ j, j < 8 → defaultValue (tyX8 j) = if (fT 8).getD j false = true then .null else .int 0 := by decide +kernel
theorem cn8 : Cond.instantiable RX8 8 ∈ bigG := inG 54 (by decide +kernel) (by decide +kernel)
theorem ci8 : Cond.initialized RX8 ∈ bigG := inG 40 (by decide +kernel) (by decide +kernel)
set_option maxRecDepth 100000 in
theorem ok9 : ClsOk 9 RX9 TX9 46 tyX9 := ⟨rfl, all_inG [806, 808, 810, 812, 814, 816, 818, 820, 822, 824, 826, 828, 830, 832, 834, 836, 838, 840, 842, 844, 846, 848, 850, 852, 854, 856, 858, 860, 862, 864, 866, 868, 870, 872, 874, 876, 878, 880, 882, 884, 886, 888, 890, 892, 894, 896] (by decide +kernel) (by decide +kernel), tyX9_ok, nmX9, rfl⟩
set_option maxRecDepth 100000 in
theorem cd9 : ∀ j, j < 46 → defaultValue (tyX9 j) = if (fT 9).getD j false = true then .null else .int 0 := by decide +kernel
theorem cn9 : Cond.instantiable RX9 46 ∈ bigG := inG 755 (by decide +kernel) (by decide +kernel)
theorem ci9 : Cond.initialized RX9 ∈ bigG := inG 49 (by decide +kernel) (by decide +kernel)
theorem fl_X2_9 : Cond.fieldLink RX2 9 (TX2 0).1 (TX2 0).2.1 (TX2 0).2.2.1 ∈ bigG := inG 70 (by decide +kernel) (by decide +kernel)
theorem fl_X2_21 : Cond.fieldLink RX2 21 (TX2 1).1 (TX2 1).2.1 (TX2 1).2.2.1 ∈ bigG := inG 71 (by decide +kernel) (by decide +kernel)
theorem fl_X3_9 : Cond.fieldLink RX3 9 (TX3 0).1 (TX3 0).2.1 (TX3 0).2.2.1 ∈ bigG := inG 90 (by decide +kernel) (by decide +kernel)
theorem fl_X3_15 : Cond.fieldLink RX3 15 (TX3 1).1 (TX3 1).2.1 (TX3 1).2.2.1 ∈ bigG := inG 91 (by decide +kernel) (by decide +kernel)
theorem fl_X3_18 : Cond.fieldLink RX3 18 (TX3 2).1 (TX3 2).2.1 (TX3 2).2.2.1 ∈ bigG := inG 92 (by decide +kernel) (by decide +kernel)
theorem fl_X3_22 : Cond.fieldLink RX3 22 (TX3 3).1 (TX3 3).2.1 (TX3 3).2.2.1 ∈ bigG := inG 93 (by decide +kernel) (by decide +kernel)
theorem fl_X3_25 : Cond.fieldLink RX3 25 (TX3 4).1 (TX3 4).2.1 (TX3 4).2.2.1 ∈ bigG := inG 94 (by decide +kernel) (by decide +kernel)
theorem fl_X7_9 : Cond.fieldLink RX7 9 (TX7 0).1 (TX7 0).2.1 (TX7 0).2.2.1 ∈ bigG := inG 106 (by decide +kernel) (by decide +kernel)
theorem fl_X7_15 : Cond.fieldLink RX7 15 (TX7 1).1 (TX7 1).2.1 (TX7 1).2.2.1 ∈ bigG := inG 107 (by decide +kernel) (by decide +kernel)
theorem fl_X7_18 : Cond.fieldLink RX7 18 (TX7 2).1 (TX7 2).2.1 (TX7 2).2.2.1 ∈ bigG := inG 108 (by decide +kernel) (by decide +kernel)
theorem fl_X7_21 : Cond.fieldLink RX7 21 (TX7 3).1 (TX7 3).2.1 (TX7 3).2.2.1 ∈ bigG := inG 109 (by decide +kernel) (by decide +kernel)
theorem fl_X7_24 : Cond.fieldLink RX7 24 (TX7 4).1 (TX7 4).2.1 (TX7 4).2.2.1 ∈ bigG := inG 110 (by decide +kernel) (by decide +kernel)
theorem fl_X7_52 : Cond.fieldLink RX7 52 (TX7 5).1 (TX7 5).2.1 (TX7 5).2.2.1 ∈ bigG := inG 111 (by decide +kernel) (by decide +kernel)
theorem fl_X7_27 : Cond.fieldLink RX7 27 (TX7 6).1 (TX7 6).2.1 (TX7 6).2.2.1 ∈ bigG := inG 112 (by decide +kernel) (by decide +kernel)
theorem fl_X7_34 : Cond.fieldLink RX7 34 (TX7 7).1 (TX7 7).2.1 (TX7 7).2.2.1 ∈ bigG := inG 113 (by decide +kernel) (by decide +kernel)
theorem fl_X0_11 : Cond.fieldLink RX0 11 (TX0 0).1 (TX0 0).2.1 (TX0 0).2.2.1 ∈ bigG := inG 140 (by decide +kernel) (by decide +kernel)
theorem fl_X0_22 : Cond.fieldLink RX0 22 (TX0 1).1 (TX0 1).2.1 (TX0 1).2.2.1 ∈ bigG := inG 141 (by decide +kernel) (by decide +kernel)
theorem fl_X0_18 : Cond.fieldLink RX0 18 (TX0 2).1 (TX0 2).2.1 (TX0 2).2.2.1 ∈ bigG := inG 142 (by decide +kernel) (by decide +kernel)
theorem fl_X1_9 : Cond.fieldLink RX1 9 (TX1 0).1 (TX1 0).2.1 (TX1 0).2.2.1 ∈ bigG := inG 162 (by decide +kernel) (by decide +kernel)
theorem fl_X1_15 : Cond.fieldLink RX1 15 (TX1 1).1 (TX1 1).2.1 (TX1 1).2.2.1 ∈ bigG := inG 163 (by decide +kernel) (by decide +kernel)
theorem fl_X5_12 : Cond.fieldLink RX5 12 (TX5 0).1 (TX5 0).2.1 (TX5 0).2.2.1 ∈ bigG := inG 175 (by decide +kernel) (by decide +kernel)
theorem fl_X5_43 : Cond.fieldLink RX5 43 (TX5 1).1 (TX5 1).2.1 (TX5 1).2.2.1 ∈ bigG := inG 176 (by decide +kernel) (by decide +kernel)
theorem fl_X5_18 : Cond.fieldLink RX5 18 (TX5 2).1 (TX5 2).2.1 (TX5 2).2.2.1 ∈ bigG := inG 177 (by decide +kernel) (by decide +kernel)
theorem fl_X5_47 : Cond.fieldLink RX5 47 (TX5 3).1 (TX5 3).2.1 (TX5 3).2.2.1 ∈ bigG := inG 178 (by decide +kernel) (by decide +kernel)
theorem fl_X5_25 : Cond.fieldLink RX5 25 (TX5 4).1 (TX5 4).2.1 (TX5 4).2.2.1 ∈ bigG := inG 179 (by decide +kernel) (by decide +kernel)
theorem fl_X5_32 : Cond.fieldLink RX5 32 (TX5 5).1 (TX5 5).2.1 (TX5 5).2.2.1 ∈ bigG := inG 180 (by decide +kernel) (by decide +kernel)
theorem fl_X5_39 : Cond.fieldLink RX5 39 (TX5 6).1 (TX5 6).2.1 (TX5 6).2.2.1 ∈ bigG := inG 181 (by decide +kernel) (by decide +kernel)
theorem fl_X6_10 : Cond.fieldLink RX6 10 (TX6 0).1 (TX6 0).2.1 (TX6 0).2.2.1 ∈ bigG := inG 208 (by decide +kernel) (by decide +kernel)
theorem fl_X6_16 : Cond.fieldLink RX6 16 (TX6 1).1 (TX6 1).2.1 (TX6 1).2.2.1 ∈ bigG := inG 209 (by decide +kernel) (by decide +kernel)
theorem fl_X8_12 : Cond.fieldLink RX8 12 (TX8 0).1 (TX8 0).2.1 (TX8 0).2.2.1 ∈ bigG := inG 215 (by decide +kernel) (by decide +kernel)
theorem fl_X8_19 : Cond.fieldLink RX8 19 (TX8 1).1 (TX8 1).2.1 (TX8 1).2.2.1 ∈ bigG := inG 216 (by decide +kernel) (by decide +kernel)
theorem fl_X8_26 : Cond.fieldLink RX8 26 (TX8 2).1 (TX8 2).2.1 (TX8 2).2.2.1 ∈ bigG := inG 217 (by decide +kernel) (by decide +kernel)
theorem fl_X8_33 : Cond.fieldLink RX8 33 (TX8 3).1 (TX8 3).2.1 (TX8 3).2.2.1 ∈ bigG := inG 218 (by decide +kernel) (by decide +kernel)
theorem fl_X8_39 : Cond.fieldLink RX8 39 (TX8 4).1 (TX8 4).2.1 (TX8 4).2.2.1 ∈ bigG := inG 219 (by decide +kernel) (by decide +kernel)
theorem fl_X8_43 : Cond.fieldLink RX8 43 (TX8 5).1 (TX8 5).2.1 (TX8 5).2.2.1 ∈ bigG := inG 220 (by decide +kernel) (by decide +kernel)
theorem fl_X8_46 : Cond.fieldLink RX8 46 (TX8 6).1 (TX8 6).2.1 (TX8 6).2.2.1 ∈ bigG := inG 221 (by decide +kernel) (by decide +kernel)
theorem fl_X8_52 : Cond.fieldLink RX8 52 (TX8 7).1 (TX8 7).2.1 (TX8 7).2.2.1 ∈ bigG := inG 222 (by decide +kernel) (by decide +kernel)
theorem fl_X4_7 : Cond.fieldLink RX4 7 (TX4 0).1 (TX4 0).2.1 (TX4 0).2.2.1 ∈ bigG := inG 417 (by decide +kernel) (by decide +kernel)
theorem fl_X8_123 : Cond.fieldLink RX8 123 (TX4 0).1 (TX4 0).2.1 (TX4 0).2.2.1 ∈ bigG := inG 418 (by decide +kernel) (by decide +kernel)
theorem fl_X4_13 : Cond.fieldLink RX4 13 (TX4 1).1 (TX4 1).2.1 (TX4 1).2.2.1 ∈ bigG := inG 419 (by decide +kernel) (by decide +kernel)
theorem fl_X8_129 : Cond.fieldLink RX8 129 (TX4 1).1 (TX4 1).2.1 (TX4 1).2.2.1 ∈ bigG := inG 420 (by decide +kernel) (by decide +kernel)
theorem fl_X4_16 : Cond.fieldLink RX4 16 (TX4 2).1 (TX4 2).2.1 (TX4 2).2.2.1 ∈ bigG := inG 421 (by decide +kernel) (by decide +kernel)
theorem fl_X8_138 : Cond.fieldLink RX8 138 (TX4 2).1 (TX4 2).2.1 (TX4 2).2.2.1 ∈ bigG := inG 422 (by decide +kernel) (by decide +kernel)
theorem fl_X4_19 : Cond.fieldLink RX4 19 (TX4 3).1 (TX4 3).2.1 (TX4 3).2.2.1 ∈ bigG := inG 423 (by decide +kernel) (by decide +kernel)
theorem fl_X8_141 : Cond.fieldLink RX8 141 (TX4 3).1 (TX4 3).2.1 (TX4 3).2.2.1 ∈ bigG := inG 424 (by decide +kernel) (by decide +kernel)
theorem fl_X9_7 : Cond.fieldLink RX9 7 (TX9 0).1 (TX9 0).2.1 (TX9 0).2.2.1 ∈ bigG := inG 760 (by decide +kernel) (by decide +kernel)
theorem fl_X9_13 : Cond.fieldLink RX9 13 (TX9 1).1 (TX9 1).2.1 (TX9 1).2.2.1 ∈ bigG := inG 761 (by decide +kernel) (by decide +kernel)
theorem fl_X9_16 : Cond.fieldLink RX9 16 (TX9 2).1 (TX9 2).2.1 (TX9 2).2.2.1 ∈ bigG := inG 762 (by decide +kernel) (by decide +kernel)
theorem fl_X9_172 : Cond.fieldLink RX9 172 (TX9 3).1 (TX9 3).2.1 (TX9 3).2.2.1 ∈ bigG := inG 763 (by decide +kernel) (by decide +kernel)
theorem fl_X9_169 : Cond.fieldLink RX9 169 (TX9 4).1 (TX9 4).2.1 (TX9 4).2.2.1 ∈ bigG := inG 764 (by decide +kernel) (by decide +kernel)
theorem fl_X9_19 : Cond.fieldLink RX9 19 (TX9 5).1 (TX9 5).2.1 (TX9 5).2.2.1 ∈ bigG := inG 765 (by decide +kernel) (by decide +kernel)
theorem fl_X9_22 : Cond.fieldLink RX9 22 (TX9 6).1 (TX9 6).2.1 (TX9 6).2.2.1 ∈ bigG := inG 766 (by decide +kernel) (by decide +kernel)
theorem fl_X9_26 : Cond.fieldLink RX9 26 (TX9 7).1 (TX9 7).2.1 (TX9 7).2.2.1 ∈ bigG := inG 767 (by decide +kernel) (by decide +kernel)
theorem fl_X9_29 : Cond.fieldLink RX9 29 (TX9 8).1 (TX9 8).2.1 (TX9 8).2.2.1 ∈ bigG := inG 768 (by decide +kernel) (by decide +kernel)
theorem fl_X9_32 : Cond.fieldLink RX9 32 (TX9 9).1 (TX9 9).2.1 (TX9 9).2.2.1 ∈ bigG := inG 769 (by decide +kernel) (by decide +kernel)
theorem fl_X9_35 : Cond.fieldLink RX9 35 (TX9 10).1 (TX9 10).2.1 (TX9 10).2.2.1 ∈ bigG := inG 770 (by decide +kernel) (by decide +kernel)
theorem fl_X9_38 : Cond.fieldLink RX9 38 (TX9 11).1 (TX9 11).2.1 (TX9 11).2.2.1 ∈ bigG := inG 771 (by decide +kernel) (by decide +kernel)
theorem fl_X9_41 : Cond.fieldLink RX9 41 (TX9 12).1 (TX9 12).2.1 (TX9 12).2.2.1 ∈ bigG := inG 772 (by decide +kernel) (by decide +kernel)
theorem fl_X9_44 : Cond.fieldLink RX9 44 (TX9 13).1 (TX9 13).2.1 (TX9 13).2.2.1 ∈ bigG := inG 773 (by decide +kernel) (by decide +kernel)
theorem fl_X9_47 : Cond.fieldLink RX9 47 (TX9 14).1 (TX9 14).2.1 (TX9 14).2.2.1 ∈ bigG := inG 774 (by decide +kernel) (by decide +kernel)
theorem fl_X9_50 : Cond.fieldLink RX9 50 (TX9 15).1 (TX9 15).2.1 (TX9 15).2.2.1 ∈ bigG := inG 775 (by decide +kernel) (by decide +kernel)
theorem fl_X9_53 : Cond.fieldLink RX9 53 (TX9 16).1 (TX9 16).2.1 (TX9 16).2.2.1 ∈ bigG := inG 776 (by decide +kernel) (by decide +kernel)
theorem fl_X9_56 : Cond.fieldLink RX9 56 (TX9 17).1 (TX9 17).2.1 (TX9 17).2.2.1 ∈ bigG := inG 777 (by decide +kernel) (by decide +kernel)
theorem fl_X9_59 : Cond.fieldLink RX9 59 (TX9 18).1 (TX9 18).2.1 (TX9 18).2.2.1 ∈ bigG := inG 778 (by decide +kernel) (by decide +kernel)
theorem fl_X9_62 : Cond.fieldLink RX9 62 (TX9 19).1 (TX9 19).2.1 (TX9 19).2.2.1 ∈ bigG := inG 779 (by decide +kernel) (by decide +kernel)
theorem fl_X9_65 : Cond.fieldLink RX9 65 (TX9 20).1 (TX9 20).2.1 (TX9 20).2.2.1 ∈ bigG := inG 780 (by decide +kernel) (by decide +kernel)
theorem fl_X9_145 : Cond.fieldLink RX9 145 (TX9 21).1 (TX9 21).2.1 (TX9 21).2.2.1 ∈ bigG := inG 781 (by decide +kernel) (by decide +kernel)
theorem fl_X9_68 : Cond.fieldLink RX9 68 (TX9 22).1 (TX9 22).2.1 (TX9 22).2.2.1 ∈ bigG := inG 782 (by decide +kernel) (by decide +kernel)
theorem fl_X9_211 : Cond.fieldLink RX9 211 (TX9 23).1 (TX9 23).2.1 (TX9 23).2.2.1 ∈ bigG := inG 783 (by decide +kernel) (by decide +kernel)
theorem fl_X9_71 : Cond.fieldLink RX9 71 (TX9 24).1 (TX9 24).2.1 (TX9 24).2.2.1 ∈ bigG := inG 784 (by decide +kernel) (by decide +kernel)
theorem fl_X9_202 : Cond.fieldLink RX9 202 (TX9 25).1 (TX9 25).2.1 (TX9 25).2.2.1 ∈ bigG := inG 785 (by decide +kernel) (by decide +kernel)
theorem fl_X9_205 : Cond.fieldLink RX9 205 (TX9 26).1 (TX9 26).2.1 (TX9 26).2.2.1 ∈ bigG := inG 786 (by decide +kernel) (by decide +kernel)
theorem fl_X9_74 : Cond.fieldLink RX9 74 (TX9 27).1 (TX9 27).2.1 (TX9 27).2.2.1 ∈ bigG := inG 787 (by decide +kernel) (by decide +kernel)
theorem fl_X9_208 : Cond.fieldLink RX9 208 (TX9 28).1 (TX9 28).2.1 (TX9 28).2.2.1 ∈ bigG := inG 788 (by decide +kernel) (by decide +kernel)
theorem fl_X9_77 : Cond.fieldLink RX9 77 (TX9 29).1 (TX9 29).2.1 (TX9 29).2.2.1 ∈ bigG := inG 789 (by decide +kernel) (by decide +kernel)
theorem fl_X9_80 : Cond.fieldLink RX9 80 (TX9 30).1 (TX9 30).2.1 (TX9 30).2.2.1 ∈ bigG := inG 790 (by decide +kernel) (by decide +kernel)
theorem fl_X9_83 : Cond.fieldLink RX9 83 (TX9 31).1 (TX9 31).2.1 (TX9 31).2.2.1 ∈ bigG := inG 791 (by decide +kernel) (by decide +kernel)
theorem fl_X9_86 : Cond.fieldLink RX9 86 (TX9 32).1 (TX9 32).2.1 (TX9 32).2.2.1 ∈ bigG := inG 792 (by decide +kernel) (by decide +kernel)
theorem fl_X9_89 : Cond.fieldLink RX9 89 (TX9 33).1 (TX9 33).2.1 (TX9 33).2.2.1 ∈ bigG := inG 793 (by decide +kernel) (by decide +kernel)
theorem fl_X9_92 : Cond.fieldLink RX9 92 (TX9 34).1 (TX9 34).2.1 (TX9 34).2.2.1 ∈ bigG := inG 794 (by decide +kernel) (by decide +kernel)
theorem fl_X9_95 : Cond.fieldLink RX9 95 (TX9 35).1 (TX9 35).2.1 (TX9 35).2.2.1 ∈ bigG := inG 795 (by decide +kernel) (by decide +kernel)
theorem fl_X9_243 : Cond.fieldLink RX9 243 (TX9 36).1 (TX9 36).2.1 (TX9 36).2.2.1 ∈ bigG := inG 796 (by decide +kernel) (by decide +kernel)
theorem fl_X9_237 : Cond.fieldLink RX9 237 (TX9 37).1 (TX9 37).2.1 (TX9 37).2.2.1 ∈ bigG := inG 797 (by decide +kernel) (by decide +kernel)
theorem fl_X9_98 : Cond.fieldLink RX9 98 (TX9 38).1 (TX9 38).2.1 (TX9 38).2.2.1 ∈ bigG := inG 798 (by decide +kernel) (by decide +kernel)
theorem fl_X9_101 : Cond.fieldLink RX9 101 (TX9 39).1 (TX9 39).2.1 (TX9 39).2.2.1 ∈ bigG := inG 799 (by decide +kernel) (by decide +kernel)
theorem fl_X9_104 : Cond.fieldLink RX9 104 (TX9 40).1 (TX9 40).2.1 (TX9 40).2.2.1 ∈ bigG := inG 800 (by decide +kernel) (by decide +kernel)
theorem fl_X9_260 : Cond.fieldLink RX9 260 (TX9 41).1 (TX9 41).2.1 (TX9 41).2.2.1 ∈ bigG := inG 801 (by decide +kernel) (by decide +kernel)
theorem fl_X9_107 : Cond.fieldLink RX9 107 (TX9 42).1 (TX9 42).2.1 (TX9 42).2.2.1 ∈ bigG := inG 802 (by decide +kernel) (by decide +kernel)
theorem fl_X9_110 : Cond.fieldLink RX9 110 (TX9 43).1 (TX9 43).2.1 (TX9 43).2.2.1 ∈ bigG := inG 803 (by decide +kernel) (by decide +kernel)
theorem fl_X9_113 : Cond.fieldLink RX9 113 (TX9 44).1 (TX9 44).2.1 (TX9 44).2.2.1 ∈ bigG := inG 804 (by decide +kernel) (by decide +kernel)
theorem fl_X9_116 : Cond.fieldLink RX9 116 (TX9 45).1 (TX9 45).2.1 (TX9 45).2.2.1 ∈ bigG := inG 805 (by decide +kernel) (by decide +kernel)
theorem cl_L_7 : Cond.classLink RL 7 RX8 ∈ bigG := inG 53 (by decide +kernel) (by decide +kernel)
theorem cl_X8_9 : Cond.classLink RX8 9 RX2 ∈ bigG := inG 61 (by decide +kernel) (by decide +kernel)
theorem cl_X8_16 : Cond.classLink RX8 16 RX7 ∈ bigG := inG 78 (by decide +kernel) (by decide +kernel)
theorem cl_X7_31 : Cond.classLink RX7 31 RX3 ∈ bigG := inG 84 (by decide +kernel) (by decide +kernel)
theorem cl_X8_23 : Cond.classLink RX8 23 RX0 ∈ bigG := inG 131 (by decide +kernel) (by decide +kernel)
theorem cl_X0_9 : Cond.classLink RX0 9 RX2 ∈ bigG := inG 137 (by decide +kernel) (by decide +kernel)
theorem cl_X8_30 : Cond.classLink RX8 30 RX5 ∈ bigG := inG 150 (by decide +kernel) (by decide +kernel)
theorem cl_X5_9 : Cond.classLink RX5 9 RX1 ∈ bigG := inG 156 (by decide +kernel) (by decide +kernel)
theorem cl_X5_22 : Cond.classLink RX5 22 RX2 ∈ bigG := inG 169 (by decide +kernel) (by decide +kernel)
theorem cl_X5_29 : Cond.classLink RX5 29 RX7 ∈ bigG := inG 171 (by decide +kernel) (by decide +kernel)
theorem cl_X5_36 : Cond.classLink RX5 36 RX3 ∈ bigG := inG 173 (by decide +kernel) (by decide +kernel)
theorem cl_X8_37 : Cond.classLink RX8 37 RX6 ∈ bigG := inG 197 (by decide +kernel) (by decide +kernel)
theorem cl_X8_49 : Cond.classLink RX8 49 RX1 ∈ bigG := inG 199 (by decide +kernel) (by decide +kernel)
theorem cl_X6_7 : Cond.classLink RX6 7 RX2 ∈ bigG := inG 206 (by decide +kernel) (by decide +kernel)
theorem cl_X7_93 : Cond.classLink RX7 93 RX4 ∈ bigG := inG 411 (by decide +kernel) (by decide +kernel)
theorem cl_L_10 : Cond.classLink RL 10 RX9 ∈ bigG := inG 754 (by decide +kernel) (by decide +kernel)
theorem kl_X8_278 : Cond.constantLong RX8 278 (3 : Int64) ∈ bigG := inG 300 (by decide +kernel) (by decide +kernel)
theorem kl_X8_280 : Cond.constantLong RX8 280 (4721 : Int64) ∈ bigG := inG 301 (by decide +kernel) (by decide +kernel)
theorem kl_X8_282 : Cond.constantLong RX8 282 (10007 : Int64) ∈ bigG := inG 302 (by decide +kernel) (by decide +kernel)
theorem kl_X8_284 : Cond.constantLong RX8 284 (17 : Int64) ∈ bigG := inG 311 (by decide +kernel) (by decide +kernel)
theorem kl_X8_290 : Cond.constantLong RX8 290 (1000003 : Int64) ∈ bigG := inG 315 (by decide +kernel) (by decide +kernel)
theorem kl_X8_292 : Cond.constantLong RX8 292 (2147483647 : Int64) ∈ bigG := inG 316 (by decide +kernel) (by decide +kernel)
theorem kl_X8_86 : Cond.constantLong RX8 86 (6364136223846793005 : Int64) ∈ bigG := inG 334 (by decide +kernel) (by decide +kernel)
theorem kl_X8_88 : Cond.constantLong RX8 88 (1442695040888963407 : Int64) ∈ bigG := inG 335 (by decide +kernel) (by decide +kernel)
theorem kl_X8_228 : Cond.constantLong RX8 228 (100000 : Int64) ∈ bigG := inG 680 (by decide +kernel) (by decide +kernel)
theorem kl_X9_119 : Cond.constantLong RX9 119 (99 : Int64) ∈ bigG := inG 907 (by decide +kernel) (by decide +kernel)
theorem kl_X9_186 : Cond.constantLong RX9 186 (20 : Int64) ∈ bigG := inG 933 (by decide +kernel) (by decide +kernel)
theorem kl_X9_188 : Cond.constantLong RX9 188 (6364136223846793005 : Int64) ∈ bigG := inG 934 (by decide +kernel) (by decide +kernel)
theorem kl_X9_190 : Cond.constantLong RX9 190 (1442695040888963407 : Int64) ∈ bigG := inG 935 (by decide +kernel) (by decide +kernel)
theorem kl_X9_129 : Cond.constantLong RX9 129 (3 : Int64) ∈ bigG := inG 965 (by decide +kernel) (by decide +kernel)
theorem kl_X9_131 : Cond.constantLong RX9 131 (4721 : Int64) ∈ bigG := inG 966 (by decide +kernel) (by decide +kernel)
theorem kl_X9_133 : Cond.constantLong RX9 133 (10007 : Int64) ∈ bigG := inG 967 (by decide +kernel) (by decide +kernel)
theorem kl_X9_139 : Cond.constantLong RX9 139 (17 : Int64) ∈ bigG := inG 971 (by decide +kernel) (by decide +kernel)
theorem kl_X9_141 : Cond.constantLong RX9 141 (1000003 : Int64) ∈ bigG := inG 972 (by decide +kernel) (by decide +kernel)
theorem kl_X9_143 : Cond.constantLong RX9 143 (2147483647 : Int64) ∈ bigG := inG 973 (by decide +kernel) (by decide +kernel)
theorem kl_X9_221 : Cond.constantLong RX9 221 (2 : Int64) ∈ bigG := inG 997 (by decide +kernel) (by decide +kernel)
theorem kl_X9_227 : Cond.constantLong RX9 227 (-10099 : Int64) ∈ bigG := inG 1024 (by decide +kernel) (by decide +kernel)
theorem kl_X9_229 : Cond.constantLong RX9 229 (-100 : Int64) ∈ bigG := inG 1025 (by decide +kernel) (by decide +kernel)
theorem kl_X9_255 : Cond.constantLong RX9 255 (4 : Int64) ∈ bigG := inG 1074 (by decide +kernel) (by decide +kernel)
theorem kl_X9_286 : Cond.constantLong RX9 286 (100000 : Int64) ∈ bigG := inG 1126 (by decide +kernel) (by decide +kernel)
theorem kl_L_27 : Cond.constantLong RL 27 (4294967295 : Int64) ∈ bigG := inG 1151 (by decide +kernel) (by decide +kernel)
theorem caI : Cond.arrayClass .int ∈ bigG := inG 77 (by decide +kernel) (by decide +kernel)
theorem caZ : Cond.arrayClass .boolean ∈ bigG := inG 899 (by decide +kernel) (by decide +kernel)
theorem obI : Cond.instanceMethod Lib.objectInit ∈ bigG := inG 59 (by decide +kernel) (by decide +kernel)
theorem obC : Cond.code Lib.objectInit ⟨#[0xb1]⟩ 1 none ∈ bigG := inG 60 (by decide +kernel) (by decide +kernel)
theorem acN : Cond.native arraycopyName ∈ bigG := inG 278 (by decide +kernel) (by decide +kernel)
theorem acS : Cond.static arraycopyName ∈ bigG := inG 277 (by decide +kernel) (by decide +kernel)
theorem acI : Cond.initialized "java/lang/System" ∈ bigG := inG 51 (by decide +kernel) (by decide +kernel)
theorem lb_X0_init : LkB yX0_init cX0_init 2 none 0 := ⟨inG 135 (by decide +kernel) (by decide +kernel), inG 45 (by decide +kernel) (by decide +kernel), by decide +kernel⟩
theorem li_X0_init : yX0_init.name = "<init>" ∧ Cond.instanceMethod yX0_init ∈ bigG := ⟨rfl, inG 134 (by decide +kernel) (by decide +kernel)⟩
theorem lb_X0_count : LkB yX0_count cX0_count 1 (some .int) 0 := ⟨inG 347 (by decide +kernel) (by decide +kernel), inG 45 (by decide +kernel) (by decide +kernel), by decide +kernel⟩
theorem lv_X0_count : LkV yX0_count := ⟨inG 345 (by decide +kernel) (by decide +kernel), inG 346 (by decide +kernel) (by decide +kernel)⟩
theorem lb_X0_note : LkB yX0_note cX0_note 2 none 1 := ⟨inG 264 (by decide +kernel) (by decide +kernel), inG 45 (by decide +kernel) (by decide +kernel), by decide +kernel⟩
theorem lv_X0_note : LkV yX0_note := ⟨inG 262 (by decide +kernel) (by decide +kernel), inG 263 (by decide +kernel) (by decide +kernel)⟩
theorem lb_X0_takeBack : LkB yX0_takeBack cX0_takeBack 2 none 1 := ⟨inG 351 (by decide +kernel) (by decide +kernel), inG 45 (by decide +kernel) (by decide +kernel), by decide +kernel⟩
theorem lv_X0_takeBack : LkV yX0_takeBack := ⟨inG 349 (by decide +kernel) (by decide +kernel), inG 350 (by decide +kernel) (by decide +kernel)⟩
theorem lb_X0_forgetAll : LkB yX0_forgetAll cX0_forgetAll 1 none 0 := ⟨inG 725 (by decide +kernel) (by decide +kernel), inG 45 (by decide +kernel) (by decide +kernel), by decide +kernel⟩
theorem lv_X0_forgetAll : LkV yX0_forgetAll := ⟨inG 723 (by decide +kernel) (by decide +kernel), inG 724 (by decide +kernel) (by decide +kernel)⟩
theorem lb_X0_pairsAt : LkB yX0_pairsAt cX0_pairsAt 2 (some (.object "BorderProofs$Pairs")) 1 := ⟨inG 268 (by decide +kernel) (by decide +kernel), inG 45 (by decide +kernel) (by decide +kernel), by decide +kernel⟩
theorem lv_X0_pairsAt : LkV yX0_pairsAt := ⟨inG 267 (by decide +kernel) (by decide +kernel), inG 0 (by decide +kernel) (by decide +kernel)⟩
theorem lb_X1_init : LkB yX1_init cX1_init 1 none 0 := ⟨inG 160 (by decide +kernel) (by decide +kernel), inG 47 (by decide +kernel) (by decide +kernel), by decide +kernel⟩
theorem li_X1_init : yX1_init.name = "<init>" ∧ Cond.instanceMethod yX1_init ∈ bigG := ⟨rfl, inG 159 (by decide +kernel) (by decide +kernel)⟩
theorem lb_X1_count : LkB yX1_count cX1_count 1 (some .int) 0 := ⟨inG 394 (by decide +kernel) (by decide +kernel), inG 47 (by decide +kernel) (by decide +kernel), by decide +kernel⟩
theorem lv_X1_count : LkV yX1_count := ⟨inG 392 (by decide +kernel) (by decide +kernel), inG 393 (by decide +kernel) (by decide +kernel)⟩
theorem lb_X1_isFull : LkB yX1_isFull cX1_isFull 1 (some .boolean) 0 := ⟨inG 477 (by decide +kernel) (by decide +kernel), inG 47 (by decide +kernel) (by decide +kernel), by decide +kernel⟩
theorem lv_X1_isFull : LkV yX1_isFull := ⟨inG 475 (by decide +kernel) (by decide +kernel), inG 476 (by decide +kernel) (by decide +kernel)⟩
theorem lb_X1_hasPlace : LkB yX1_hasPlace cX1_hasPlace 2 (some .boolean) 1 := ⟨inG 506 (by decide +kernel) (by decide +kernel), inG 47 (by decide +kernel) (by decide +kernel), by decide +kernel⟩
theorem lv_X1_hasPlace : LkV yX1_hasPlace := ⟨inG 504 (by decide +kernel) (by decide +kernel), inG 505 (by decide +kernel) (by decide +kernel)⟩
theorem lb_X1_itemAt : LkB yX1_itemAt cX1_itemAt 2 (some .int) 1 := ⟨inG 502 (by decide +kernel) (by decide +kernel), inG 47 (by decide +kernel) (by decide +kernel), by decide +kernel⟩
theorem lv_X1_itemAt : LkV yX1_itemAt := ⟨inG 500 (by decide +kernel) (by decide +kernel), inG 501 (by decide +kernel) (by decide +kernel)⟩
theorem lb_X1_add : LkB yX1_add cX1_add 2 none 1 := ⟨inG 473 (by decide +kernel) (by decide +kernel), inG 47 (by decide +kernel) (by decide +kernel), by decide +kernel⟩
theorem lv_X1_add : LkV yX1_add := ⟨inG 471 (by decide +kernel) (by decide +kernel), inG 472 (by decide +kernel) (by decide +kernel)⟩
theorem lb_X1_replace : LkB yX1_replace cX1_replace 3 none 2 := ⟨inG 548 (by decide +kernel) (by decide +kernel), inG 47 (by decide +kernel) (by decide +kernel), by decide +kernel⟩
theorem lv_X1_replace : LkV yX1_replace := ⟨inG 546 (by decide +kernel) (by decide +kernel), inG 547 (by decide +kernel) (by decide +kernel)⟩
theorem lb_X1_shorten : LkB yX1_shorten cX1_shorten 2 none 1 := ⟨inG 462 (by decide +kernel) (by decide +kernel), inG 47 (by decide +kernel) (by decide +kernel), by decide +kernel⟩
theorem lv_X1_shorten : LkV yX1_shorten := ⟨inG 460 (by decide +kernel) (by decide +kernel), inG 461 (by decide +kernel) (by decide +kernel)⟩
theorem lb_X1_countDigests : LkB yX1_countDigests cX1_countDigests 3 (some .int) 0 := ⟨inG 498 (by decide +kernel) (by decide +kernel), inG 47 (by decide +kernel) (by decide +kernel), by decide +kernel⟩
theorem lv_X1_countDigests : LkV yX1_countDigests := ⟨inG 496 (by decide +kernel) (by decide +kernel), inG 497 (by decide +kernel) (by decide +kernel)⟩
theorem lb_X1_countNodes : LkB yX1_countNodes cX1_countNodes 3 (some .int) 0 := ⟨inG 510 (by decide +kernel) (by decide +kernel), inG 47 (by decide +kernel) (by decide +kernel), by decide +kernel⟩
theorem lv_X1_countNodes : LkV yX1_countNodes := ⟨inG 508 (by decide +kernel) (by decide +kernel), inG 509 (by decide +kernel) (by decide +kernel)⟩
theorem lb_X2_init : LkB yX2_init cX2_init 1 none 0 := ⟨inG 65 (by decide +kernel) (by decide +kernel), inG 41 (by decide +kernel) (by decide +kernel), by decide +kernel⟩
theorem li_X2_init : yX2_init.name = "<init>" ∧ Cond.instanceMethod yX2_init ∈ bigG := ⟨rfl, inG 64 (by decide +kernel) (by decide +kernel)⟩
theorem lb_X2_count : LkB yX2_count cX2_count 1 (some .int) 0 := ⟨inG 339 (by decide +kernel) (by decide +kernel), inG 41 (by decide +kernel) (by decide +kernel), by decide +kernel⟩
theorem lv_X2_count : LkV yX2_count := ⟨inG 337 (by decide +kernel) (by decide +kernel), inG 338 (by decide +kernel) (by decide +kernel)⟩
theorem lb_X2_valueOf : LkB yX2_valueOf cX2_valueOf 2 (some .int) 1 := ⟨inG 258 (by decide +kernel) (by decide +kernel), inG 41 (by decide +kernel) (by decide +kernel), by decide +kernel⟩
theorem lv_X2_valueOf : LkV yX2_valueOf := ⟨inG 256 (by decide +kernel) (by decide +kernel), inG 257 (by decide +kernel) (by decide +kernel)⟩
theorem lb_X2_has : LkB yX2_has cX2_has 2 (some .boolean) 1 := ⟨inG 254 (by decide +kernel) (by decide +kernel), inG 41 (by decide +kernel) (by decide +kernel), by decide +kernel⟩
theorem lv_X2_has : LkV yX2_has := ⟨inG 252 (by decide +kernel) (by decide +kernel), inG 253 (by decide +kernel) (by decide +kernel)⟩
theorem lb_X2_hasRoomFor : LkB yX2_hasRoomFor cX2_hasRoomFor 2 (some .boolean) 1 := ⟨inG 250 (by decide +kernel) (by decide +kernel), inG 41 (by decide +kernel) (by decide +kernel), by decide +kernel⟩
theorem lv_X2_hasRoomFor : LkV yX2_hasRoomFor := ⟨inG 248 (by decide +kernel) (by decide +kernel), inG 249 (by decide +kernel) (by decide +kernel)⟩
theorem lb_X2_give : LkB yX2_give cX2_give 3 none 2 := ⟨inG 282 (by decide +kernel) (by decide +kernel), inG 41 (by decide +kernel) (by decide +kernel), by decide +kernel⟩
theorem lv_X2_give : LkV yX2_give := ⟨inG 280 (by decide +kernel) (by decide +kernel), inG 281 (by decide +kernel) (by decide +kernel)⟩
theorem lb_X2_drop : LkB yX2_drop cX2_drop 2 none 1 := ⟨inG 325 (by decide +kernel) (by decide +kernel), inG 41 (by decide +kernel) (by decide +kernel), by decide +kernel⟩
theorem lv_X2_drop : LkV yX2_drop := ⟨inG 323 (by decide +kernel) (by decide +kernel), inG 324 (by decide +kernel) (by decide +kernel)⟩
theorem lb_X2_clear : LkB yX2_clear cX2_clear 1 none 0 := ⟨inG 584 (by decide +kernel) (by decide +kernel), inG 41 (by decide +kernel) (by decide +kernel), by decide +kernel⟩
theorem lv_X2_clear : LkV yX2_clear := ⟨inG 582 (by decide +kernel) (by decide +kernel), inG 583 (by decide +kernel) (by decide +kernel)⟩
theorem lb_X2_become : LkB yX2_become cX2_become 2 none 1 := ⟨inG 275 (by decide +kernel) (by decide +kernel), inG 41 (by decide +kernel) (by decide +kernel), by decide +kernel⟩
theorem lv_X2_become : LkV yX2_become := ⟨inG 273 (by decide +kernel) (by decide +kernel), inG 274 (by decide +kernel) (by decide +kernel)⟩
theorem lb_X2_countWithin : LkB yX2_countWithin cX2_countWithin 5 (some .int) 2 := ⟨inG 439 (by decide +kernel) (by decide +kernel), inG 41 (by decide +kernel) (by decide +kernel), by decide +kernel⟩
theorem lv_X2_countWithin : LkV yX2_countWithin := ⟨inG 437 (by decide +kernel) (by decide +kernel), inG 438 (by decide +kernel) (by decide +kernel)⟩
theorem lb_X2_sumWithin : LkB yX2_sumWithin cX2_sumWithin 5 (some .int) 2 := ⟨inG 386 (by decide +kernel) (by decide +kernel), inG 41 (by decide +kernel) (by decide +kernel), by decide +kernel⟩
theorem lv_X2_sumWithin : LkV yX2_sumWithin := ⟨inG 384 (by decide +kernel) (by decide +kernel), inG 385 (by decide +kernel) (by decide +kernel)⟩
theorem lb_X2_greatestBelow : LkB yX2_greatestBelow cX2_greatestBelow 4 (some .int) 1 := ⟨inG 636 (by decide +kernel) (by decide +kernel), inG 41 (by decide +kernel) (by decide +kernel), by decide +kernel⟩
theorem lv_X2_greatestBelow : LkV yX2_greatestBelow := ⟨inG 634 (by decide +kernel) (by decide +kernel), inG 635 (by decide +kernel) (by decide +kernel)⟩
theorem lb_X2_leastAbove : LkB yX2_leastAbove cX2_leastAbove 3 (some .int) 1 := ⟨inG 640 (by decide +kernel) (by decide +kernel), inG 41 (by decide +kernel) (by decide +kernel), by decide +kernel⟩
theorem lv_X2_leastAbove : LkV yX2_leastAbove := ⟨inG 638 (by decide +kernel) (by decide +kernel), inG 639 (by decide +kernel) (by decide +kernel)⟩
theorem lb_X2_keyOfPlace : LkB yX2_keyOfPlace cX2_keyOfPlace 6 (some .int) 3 := ⟨inG 648 (by decide +kernel) (by decide +kernel), inG 41 (by decide +kernel) (by decide +kernel), by decide +kernel⟩
theorem lv_X2_keyOfPlace : LkV yX2_keyOfPlace := ⟨inG 646 (by decide +kernel) (by decide +kernel), inG 647 (by decide +kernel) (by decide +kernel)⟩
theorem lb_X3_init : LkB yX3_init cX3_init 1 none 0 := ⟨inG 88 (by decide +kernel) (by decide +kernel), inG 44 (by decide +kernel) (by decide +kernel), by decide +kernel⟩
theorem li_X3_init : yX3_init.name = "<init>" ∧ Cond.instanceMethod yX3_init ∈ bigG := ⟨rfl, inG 87 (by decide +kernel) (by decide +kernel)⟩
theorem lb_X3_clear : LkB yX3_clear cX3_clear 1 none 0 := ⟨inG 466 (by decide +kernel) (by decide +kernel), inG 44 (by decide +kernel) (by decide +kernel), by decide +kernel⟩
theorem lv_X3_clear : LkV yX3_clear := ⟨inG 464 (by decide +kernel) (by decide +kernel), inG 465 (by decide +kernel) (by decide +kernel)⟩
theorem lb_X3_push : LkB yX3_push cX3_push 3 none 2 := ⟨inG 481 (by decide +kernel) (by decide +kernel), inG 44 (by decide +kernel) (by decide +kernel), by decide +kernel⟩
theorem lv_X3_push : LkV yX3_push := ⟨inG 479 (by decide +kernel) (by decide +kernel), inG 480 (by decide +kernel) (by decide +kernel)⟩
theorem lb_X3_pop : LkB yX3_pop cX3_pop 1 (some .boolean) 0 := ⟨inG 486 (by decide +kernel) (by decide +kernel), inG 44 (by decide +kernel) (by decide +kernel), by decide +kernel⟩
theorem lv_X3_pop : LkV yX3_pop := ⟨inG 484 (by decide +kernel) (by decide +kernel), inG 485 (by decide +kernel) (by decide +kernel)⟩
theorem lb_X3_key : LkB yX3_key cX3_key 1 (some .int) 0 := ⟨inG 490 (by decide +kernel) (by decide +kernel), inG 44 (by decide +kernel) (by decide +kernel), by decide +kernel⟩
theorem lv_X3_key : LkV yX3_key := ⟨inG 488 (by decide +kernel) (by decide +kernel), inG 489 (by decide +kernel) (by decide +kernel)⟩
theorem lb_X3_hi : LkB yX3_hi cX3_hi 1 (some .int) 0 := ⟨inG 494 (by decide +kernel) (by decide +kernel), inG 44 (by decide +kernel) (by decide +kernel), by decide +kernel⟩
theorem lv_X3_hi : LkV yX3_hi := ⟨inG 492 (by decide +kernel) (by decide +kernel), inG 493 (by decide +kernel) (by decide +kernel)⟩
theorem lb_X4_init : LkB yX4_init cX4_init 5 none 4 := ⟨inG 415 (by decide +kernel) (by decide +kernel), inG 52 (by decide +kernel) (by decide +kernel), by decide +kernel⟩
theorem li_X4_init : yX4_init.name = "<init>" ∧ Cond.instanceMethod yX4_init ∈ bigG := ⟨rfl, inG 414 (by decide +kernel) (by decide +kernel)⟩
theorem lb_X5_init : LkB yX5_init cX5_init 1 none 0 := ⟨inG 154 (by decide +kernel) (by decide +kernel), inG 46 (by decide +kernel) (by decide +kernel), by decide +kernel⟩
theorem li_X5_init : yX5_init.name = "<init>" ∧ Cond.instanceMethod yX5_init ∈ bigG := ⟨rfl, inG 153 (by decide +kernel) (by decide +kernel)⟩
theorem lb_X5_row : LkB yX5_row cX5_row 1 (some (.object "BorderProofs$Items")) 0 := ⟨inG 390 (by decide +kernel) (by decide +kernel), inG 46 (by decide +kernel) (by decide +kernel), by decide +kernel⟩
theorem lv_X5_row : LkV yX5_row := ⟨inG 388 (by decide +kernel) (by decide +kernel), inG 389 (by decide +kernel) (by decide +kernel)⟩
theorem lb_X5_shown : LkB yX5_shown cX5_shown 1 (some (.object "BorderProofs$Pairs")) 0 := ⟨inG 632 (by decide +kernel) (by decide +kernel), inG 46 (by decide +kernel) (by decide +kernel), by decide +kernel⟩
theorem lv_X5_shown : LkV yX5_shown := ⟨inG 630 (by decide +kernel) (by decide +kernel), inG 631 (by decide +kernel) (by decide +kernel)⟩
theorem lb_X5_trusted : LkB yX5_trusted cX5_trusted 1 (some .int) 0 := ⟨inG 398 (by decide +kernel) (by decide +kernel), inG 46 (by decide +kernel) (by decide +kernel), by decide +kernel⟩
theorem lv_X5_trusted : LkV yX5_trusted := ⟨inG 396 (by decide +kernel) (by decide +kernel), inG 397 (by decide +kernel) (by decide +kernel)⟩
theorem lb_X5_formerCount : LkB yX5_formerCount cX5_formerCount 1 (some .int) 0 := ⟨inG 402 (by decide +kernel) (by decide +kernel), inG 46 (by decide +kernel) (by decide +kernel), by decide +kernel⟩
theorem lv_X5_formerCount : LkV yX5_formerCount := ⟨inG 400 (by decide +kernel) (by decide +kernel), inG 401 (by decide +kernel) (by decide +kernel)⟩
theorem lb_X5_formerAt : LkB yX5_formerAt cX5_formerAt 2 (some .int) 1 := ⟨inG 624 (by decide +kernel) (by decide +kernel), inG 46 (by decide +kernel) (by decide +kernel), by decide +kernel⟩
theorem lv_X5_formerAt : LkV yX5_formerAt := ⟨inG 622 (by decide +kernel) (by decide +kernel), inG 623 (by decide +kernel) (by decide +kernel)⟩
theorem lb_X5_nowTrust : LkB yX5_nowTrust cX5_nowTrust 3 (some .int) 1 := ⟨inG 561 (by decide +kernel) (by decide +kernel), inG 46 (by decide +kernel) (by decide +kernel), by decide +kernel⟩
theorem lv_X5_nowTrust : LkV yX5_nowTrust := ⟨inG 559 (by decide +kernel) (by decide +kernel), inG 560 (by decide +kernel) (by decide +kernel)⟩
theorem lb_X5_isFormer : LkB yX5_isFormer cX5_isFormer 3 (some .boolean) 1 := ⟨inG 620 (by decide +kernel) (by decide +kernel), inG 46 (by decide +kernel) (by decide +kernel), by decide +kernel⟩
theorem lv_X5_isFormer : LkV yX5_isFormer := ⟨inG 619 (by decide +kernel) (by decide +kernel), inG 6 (by decide +kernel) (by decide +kernel)⟩
theorem lb_X5_reasonBy : LkB yX5_reasonBy cX5_reasonBy 5 (some .int) 2 := ⟨inG 576 (by decide +kernel) (by decide +kernel), inG 46 (by decide +kernel) (by decide +kernel), by decide +kernel⟩
theorem lv_X5_reasonBy : LkV yX5_reasonBy := ⟨inG 574 (by decide +kernel) (by decide +kernel), inG 575 (by decide +kernel) (by decide +kernel)⟩
theorem lb_X5_takeIn : LkB yX5_takeIn cX5_takeIn 9 (some .int) 2 := ⟨inG 580 (by decide +kernel) (by decide +kernel), inG 46 (by decide +kernel) (by decide +kernel), by decide +kernel⟩
theorem lv_X5_takeIn : LkV yX5_takeIn := ⟨inG 579 (by decide +kernel) (by decide +kernel), inG 5 (by decide +kernel) (by decide +kernel)⟩
theorem lb_X5_reasonOfNode : LkB yX5_reasonOfNode cX5_reasonOfNode 4 (some .int) 4 := ⟨inG 597 (by decide +kernel) (by decide +kernel), inG 46 (by decide +kernel) (by decide +kernel), by decide +kernel⟩
theorem ls_X5_reasonOfNode : Cond.static yX5_reasonOfNode ∈ bigG := inG 596 (by decide +kernel) (by decide +kernel)
theorem lb_X5_reasonOfLeaf : LkB yX5_reasonOfLeaf cX5_reasonOfLeaf 4 (some .int) 4 := ⟨inG 602 (by decide +kernel) (by decide +kernel), inG 46 (by decide +kernel) (by decide +kernel), by decide +kernel⟩
theorem ls_X5_reasonOfLeaf : Cond.static yX5_reasonOfLeaf ∈ bigG := inG 601 (by decide +kernel) (by decide +kernel)
theorem lb_X5_digestAfter : LkB yX5_digestAfter cX5_digestAfter 5 (some .int) 2 := ⟨inG 659 (by decide +kernel) (by decide +kernel), inG 46 (by decide +kernel) (by decide +kernel), by decide +kernel⟩
theorem lv_X5_digestAfter : LkV yX5_digestAfter := ⟨inG 657 (by decide +kernel) (by decide +kernel), inG 658 (by decide +kernel) (by decide +kernel)⟩
theorem lb_X6_init : LkB yX6_init cX6_init 1 none 0 := ⟨inG 204 (by decide +kernel) (by decide +kernel), inG 48 (by decide +kernel) (by decide +kernel), by decide +kernel⟩
theorem li_X6_init : yX6_init.name = "<init>" ∧ Cond.instanceMethod yX6_init ∈ bigG := ⟨rfl, inG 203 (by decide +kernel) (by decide +kernel)⟩
theorem lb_X6_pairs : LkB yX6_pairs cX6_pairs 1 (some (.object "BorderProofs$Pairs")) 0 := ⟨inG 721 (by decide +kernel) (by decide +kernel), inG 48 (by decide +kernel) (by decide +kernel), by decide +kernel⟩
theorem lv_X6_pairs : LkV yX6_pairs := ⟨inG 719 (by decide +kernel) (by decide +kernel), inG 720 (by decide +kernel) (by decide +kernel)⟩
theorem lb_X6_isFilled : LkB yX6_isFilled cX6_isFilled 1 (some .boolean) 0 := ⟨inG 717 (by decide +kernel) (by decide +kernel), inG 48 (by decide +kernel) (by decide +kernel), by decide +kernel⟩
theorem lv_X6_isFilled : LkV yX6_isFilled := ⟨inG 715 (by decide +kernel) (by decide +kernel), inG 716 (by decide +kernel) (by decide +kernel)⟩
theorem lb_X6_fill : LkB yX6_fill cX6_fill 2 none 1 := ⟨inG 708 (by decide +kernel) (by decide +kernel), inG 48 (by decide +kernel) (by decide +kernel), by decide +kernel⟩
theorem lv_X6_fill : LkV yX6_fill := ⟨inG 706 (by decide +kernel) (by decide +kernel), inG 707 (by decide +kernel) (by decide +kernel)⟩
theorem lb_X7_init : LkB yX7_init cX7_init 1 none 0 := ⟨inG 82 (by decide +kernel) (by decide +kernel), inG 43 (by decide +kernel) (by decide +kernel), by decide +kernel⟩
theorem li_X7_init : yX7_init.name = "<init>" ∧ Cond.instanceMethod yX7_init ∈ bigG := ⟨rfl, inG 81 (by decide +kernel) (by decide +kernel)⟩
theorem lb_X7_rootDigest : LkB yX7_rootDigest cX7_rootDigest 1 (some .int) 0 := ⟨inG 359 (by decide +kernel) (by decide +kernel), inG 43 (by decide +kernel) (by decide +kernel), by decide +kernel⟩
theorem lv_X7_rootDigest : LkV yX7_rootDigest := ⟨inG 357 (by decide +kernel) (by decide +kernel), inG 358 (by decide +kernel) (by decide +kernel)⟩
theorem lb_X7_leftOf : LkB yX7_leftOf cX7_leftOf 2 (some .int) 1 := ⟨inG 375 (by decide +kernel) (by decide +kernel), inG 43 (by decide +kernel) (by decide +kernel), by decide +kernel⟩
theorem lv_X7_leftOf : LkV yX7_leftOf := ⟨inG 373 (by decide +kernel) (by decide +kernel), inG 374 (by decide +kernel) (by decide +kernel)⟩
theorem lb_X7_rightOf : LkB yX7_rightOf cX7_rightOf 2 (some .int) 1 := ⟨inG 379 (by decide +kernel) (by decide +kernel), inG 43 (by decide +kernel) (by decide +kernel), by decide +kernel⟩
theorem lv_X7_rightOf : LkV yX7_rightOf := ⟨inG 377 (by decide +kernel) (by decide +kernel), inG 378 (by decide +kernel) (by decide +kernel)⟩
theorem lb_X7_digestOf : LkB yX7_digestOf cX7_digestOf 2 (some .int) 1 := ⟨inG 443 (by decide +kernel) (by decide +kernel), inG 43 (by decide +kernel) (by decide +kernel), by decide +kernel⟩
theorem lv_X7_digestOf : LkV yX7_digestOf := ⟨inG 441 (by decide +kernel) (by decide +kernel), inG 442 (by decide +kernel) (by decide +kernel)⟩
theorem lb_X7_hideNothing : LkB yX7_hideNothing cX7_hideNothing 1 none 0 := ⟨inG 588 (by decide +kernel) (by decide +kernel), inG 43 (by decide +kernel) (by decide +kernel), by decide +kernel⟩
theorem lv_X7_hideNothing : LkV yX7_hideNothing := ⟨inG 586 (by decide +kernel) (by decide +kernel), inG 587 (by decide +kernel) (by decide +kernel)⟩
theorem lb_X7_hide : LkB yX7_hide cX7_hide 3 none 2 := ⟨inG 611 (by decide +kernel) (by decide +kernel), inG 43 (by decide +kernel) (by decide +kernel), by decide +kernel⟩
theorem lv_X7_hide : LkV yX7_hide := ⟨inG 609 (by decide +kernel) (by decide +kernel), inG 610 (by decide +kernel) (by decide +kernel)⟩
theorem lb_X7_grow : LkB yX7_grow cX7_grow 3 none 1 := ⟨inG 286 (by decide +kernel) (by decide +kernel), inG 43 (by decide +kernel) (by decide +kernel), by decide +kernel⟩
theorem lv_X7_grow : LkV yX7_grow := ⟨inG 284 (by decide +kernel) (by decide +kernel), inG 285 (by decide +kernel) (by decide +kernel)⟩
theorem lb_X7_closeBefore : LkB yX7_closeBefore cX7_closeBefore 6 (some .int) 2 := ⟨inG 292 (by decide +kernel) (by decide +kernel), inG 43 (by decide +kernel) (by decide +kernel), by decide +kernel⟩
theorem lv_X7_closeBefore : LkV yX7_closeBefore := ⟨inG 291 (by decide +kernel) (by decide +kernel), inG 1 (by decide +kernel) (by decide +kernel)⟩
theorem lb_X7_digestOr : LkB yX7_digestOr cX7_digestOr 3 (some .int) 2 := ⟨inG 307 (by decide +kernel) (by decide +kernel), inG 43 (by decide +kernel) (by decide +kernel), by decide +kernel⟩
theorem lv_X7_digestOr : LkV yX7_digestOr := ⟨inG 306 (by decide +kernel) (by decide +kernel), inG 2 (by decide +kernel) (by decide +kernel)⟩
theorem lb_X7_childTowards : LkB yX7_childTowards cX7_childTowards 3 (some .int) 2 := ⟨inG 371 (by decide +kernel) (by decide +kernel), inG 43 (by decide +kernel) (by decide +kernel), by decide +kernel⟩
theorem lv_X7_childTowards : LkV yX7_childTowards := ⟨inG 370 (by decide +kernel) (by decide +kernel), inG 4 (by decide +kernel) (by decide +kernel)⟩
theorem lb_X7_countNodesAround : LkB yX7_countNodesAround cX7_countNodesAround 5 (some .int) 1 := ⟨inG 367 (by decide +kernel) (by decide +kernel), inG 43 (by decide +kernel) (by decide +kernel), by decide +kernel⟩
theorem lv_X7_countNodesAround : LkV yX7_countNodesAround := ⟨inG 366 (by decide +kernel) (by decide +kernel), inG 3 (by decide +kernel) (by decide +kernel)⟩
theorem lb_X7_proofLengthOf : LkB yX7_proofLengthOf cX7_proofLengthOf 2 (some .int) 1 := ⟨inG 524 (by decide +kernel) (by decide +kernel), inG 43 (by decide +kernel) (by decide +kernel), by decide +kernel⟩
theorem lv_X7_proofLengthOf : LkV yX7_proofLengthOf := ⟨inG 522 (by decide +kernel) (by decide +kernel), inG 523 (by decide +kernel) (by decide +kernel)⟩
theorem lb_X7_height : LkB yX7_height cX7_height 3 (some .int) 0 := ⟨inG 363 (by decide +kernel) (by decide +kernel), inG 43 (by decide +kernel) (by decide +kernel), by decide +kernel⟩
theorem lv_X7_height : LkV yX7_height := ⟨inG 361 (by decide +kernel) (by decide +kernel), inG 362 (by decide +kernel) (by decide +kernel)⟩
theorem lb_X7_placeOf : LkB yX7_placeOf cX7_placeOf 8 (some (.object "BorderProofs$Place")) 1 := ⟨inG 410 (by decide +kernel) (by decide +kernel), inG 43 (by decide +kernel) (by decide +kernel), by decide +kernel⟩
theorem lv_X7_placeOf : LkV yX7_placeOf := ⟨inG 408 (by decide +kernel) (by decide +kernel), inG 409 (by decide +kernel) (by decide +kernel)⟩
theorem lb_X7_isLike : LkB yX7_isLike cX7_isLike 3 (some .boolean) 2 := ⟨inG 749 (by decide +kernel) (by decide +kernel), inG 43 (by decide +kernel) (by decide +kernel), by decide +kernel⟩
theorem lv_X7_isLike : LkV yX7_isLike := ⟨inG 748 (by decide +kernel) (by decide +kernel), inG 14 (by decide +kernel) (by decide +kernel)⟩
theorem lb_X7_isFirstLike : LkB yX7_isFirstLike cX7_isFirstLike 5 (some .boolean) 2 := ⟨inG 745 (by decide +kernel) (by decide +kernel), inG 43 (by decide +kernel) (by decide +kernel), by decide +kernel⟩
theorem lv_X7_isFirstLike : LkV yX7_isFirstLike := ⟨inG 743 (by decide +kernel) (by decide +kernel), inG 744 (by decide +kernel) (by decide +kernel)⟩
theorem lb_X7_writeProof : LkB yX7_writeProof cX7_writeProof 9 none 4 := ⟨inG 458 (by decide +kernel) (by decide +kernel), inG 43 (by decide +kernel) (by decide +kernel), by decide +kernel⟩
theorem lv_X7_writeProof : LkV yX7_writeProof := ⟨inG 456 (by decide +kernel) (by decide +kernel), inG 457 (by decide +kernel) (by decide +kernel)⟩
theorem lb_X8_init : LkB yX8_init cX8_init 2 none 0 := ⟨inG 57 (by decide +kernel) (by decide +kernel), inG 40 (by decide +kernel) (by decide +kernel), by decide +kernel⟩
theorem li_X8_init : yX8_init.name = "<init>" ∧ Cond.instanceMethod yX8_init ∈ bigG := ⟨rfl, inG 56 (by decide +kernel) (by decide +kernel)⟩
theorem lb_X8_put : LkB yX8_put cX8_put 4 (some .int) 2 := ⟨inG 243 (by decide +kernel) (by decide +kernel), inG 40 (by decide +kernel) (by decide +kernel), by decide +kernel⟩
theorem lv_X8_put : LkV yX8_put := ⟨inG 241 (by decide +kernel) (by decide +kernel), inG 242 (by decide +kernel) (by decide +kernel)⟩
theorem lb_X8_remove : LkB yX8_remove cX8_remove 3 (some .int) 1 := ⟨inG 320 (by decide +kernel) (by decide +kernel), inG 40 (by decide +kernel) (by decide +kernel), by decide +kernel⟩
theorem lv_X8_remove : LkV yX8_remove := ⟨inG 318 (by decide +kernel) (by decide +kernel), inG 319 (by decide +kernel) (by decide +kernel)⟩
theorem lb_X8_get : LkB yX8_get cX8_get 2 (some .int) 1 := ⟨inG 329 (by decide +kernel) (by decide +kernel), inG 40 (by decide +kernel) (by decide +kernel), by decide +kernel⟩
theorem lv_X8_get : LkV yX8_get := ⟨inG 327 (by decide +kernel) (by decide +kernel), inG 328 (by decide +kernel) (by decide +kernel)⟩
theorem lb_X8_scatter : LkB yX8_scatter cX8_scatter 9 (some .int) 2 := ⟨inG 333 (by decide +kernel) (by decide +kernel), inG 40 (by decide +kernel) (by decide +kernel), by decide +kernel⟩
theorem lv_X8_scatter : LkV yX8_scatter := ⟨inG 331 (by decide +kernel) (by decide +kernel), inG 332 (by decide +kernel) (by decide +kernel)⟩
theorem lb_X8_undo : LkB yX8_undo cX8_undo 1 (some .int) 0 := ⟨inG 343 (by decide +kernel) (by decide +kernel), inG 40 (by decide +kernel) (by decide +kernel), by decide +kernel⟩
theorem lv_X8_undo : LkV yX8_undo := ⟨inG 341 (by decide +kernel) (by decide +kernel), inG 342 (by decide +kernel) (by decide +kernel)⟩
theorem lb_X8_about : LkB yX8_about cX8_about 2 (some .int) 1 := ⟨inG 355 (by decide +kernel) (by decide +kernel), inG 40 (by decide +kernel) (by decide +kernel), by decide +kernel⟩
theorem lv_X8_about : LkV yX8_about := ⟨inG 353 (by decide +kernel) (by decide +kernel), inG 354 (by decide +kernel) (by decide +kernel)⟩
theorem lb_X8_node : LkB yX8_node cX8_node 4 (some .int) 2 := ⟨inG 406 (by decide +kernel) (by decide +kernel), inG 40 (by decide +kernel) (by decide +kernel), by decide +kernel⟩
theorem lv_X8_node : LkV yX8_node := ⟨inG 404 (by decide +kernel) (by decide +kernel), inG 405 (by decide +kernel) (by decide +kernel)⟩
theorem lb_X8_rank : LkB yX8_rank cX8_rank 2 (some .int) 1 := ⟨inG 447 (by decide +kernel) (by decide +kernel), inG 40 (by decide +kernel) (by decide +kernel), by decide +kernel⟩
theorem lv_X8_rank : LkV yX8_rank := ⟨inG 445 (by decide +kernel) (by decide +kernel), inG 446 (by decide +kernel) (by decide +kernel)⟩
theorem lb_X8_proof : LkB yX8_proof cX8_proof 4 (some .int) 3 := ⟨inG 451 (by decide +kernel) (by decide +kernel), inG 40 (by decide +kernel) (by decide +kernel), by decide +kernel⟩
theorem lv_X8_proof : LkV yX8_proof := ⟨inG 449 (by decide +kernel) (by decide +kernel), inG 450 (by decide +kernel) (by decide +kernel)⟩
theorem lb_X8_item : LkB yX8_item cX8_item 4 (some .int) 3 := ⟨inG 514 (by decide +kernel) (by decide +kernel), inG 40 (by decide +kernel) (by decide +kernel), by decide +kernel⟩
theorem lv_X8_item : LkV yX8_item := ⟨inG 512 (by decide +kernel) (by decide +kernel), inG 513 (by decide +kernel) (by decide +kernel)⟩
theorem lb_X8_lengths : LkB yX8_lengths cX8_lengths 6 (some .int) 2 := ⟨inG 520 (by decide +kernel) (by decide +kernel), inG 40 (by decide +kernel) (by decide +kernel), by decide +kernel⟩
theorem lv_X8_lengths : LkV yX8_lengths := ⟨inG 518 (by decide +kernel) (by decide +kernel), inG 519 (by decide +kernel) (by decide +kernel)⟩
theorem lb_X8_send : LkB yX8_send cX8_send 3 (some .int) 2 := ⟨inG 528 (by decide +kernel) (by decide +kernel), inG 40 (by decide +kernel) (by decide +kernel), by decide +kernel⟩
theorem lv_X8_send : LkV yX8_send := ⟨inG 526 (by decide +kernel) (by decide +kernel), inG 527 (by decide +kernel) (by decide +kernel)⟩
theorem lb_X8_tell : LkB yX8_tell cX8_tell 2 (some .int) 1 := ⟨inG 532 (by decide +kernel) (by decide +kernel), inG 40 (by decide +kernel) (by decide +kernel), by decide +kernel⟩
theorem lv_X8_tell : LkV yX8_tell := ⟨inG 530 (by decide +kernel) (by decide +kernel), inG 531 (by decide +kernel) (by decide +kernel)⟩
theorem lb_X8_alter : LkB yX8_alter cX8_alter 4 (some .int) 2 := ⟨inG 544 (by decide +kernel) (by decide +kernel), inG 40 (by decide +kernel) (by decide +kernel), by decide +kernel⟩
theorem lv_X8_alter : LkV yX8_alter := ⟨inG 542 (by decide +kernel) (by decide +kernel), inG 543 (by decide +kernel) (by decide +kernel)⟩
theorem lb_X8_cut : LkB yX8_cut cX8_cut 3 (some .int) 1 := ⟨inG 552 (by decide +kernel) (by decide +kernel), inG 40 (by decide +kernel) (by decide +kernel), by decide +kernel⟩
theorem lv_X8_cut : LkV yX8_cut := ⟨inG 550 (by decide +kernel) (by decide +kernel), inG 551 (by decide +kernel) (by decide +kernel)⟩
theorem lb_X8_trust : LkB yX8_trust cX8_trust 1 (some .int) 0 := ⟨inG 557 (by decide +kernel) (by decide +kernel), inG 40 (by decide +kernel) (by decide +kernel), by decide +kernel⟩
theorem lv_X8_trust : LkV yX8_trust := ⟨inG 555 (by decide +kernel) (by decide +kernel), inG 556 (by decide +kernel) (by decide +kernel)⟩
theorem lb_X8_believe : LkB yX8_believe cX8_believe 2 (some .int) 1 := ⟨inG 568 (by decide +kernel) (by decide +kernel), inG 40 (by decide +kernel) (by decide +kernel), by decide +kernel⟩
theorem lv_X8_believe : LkV yX8_believe := ⟨inG 566 (by decide +kernel) (by decide +kernel), inG 567 (by decide +kernel) (by decide +kernel)⟩
theorem lb_X8_read : LkB yX8_read cX8_read 3 (some .int) 2 := ⟨inG 572 (by decide +kernel) (by decide +kernel), inG 40 (by decide +kernel) (by decide +kernel), by decide +kernel⟩
theorem lv_X8_read : LkV yX8_read := ⟨inG 570 (by decide +kernel) (by decide +kernel), inG 571 (by decide +kernel) (by decide +kernel)⟩
theorem lb_X8_learnt : LkB yX8_learnt cX8_learnt 5 (some .int) 3 := ⟨inG 628 (by decide +kernel) (by decide +kernel), inG 40 (by decide +kernel) (by decide +kernel), by decide +kernel⟩
theorem lv_X8_learnt : LkV yX8_learnt := ⟨inG 626 (by decide +kernel) (by decide +kernel), inG 627 (by decide +kernel) (by decide +kernel)⟩
theorem lb_X8_found : LkB yX8_found cX8_found 6 (some .int) 3 := ⟨inG 644 (by decide +kernel) (by decide +kernel), inG 40 (by decide +kernel) (by decide +kernel), by decide +kernel⟩
theorem lv_X8_found : LkV yX8_found := ⟨inG 642 (by decide +kernel) (by decide +kernel), inG 643 (by decide +kernel) (by decide +kernel)⟩
theorem lb_X8_step : LkB yX8_step cX8_step 3 (some .int) 2 := ⟨inG 652 (by decide +kernel) (by decide +kernel), inG 40 (by decide +kernel) (by decide +kernel), by decide +kernel⟩
theorem lv_X8_step : LkV yX8_step := ⟨inG 650 (by decide +kernel) (by decide +kernel), inG 651 (by decide +kernel) (by decide +kernel)⟩
theorem lb_X8_follow : LkB yX8_follow cX8_follow 4 (some .int) 2 := ⟨inG 667 (by decide +kernel) (by decide +kernel), inG 40 (by decide +kernel) (by decide +kernel), by decide +kernel⟩
theorem lv_X8_follow : LkV yX8_follow := ⟨inG 665 (by decide +kernel) (by decide +kernel), inG 666 (by decide +kernel) (by decide +kernel)⟩
theorem lb_X8_former : LkB yX8_former cX8_former 2 (some .int) 1 := ⟨inG 671 (by decide +kernel) (by decide +kernel), inG 40 (by decide +kernel) (by decide +kernel), by decide +kernel⟩
theorem lv_X8_former : LkV yX8_former := ⟨inG 669 (by decide +kernel) (by decide +kernel), inG 670 (by decide +kernel) (by decide +kernel)⟩
theorem lb_X8_judge : LkB yX8_judge cX8_judge 5 (some .int) 2 := ⟨inG 676 (by decide +kernel) (by decide +kernel), inG 40 (by decide +kernel) (by decide +kernel), by decide +kernel⟩
theorem lv_X8_judge : LkV yX8_judge := ⟨inG 674 (by decide +kernel) (by decide +kernel), inG 675 (by decide +kernel) (by decide +kernel)⟩
theorem lb_X8_keep : LkB yX8_keep cX8_keep 2 (some .int) 1 := ⟨inG 701 (by decide +kernel) (by decide +kernel), inG 40 (by decide +kernel) (by decide +kernel), by decide +kernel⟩
theorem lv_X8_keep : LkV yX8_keep := ⟨inG 699 (by decide +kernel) (by decide +kernel), inG 700 (by decide +kernel) (by decide +kernel)⟩
theorem lb_X8_again : LkB yX8_again cX8_again 2 (some .int) 1 := ⟨inG 713 (by decide +kernel) (by decide +kernel), inG 40 (by decide +kernel) (by decide +kernel), by decide +kernel⟩
theorem lv_X8_again : LkV yX8_again := ⟨inG 711 (by decide +kernel) (by decide +kernel), inG 712 (by decide +kernel) (by decide +kernel)⟩
theorem lb_X8_differ : LkB yX8_differ cX8_differ 4 (some .int) 2 := ⟨inG 729 (by decide +kernel) (by decide +kernel), inG 40 (by decide +kernel) (by decide +kernel), by decide +kernel⟩
theorem lv_X8_differ : LkV yX8_differ := ⟨inG 727 (by decide +kernel) (by decide +kernel), inG 728 (by decide +kernel) (by decide +kernel)⟩
theorem lb_X8_withoutLast : LkB yX8_withoutLast cX8_withoutLast 6 (some .long) 2 := ⟨inG 679 (by decide +kernel) (by decide +kernel), inG 40 (by decide +kernel) (by decide +kernel), by decide +kernel⟩
theorem ls_X8_withoutLast : Cond.static yX8_withoutLast ∈ bigG := inG 678 (by decide +kernel) (by decide +kernel)
theorem lb_X8_canBe : LkB yX8_canBe cX8_canBe 4 (some .boolean) 1 := ⟨inG 685 (by decide +kernel) (by decide +kernel), inG 40 (by decide +kernel) (by decide +kernel), by decide +kernel⟩
theorem lv_X8_canBe : LkV yX8_canBe := ⟨inG 684 (by decide +kernel) (by decide +kernel), inG 7 (by decide +kernel) (by decide +kernel)⟩
theorem lb_X8_tryPut : LkB yX8_tryPut cX8_tryPut 3 (some .boolean) 2 := ⟨inG 689 (by decide +kernel) (by decide +kernel), inG 40 (by decide +kernel) (by decide +kernel), by decide +kernel⟩
theorem lv_X8_tryPut : LkV yX8_tryPut := ⟨inG 688 (by decide +kernel) (by decide +kernel), inG 8 (by decide +kernel) (by decide +kernel)⟩
theorem lb_X8_tryRemove : LkB yX8_tryRemove cX8_tryRemove 2 (some .boolean) 1 := ⟨inG 693 (by decide +kernel) (by decide +kernel), inG 40 (by decide +kernel) (by decide +kernel), by decide +kernel⟩
theorem lv_X8_tryRemove : LkV yX8_tryRemove := ⟨inG 692 (by decide +kernel) (by decide +kernel), inG 9 (by decide +kernel) (by decide +kernel)⟩
theorem lb_X8_trialTree : LkB yX8_trialTree cX8_trialTree 1 (some (.object "BorderProofs$Tree")) 0 := ⟨inG 697 (by decide +kernel) (by decide +kernel), inG 40 (by decide +kernel) (by decide +kernel), by decide +kernel⟩
theorem lv_X8_trialTree : LkV yX8_trialTree := ⟨inG 696 (by decide +kernel) (by decide +kernel), inG 10 (by decide +kernel) (by decide +kernel)⟩
theorem lb_X8_countOtherwise : LkB yX8_countOtherwise cX8_countOtherwise 4 (some .int) 1 := ⟨inG 733 (by decide +kernel) (by decide +kernel), inG 40 (by decide +kernel) (by decide +kernel), by decide +kernel⟩
theorem lv_X8_countOtherwise : LkV yX8_countOtherwise := ⟨inG 732 (by decide +kernel) (by decide +kernel), inG 11 (by decide +kernel) (by decide +kernel)⟩
theorem lb_X8_leastOtherwise : LkB yX8_leastOtherwise cX8_leastOtherwise 3 (some .int) 1 := ⟨inG 737 (by decide +kernel) (by decide +kernel), inG 40 (by decide +kernel) (by decide +kernel), by decide +kernel⟩
theorem lv_X8_leastOtherwise : LkV yX8_leastOtherwise := ⟨inG 736 (by decide +kernel) (by decide +kernel), inG 12 (by decide +kernel) (by decide +kernel)⟩
theorem lb_X8_countPassedOver : LkB yX8_countPassedOver cX8_countPassedOver 4 (some .int) 1 := ⟨inG 741 (by decide +kernel) (by decide +kernel), inG 40 (by decide +kernel) (by decide +kernel), by decide +kernel⟩
theorem lv_X8_countPassedOver : LkV yX8_countPassedOver := ⟨inG 740 (by decide +kernel) (by decide +kernel), inG 13 (by decide +kernel) (by decide +kernel)⟩
theorem lb_X8_countNodesPassedOver : LkB yX8_countNodesPassedOver cX8_countNodesPassedOver 5 (some .int) 1 := ⟨inG 753 (by decide +kernel) (by decide +kernel), inG 40 (by decide +kernel) (by decide +kernel), by decide +kernel⟩
theorem lv_X8_countNodesPassedOver : LkV yX8_countNodesPassedOver := ⟨inG 752 (by decide +kernel) (by decide +kernel), inG 15 (by decide +kernel) (by decide +kernel)⟩
theorem lb_X8_isNumber : LkB yX8_isNumber cX8_isNumber 1 (some .boolean) 1 := ⟨inG 246 (by decide +kernel) (by decide +kernel), inG 40 (by decide +kernel) (by decide +kernel), by decide +kernel⟩
theorem ls_X8_isNumber : Cond.static yX8_isNumber ∈ bigG := inG 245 (by decide +kernel) (by decide +kernel)
theorem lb_X8_isRange : LkB yX8_isRange cX8_isRange 2 (some .boolean) 2 := ⟨inG 454 (by decide +kernel) (by decide +kernel), inG 40 (by decide +kernel) (by decide +kernel), by decide +kernel⟩
theorem ls_X8_isRange : Cond.static yX8_isRange ∈ bigG := inG 453 (by decide +kernel) (by decide +kernel)
theorem lb_X8_isItem : LkB yX8_isItem cX8_isItem 1 (some .boolean) 1 := ⟨inG 535 (by decide +kernel) (by decide +kernel), inG 40 (by decide +kernel) (by decide +kernel), by decide +kernel⟩
theorem ls_X8_isItem : Cond.static yX8_isItem ∈ bigG := inG 534 (by decide +kernel) (by decide +kernel)
theorem lb_X8_isNodeItem : LkB yX8_isNodeItem cX8_isNodeItem 1 (some .boolean) 1 := ⟨inG 538 (by decide +kernel) (by decide +kernel), inG 40 (by decide +kernel) (by decide +kernel), by decide +kernel⟩
theorem ls_X8_isNodeItem : Cond.static yX8_isNodeItem ∈ bigG := inG 537 (by decide +kernel) (by decide +kernel)
theorem lb_X8_isStep : LkB yX8_isStep cX8_isStep 2 (some .boolean) 2 := ⟨inG 655 (by decide +kernel) (by decide +kernel), inG 40 (by decide +kernel) (by decide +kernel), by decide +kernel⟩
theorem ls_X8_isStep : Cond.static yX8_isStep ∈ bigG := inG 654 (by decide +kernel) (by decide +kernel)
theorem lb_X8_isSlot : LkB yX8_isSlot cX8_isSlot 1 (some .boolean) 1 := ⟨inG 704 (by decide +kernel) (by decide +kernel), inG 40 (by decide +kernel) (by decide +kernel), by decide +kernel⟩
theorem ls_X8_isSlot : Cond.static yX8_isSlot ∈ bigG := inG 703 (by decide +kernel) (by decide +kernel)
theorem lb_X8_rankOf : LkB yX8_rankOf cX8_rankOf 3 (some .int) 1 := ⟨inG 299 (by decide +kernel) (by decide +kernel), inG 40 (by decide +kernel) (by decide +kernel), by decide +kernel⟩
theorem ls_X8_rankOf : Cond.static yX8_rankOf ∈ bigG := inG 298 (by decide +kernel) (by decide +kernel)
theorem lb_X8_isAbove : LkB yX8_isAbove cX8_isAbove 4 (some .boolean) 2 := ⟨inG 296 (by decide +kernel) (by decide +kernel), inG 40 (by decide +kernel) (by decide +kernel), by decide +kernel⟩
theorem ls_X8_isAbove : Cond.static yX8_isAbove ∈ bigG := inG 295 (by decide +kernel) (by decide +kernel)
theorem lb_X8_digestOfNode : LkB yX8_digestOfNode cX8_digestOfNode 6 (some .int) 4 := ⟨inG 310 (by decide +kernel) (by decide +kernel), inG 40 (by decide +kernel) (by decide +kernel), by decide +kernel⟩
theorem ls_X8_digestOfNode : Cond.static yX8_digestOfNode ∈ bigG := inG 309 (by decide +kernel) (by decide +kernel)
theorem lb_X8_mixed : LkB yX8_mixed cX8_mixed 3 (some .long) 2 := ⟨inG 314 (by decide +kernel) (by decide +kernel), inG 40 (by decide +kernel) (by decide +kernel), by decide +kernel⟩
theorem ls_X8_mixed : Cond.static yX8_mixed ∈ bigG := inG 313 (by decide +kernel) (by decide +kernel)
theorem lb_X8_nodeItem : LkB yX8_nodeItem cX8_nodeItem 2 (some .int) 2 := ⟨inG 469 (by decide +kernel) (by decide +kernel), inG 40 (by decide +kernel) (by decide +kernel), by decide +kernel⟩
theorem ls_X8_nodeItem : Cond.static yX8_nodeItem ∈ bigG := inG 468 (by decide +kernel) (by decide +kernel)
theorem lb_X8_keyOfItem : LkB yX8_keyOfItem cX8_keyOfItem 1 (some .int) 1 := ⟨inG 594 (by decide +kernel) (by decide +kernel), inG 40 (by decide +kernel) (by decide +kernel), by decide +kernel⟩
theorem ls_X8_keyOfItem : Cond.static yX8_keyOfItem ∈ bigG := inG 593 (by decide +kernel) (by decide +kernel)
theorem lb_X8_valueOfItem : LkB yX8_valueOfItem cX8_valueOfItem 1 (some .int) 1 := ⟨inG 605 (by decide +kernel) (by decide +kernel), inG 40 (by decide +kernel) (by decide +kernel), by decide +kernel⟩
theorem ls_X8_valueOfItem : Cond.static yX8_valueOfItem ∈ bigG := inG 604 (by decide +kernel) (by decide +kernel)
theorem lb_X9_init : LkB yX9_init cX9_init 2 none 0 := ⟨inG 758 (by decide +kernel) (by decide +kernel), inG 49 (by decide +kernel) (by decide +kernel), by decide +kernel⟩
theorem li_X9_init : yX9_init.name = "<init>" ∧ Cond.instanceMethod yX9_init ∈ bigG := ⟨rfl, inG 757 (by decide +kernel) (by decide +kernel)⟩
theorem lb_X9_in : LkB yX9_in cX9_in 6 (some .boolean) 3 := ⟨inG 910 (by decide +kernel) (by decide +kernel), inG 49 (by decide +kernel) (by decide +kernel), by decide +kernel⟩
theorem ls_X9_in : Cond.static yX9_in ∈ bigG := inG 909 (by decide +kernel) (by decide +kernel)
theorem lb_X9_isNumber : LkB yX9_isNumber cX9_isNumber 1 (some .boolean) 1 := ⟨inG 906 (by decide +kernel) (by decide +kernel), inG 49 (by decide +kernel) (by decide +kernel), by decide +kernel⟩
theorem ls_X9_isNumber : Cond.static yX9_isNumber ∈ bigG := inG 905 (by decide +kernel) (by decide +kernel)
theorem lb_X9_isRange : LkB yX9_isRange cX9_isRange 2 (some .boolean) 2 := ⟨inG 996 (by decide +kernel) (by decide +kernel), inG 49 (by decide +kernel) (by decide +kernel), by decide +kernel⟩
theorem ls_X9_isRange : Cond.static yX9_isRange ∈ bigG := inG 995 (by decide +kernel) (by decide +kernel)
theorem lb_X9_rankOf : LkB yX9_rankOf cX9_rankOf 3 (some .int) 1 := ⟨inG 964 (by decide +kernel) (by decide +kernel), inG 49 (by decide +kernel) (by decide +kernel), by decide +kernel⟩
theorem ls_X9_rankOf : Cond.static yX9_rankOf ∈ bigG := inG 963 (by decide +kernel) (by decide +kernel)
theorem lb_X9_isAbove : LkB yX9_isAbove cX9_isAbove 2 (some .boolean) 2 := ⟨inG 961 (by decide +kernel) (by decide +kernel), inG 49 (by decide +kernel) (by decide +kernel), by decide +kernel⟩
theorem ls_X9_isAbove : Cond.static yX9_isAbove ∈ bigG := inG 960 (by decide +kernel) (by decide +kernel)
theorem lb_X9_digestOf : LkB yX9_digestOf cX9_digestOf 6 (some .int) 4 := ⟨inG 970 (by decide +kernel) (by decide +kernel), inG 49 (by decide +kernel) (by decide +kernel), by decide +kernel⟩
theorem ls_X9_digestOf : Cond.static yX9_digestOf ∈ bigG := inG 969 (by decide +kernel) (by decide +kernel)
theorem lb_X9_manyOf : LkB yX9_manyOf cX9_manyOf 3 (some .int) 1 := ⟨inG 916 (by decide +kernel) (by decide +kernel), inG 49 (by decide +kernel) (by decide +kernel), by decide +kernel⟩
theorem ls_X9_manyOf : Cond.static yX9_manyOf ∈ bigG := inG 915 (by decide +kernel) (by decide +kernel)
theorem lb_X9_want : LkB yX9_want cX9_want 5 none 4 := ⟨inG 955 (by decide +kernel) (by decide +kernel), inG 49 (by decide +kernel) (by decide +kernel), by decide +kernel⟩
theorem lv_X9_want : LkV yX9_want := ⟨inG 954 (by decide +kernel) (by decide +kernel), inG 19 (by decide +kernel) (by decide +kernel)⟩
theorem lb_X9_uppermost : LkB yX9_uppermost cX9_uppermost 5 (some .int) 3 := ⟨inG 958 (by decide +kernel) (by decide +kernel), inG 49 (by decide +kernel) (by decide +kernel), by decide +kernel⟩
theorem ls_X9_uppermost : Cond.static yX9_uppermost ∈ bigG := inG 957 (by decide +kernel) (by decide +kernel)
theorem lb_X9_make : LkB yX9_make cX9_make 10 none 2 := ⟨inG 951 (by decide +kernel) (by decide +kernel), inG 49 (by decide +kernel) (by decide +kernel), by decide +kernel⟩
theorem lv_X9_make : LkV yX9_make := ⟨inG 950 (by decide +kernel) (by decide +kernel), inG 18 (by decide +kernel) (by decide +kernel)⟩
theorem lb_X9_rootOf : LkB yX9_rootOf cX9_rootOf 2 (some .int) 1 := ⟨inG 947 (by decide +kernel) (by decide +kernel), inG 49 (by decide +kernel) (by decide +kernel), by decide +kernel⟩
theorem lv_X9_rootOf : LkV yX9_rootOf := ⟨inG 946 (by decide +kernel) (by decide +kernel), inG 17 (by decide +kernel) (by decide +kernel)⟩
theorem lb_X9_note : LkB yX9_note cX9_note 2 none 0 := ⟨inG 920 (by decide +kernel) (by decide +kernel), inG 49 (by decide +kernel) (by decide +kernel), by decide +kernel⟩
theorem lv_X9_note : LkV yX9_note := ⟨inG 919 (by decide +kernel) (by decide +kernel), inG 16 (by decide +kernel) (by decide +kernel)⟩
theorem lb_X9_mayPut : LkB yX9_mayPut cX9_mayPut 2 (some .boolean) 2 := ⟨inG 913 (by decide +kernel) (by decide +kernel), inG 49 (by decide +kernel) (by decide +kernel), by decide +kernel⟩
theorem ls_X9_mayPut : Cond.static yX9_mayPut ∈ bigG := inG 912 (by decide +kernel) (by decide +kernel)
theorem lb_X9_put : LkB yX9_put cX9_put 4 (some .int) 2 := ⟨inG 903 (by decide +kernel) (by decide +kernel), inG 49 (by decide +kernel) (by decide +kernel), by decide +kernel⟩
theorem lv_X9_put : LkV yX9_put := ⟨inG 901 (by decide +kernel) (by decide +kernel), inG 902 (by decide +kernel) (by decide +kernel)⟩
theorem lb_X9_remove : LkB yX9_remove cX9_remove 3 (some .int) 1 := ⟨inG 924 (by decide +kernel) (by decide +kernel), inG 49 (by decide +kernel) (by decide +kernel), by decide +kernel⟩
theorem lv_X9_remove : LkV yX9_remove := ⟨inG 922 (by decide +kernel) (by decide +kernel), inG 923 (by decide +kernel) (by decide +kernel)⟩
theorem lb_X9_get : LkB yX9_get cX9_get 2 (some .int) 1 := ⟨inG 928 (by decide +kernel) (by decide +kernel), inG 49 (by decide +kernel) (by decide +kernel), by decide +kernel⟩
theorem lv_X9_get : LkV yX9_get := ⟨inG 926 (by decide +kernel) (by decide +kernel), inG 927 (by decide +kernel) (by decide +kernel)⟩
theorem lb_X9_scatter : LkB yX9_scatter cX9_scatter 8 (some .int) 2 := ⟨inG 932 (by decide +kernel) (by decide +kernel), inG 49 (by decide +kernel) (by decide +kernel), by decide +kernel⟩
theorem lv_X9_scatter : LkV yX9_scatter := ⟨inG 930 (by decide +kernel) (by decide +kernel), inG 931 (by decide +kernel) (by decide +kernel)⟩
theorem lb_X9_undo : LkB yX9_undo cX9_undo 2 (some .int) 0 := ⟨inG 939 (by decide +kernel) (by decide +kernel), inG 49 (by decide +kernel) (by decide +kernel), by decide +kernel⟩
theorem lv_X9_undo : LkV yX9_undo := ⟨inG 937 (by decide +kernel) (by decide +kernel), inG 938 (by decide +kernel) (by decide +kernel)⟩
theorem lb_X9_height : LkB yX9_height cX9_height 3 (some .int) 0 := ⟨inG 977 (by decide +kernel) (by decide +kernel), inG 49 (by decide +kernel) (by decide +kernel), by decide +kernel⟩
theorem lv_X9_height : LkV yX9_height := ⟨inG 976 (by decide +kernel) (by decide +kernel), inG 20 (by decide +kernel) (by decide +kernel)⟩
theorem lb_X9_values : LkB yX9_values cX9_values 3 (some .int) 0 := ⟨inG 981 (by decide +kernel) (by decide +kernel), inG 49 (by decide +kernel) (by decide +kernel), by decide +kernel⟩
theorem lv_X9_values : LkV yX9_values := ⟨inG 980 (by decide +kernel) (by decide +kernel), inG 21 (by decide +kernel) (by decide +kernel)⟩
theorem lb_X9_about : LkB yX9_about cX9_about 2 (some .int) 1 := ⟨inG 943 (by decide +kernel) (by decide +kernel), inG 49 (by decide +kernel) (by decide +kernel), by decide +kernel⟩
theorem lv_X9_about : LkV yX9_about := ⟨inG 941 (by decide +kernel) (by decide +kernel), inG 942 (by decide +kernel) (by decide +kernel)⟩
theorem lb_X9_node : LkB yX9_node cX9_node 3 (some .int) 2 := ⟨inG 985 (by decide +kernel) (by decide +kernel), inG 49 (by decide +kernel) (by decide +kernel), by decide +kernel⟩
theorem lv_X9_node : LkV yX9_node := ⟨inG 983 (by decide +kernel) (by decide +kernel), inG 984 (by decide +kernel) (by decide +kernel)⟩
theorem lb_X9_rank : LkB yX9_rank cX9_rank 2 (some .int) 1 := ⟨inG 989 (by decide +kernel) (by decide +kernel), inG 49 (by decide +kernel) (by decide +kernel), by decide +kernel⟩
theorem lv_X9_rank : LkV yX9_rank := ⟨inG 987 (by decide +kernel) (by decide +kernel), inG 988 (by decide +kernel) (by decide +kernel)⟩
theorem lb_X9_itemOf : LkB yX9_itemOf cX9_itemOf 2 (some .int) 2 := ⟨inG 1004 (by decide +kernel) (by decide +kernel), inG 49 (by decide +kernel) (by decide +kernel), by decide +kernel⟩
theorem ls_X9_itemOf : Cond.static yX9_itemOf ∈ bigG := inG 1003 (by decide +kernel) (by decide +kernel)
theorem lb_X9_prove : LkB yX9_prove cX9_prove 8 none 3 := ⟨inG 1001 (by decide +kernel) (by decide +kernel), inG 49 (by decide +kernel) (by decide +kernel), by decide +kernel⟩
theorem lv_X9_prove : LkV yX9_prove := ⟨inG 1000 (by decide +kernel) (by decide +kernel), inG 22 (by decide +kernel) (by decide +kernel)⟩
theorem lb_X9_proof : LkB yX9_proof cX9_proof 6 (some .int) 3 := ⟨inG 993 (by decide +kernel) (by decide +kernel), inG 49 (by decide +kernel) (by decide +kernel), by decide +kernel⟩
theorem lv_X9_proof : LkV yX9_proof := ⟨inG 991 (by decide +kernel) (by decide +kernel), inG 992 (by decide +kernel) (by decide +kernel)⟩
theorem lb_X9_item : LkB yX9_item cX9_item 4 (some .int) 3 := ⟨inG 1008 (by decide +kernel) (by decide +kernel), inG 49 (by decide +kernel) (by decide +kernel), by decide +kernel⟩
theorem lv_X9_item : LkV yX9_item := ⟨inG 1006 (by decide +kernel) (by decide +kernel), inG 1007 (by decide +kernel) (by decide +kernel)⟩
theorem lb_X9_lengths : LkB yX9_lengths cX9_lengths 6 (some .int) 2 := ⟨inG 1012 (by decide +kernel) (by decide +kernel), inG 49 (by decide +kernel) (by decide +kernel), by decide +kernel⟩
theorem lv_X9_lengths : LkV yX9_lengths := ⟨inG 1010 (by decide +kernel) (by decide +kernel), inG 1011 (by decide +kernel) (by decide +kernel)⟩
theorem lb_X9_send : LkB yX9_send cX9_send 4 (some .int) 2 := ⟨inG 1016 (by decide +kernel) (by decide +kernel), inG 49 (by decide +kernel) (by decide +kernel), by decide +kernel⟩
theorem lv_X9_send : LkV yX9_send := ⟨inG 1014 (by decide +kernel) (by decide +kernel), inG 1015 (by decide +kernel) (by decide +kernel)⟩
theorem lb_X9_isItem : LkB yX9_isItem cX9_isItem 1 (some .boolean) 1 := ⟨inG 1023 (by decide +kernel) (by decide +kernel), inG 49 (by decide +kernel) (by decide +kernel), by decide +kernel⟩
theorem ls_X9_isItem : Cond.static yX9_isItem ∈ bigG := inG 1022 (by decide +kernel) (by decide +kernel)
theorem lb_X9_tell : LkB yX9_tell cX9_tell 2 (some .int) 1 := ⟨inG 1020 (by decide +kernel) (by decide +kernel), inG 49 (by decide +kernel) (by decide +kernel), by decide +kernel⟩
theorem lv_X9_tell : LkV yX9_tell := ⟨inG 1018 (by decide +kernel) (by decide +kernel), inG 1019 (by decide +kernel) (by decide +kernel)⟩
theorem lb_X9_alter : LkB yX9_alter cX9_alter 4 (some .int) 2 := ⟨inG 1029 (by decide +kernel) (by decide +kernel), inG 49 (by decide +kernel) (by decide +kernel), by decide +kernel⟩
theorem lv_X9_alter : LkV yX9_alter := ⟨inG 1027 (by decide +kernel) (by decide +kernel), inG 1028 (by decide +kernel) (by decide +kernel)⟩
theorem lb_X9_cut : LkB yX9_cut cX9_cut 3 (some .int) 1 := ⟨inG 1033 (by decide +kernel) (by decide +kernel), inG 49 (by decide +kernel) (by decide +kernel), by decide +kernel⟩
theorem lv_X9_cut : LkV yX9_cut := ⟨inG 1031 (by decide +kernel) (by decide +kernel), inG 1032 (by decide +kernel) (by decide +kernel)⟩
theorem lb_X9_takeTrust : LkB yX9_takeTrust cX9_takeTrust 3 (some .int) 1 := ⟨inG 1041 (by decide +kernel) (by decide +kernel), inG 49 (by decide +kernel) (by decide +kernel), by decide +kernel⟩
theorem lv_X9_takeTrust : LkV yX9_takeTrust := ⟨inG 1040 (by decide +kernel) (by decide +kernel), inG 23 (by decide +kernel) (by decide +kernel)⟩
theorem lb_X9_trust : LkB yX9_trust cX9_trust 1 (some .int) 0 := ⟨inG 1037 (by decide +kernel) (by decide +kernel), inG 49 (by decide +kernel) (by decide +kernel), by decide +kernel⟩
theorem lv_X9_trust : LkV yX9_trust := ⟨inG 1035 (by decide +kernel) (by decide +kernel), inG 1036 (by decide +kernel) (by decide +kernel)⟩
theorem lb_X9_believe : LkB yX9_believe cX9_believe 2 (some .int) 1 := ⟨inG 1045 (by decide +kernel) (by decide +kernel), inG 49 (by decide +kernel) (by decide +kernel), by decide +kernel⟩
theorem lv_X9_believe : LkV yX9_believe := ⟨inG 1043 (by decide +kernel) (by decide +kernel), inG 1044 (by decide +kernel) (by decide +kernel)⟩
theorem lb_X9_former : LkB yX9_former cX9_former 2 (some .int) 1 := ⟨inG 1049 (by decide +kernel) (by decide +kernel), inG 49 (by decide +kernel) (by decide +kernel), by decide +kernel⟩
theorem lv_X9_former : LkV yX9_former := ⟨inG 1047 (by decide +kernel) (by decide +kernel), inG 1048 (by decide +kernel) (by decide +kernel)⟩
theorem lb_X9_hang : LkB yX9_hang cX9_hang 5 none 4 := ⟨inG 1065 (by decide +kernel) (by decide +kernel), inG 49 (by decide +kernel) (by decide +kernel), by decide +kernel⟩
theorem lv_X9_hang : LkV yX9_hang := ⟨inG 1064 (by decide +kernel) (by decide +kernel), inG 26 (by decide +kernel) (by decide +kernel)⟩
theorem lb_X9_takeItem : LkB yX9_takeItem cX9_takeItem 10 (some .int) 4 := ⟨inG 1061 (by decide +kernel) (by decide +kernel), inG 49 (by decide +kernel) (by decide +kernel), by decide +kernel⟩
theorem lv_X9_takeItem : LkV yX9_takeItem := ⟨inG 1060 (by decide +kernel) (by decide +kernel), inG 25 (by decide +kernel) (by decide +kernel)⟩
theorem lb_X9_reasonOf : LkB yX9_reasonOf cX9_reasonOf 7 (some .int) 2 := ⟨inG 1057 (by decide +kernel) (by decide +kernel), inG 49 (by decide +kernel) (by decide +kernel), by decide +kernel⟩
theorem lv_X9_reasonOf : LkV yX9_reasonOf := ⟨inG 1056 (by decide +kernel) (by decide +kernel), inG 24 (by decide +kernel) (by decide +kernel)⟩
theorem lb_X9_shownDigest : LkB yX9_shownDigest cX9_shownDigest 4 (some .int) 0 := ⟨inG 1069 (by decide +kernel) (by decide +kernel), inG 49 (by decide +kernel) (by decide +kernel), by decide +kernel⟩
theorem lv_X9_shownDigest : LkV yX9_shownDigest := ⟨inG 1068 (by decide +kernel) (by decide +kernel), inG 27 (by decide +kernel) (by decide +kernel)⟩
theorem lb_X9_read : LkB yX9_read cX9_read 3 (some .int) 2 := ⟨inG 1053 (by decide +kernel) (by decide +kernel), inG 49 (by decide +kernel) (by decide +kernel), by decide +kernel⟩
theorem lv_X9_read : LkV yX9_read := ⟨inG 1051 (by decide +kernel) (by decide +kernel), inG 1052 (by decide +kernel) (by decide +kernel)⟩
theorem lb_X9_learnt : LkB yX9_learnt cX9_learnt 10 (some .int) 3 := ⟨inG 1073 (by decide +kernel) (by decide +kernel), inG 49 (by decide +kernel) (by decide +kernel), by decide +kernel⟩
theorem lv_X9_learnt : LkV yX9_learnt := ⟨inG 1071 (by decide +kernel) (by decide +kernel), inG 1072 (by decide +kernel) (by decide +kernel)⟩
theorem lb_X9_found : LkB yX9_found cX9_found 6 (some .int) 3 := ⟨inG 1078 (by decide +kernel) (by decide +kernel), inG 49 (by decide +kernel) (by decide +kernel), by decide +kernel⟩
theorem lv_X9_found : LkV yX9_found := ⟨inG 1076 (by decide +kernel) (by decide +kernel), inG 1077 (by decide +kernel) (by decide +kernel)⟩
theorem lb_X9_layRow : LkB yX9_layRow cX9_layRow 3 none 0 := ⟨inG 1082 (by decide +kernel) (by decide +kernel), inG 49 (by decide +kernel) (by decide +kernel), by decide +kernel⟩
theorem lv_X9_layRow : LkV yX9_layRow := ⟨inG 1081 (by decide +kernel) (by decide +kernel), inG 28 (by decide +kernel) (by decide +kernel)⟩
theorem lb_X9_placeOf : LkB yX9_placeOf cX9_placeOf 4 (some .int) 1 := ⟨inG 1086 (by decide +kernel) (by decide +kernel), inG 49 (by decide +kernel) (by decide +kernel), by decide +kernel⟩
theorem lv_X9_placeOf : LkV yX9_placeOf := ⟨inG 1085 (by decide +kernel) (by decide +kernel), inG 29 (by decide +kernel) (by decide +kernel)⟩
theorem lb_X9_takeOut : LkB yX9_takeOut cX9_takeOut 3 none 1 := ⟨inG 1098 (by decide +kernel) (by decide +kernel), inG 49 (by decide +kernel) (by decide +kernel), by decide +kernel⟩
theorem lv_X9_takeOut : LkV yX9_takeOut := ⟨inG 1097 (by decide +kernel) (by decide +kernel), inG 31 (by decide +kernel) (by decide +kernel)⟩
theorem lb_X9_putIn : LkB yX9_putIn cX9_putIn 5 none 2 := ⟨inG 1102 (by decide +kernel) (by decide +kernel), inG 49 (by decide +kernel) (by decide +kernel), by decide +kernel⟩
theorem lv_X9_putIn : LkV yX9_putIn := ⟨inG 1101 (by decide +kernel) (by decide +kernel), inG 32 (by decide +kernel) (by decide +kernel)⟩
theorem lb_X9_uppermostOf : LkB yX9_uppermostOf cX9_uppermostOf 5 (some .int) 2 := ⟨inG 1110 (by decide +kernel) (by decide +kernel), inG 49 (by decide +kernel) (by decide +kernel), by decide +kernel⟩
theorem lv_X9_uppermostOf : LkV yX9_uppermostOf := ⟨inG 1109 (by decide +kernel) (by decide +kernel), inG 34 (by decide +kernel) (by decide +kernel)⟩
theorem lb_X9_rowDigest : LkB yX9_rowDigest cX9_rowDigest 8 (some .int) 0 := ⟨inG 1106 (by decide +kernel) (by decide +kernel), inG 49 (by decide +kernel) (by decide +kernel), by decide +kernel⟩
theorem lv_X9_rowDigest : LkV yX9_rowDigest := ⟨inG 1105 (by decide +kernel) (by decide +kernel), inG 33 (by decide +kernel) (by decide +kernel)⟩
theorem lb_X9_hanging : LkB yX9_hanging cX9_hanging 2 (some .int) 1 := ⟨inG 1114 (by decide +kernel) (by decide +kernel), inG 49 (by decide +kernel) (by decide +kernel), by decide +kernel⟩
theorem lv_X9_hanging : LkV yX9_hanging := ⟨inG 1113 (by decide +kernel) (by decide +kernel), inG 35 (by decide +kernel) (by decide +kernel)⟩
theorem lb_X9_followed : LkB yX9_followed cX9_followed 4 (some .int) 2 := ⟨inG 1094 (by decide +kernel) (by decide +kernel), inG 49 (by decide +kernel) (by decide +kernel), by decide +kernel⟩
theorem lv_X9_followed : LkV yX9_followed := ⟨inG 1093 (by decide +kernel) (by decide +kernel), inG 30 (by decide +kernel) (by decide +kernel)⟩
theorem lb_X9_step : LkB yX9_step cX9_step 3 (some .int) 2 := ⟨inG 1090 (by decide +kernel) (by decide +kernel), inG 49 (by decide +kernel) (by decide +kernel), by decide +kernel⟩
theorem lv_X9_step : LkV yX9_step := ⟨inG 1088 (by decide +kernel) (by decide +kernel), inG 1089 (by decide +kernel) (by decide +kernel)⟩
theorem lb_X9_follow : LkB yX9_follow cX9_follow 4 (some .int) 2 := ⟨inG 1118 (by decide +kernel) (by decide +kernel), inG 49 (by decide +kernel) (by decide +kernel), by decide +kernel⟩
theorem lv_X9_follow : LkV yX9_follow := ⟨inG 1116 (by decide +kernel) (by decide +kernel), inG 1117 (by decide +kernel) (by decide +kernel)⟩
theorem lb_X9_judged : LkB yX9_judged cX9_judged 4 (some .boolean) 3 := ⟨inG 1130 (by decide +kernel) (by decide +kernel), inG 49 (by decide +kernel) (by decide +kernel), by decide +kernel⟩
theorem lv_X9_judged : LkV yX9_judged := ⟨inG 1129 (by decide +kernel) (by decide +kernel), inG 36 (by decide +kernel) (by decide +kernel)⟩
theorem lb_X9_hundredThousands : LkB yX9_hundredThousands cX9_hundredThousands 4 (some .long) 1 := ⟨inG 1125 (by decide +kernel) (by decide +kernel), inG 49 (by decide +kernel) (by decide +kernel), by decide +kernel⟩
theorem ls_X9_hundredThousands : Cond.static yX9_hundredThousands ∈ bigG := inG 1124 (by decide +kernel) (by decide +kernel)
theorem lb_X9_judge : LkB yX9_judge cX9_judge 6 (some .int) 2 := ⟨inG 1122 (by decide +kernel) (by decide +kernel), inG 49 (by decide +kernel) (by decide +kernel), by decide +kernel⟩
theorem lv_X9_judge : LkV yX9_judge := ⟨inG 1120 (by decide +kernel) (by decide +kernel), inG 1121 (by decide +kernel) (by decide +kernel)⟩
theorem lb_X9_keep : LkB yX9_keep cX9_keep 3 (some .int) 1 := ⟨inG 1134 (by decide +kernel) (by decide +kernel), inG 49 (by decide +kernel) (by decide +kernel), by decide +kernel⟩
theorem lv_X9_keep : LkV yX9_keep := ⟨inG 1132 (by decide +kernel) (by decide +kernel), inG 1133 (by decide +kernel) (by decide +kernel)⟩
theorem lb_X9_again : LkB yX9_again cX9_again 3 (some .int) 1 := ⟨inG 1138 (by decide +kernel) (by decide +kernel), inG 49 (by decide +kernel) (by decide +kernel), by decide +kernel⟩
theorem lv_X9_again : LkV yX9_again := ⟨inG 1136 (by decide +kernel) (by decide +kernel), inG 1137 (by decide +kernel) (by decide +kernel)⟩
theorem lb_X9_isSame : LkB yX9_isSame cX9_isSame 2 (some .boolean) 1 := ⟨inG 1150 (by decide +kernel) (by decide +kernel), inG 49 (by decide +kernel) (by decide +kernel), by decide +kernel⟩
theorem lv_X9_isSame : LkV yX9_isSame := ⟨inG 1149 (by decide +kernel) (by decide +kernel), inG 38 (by decide +kernel) (by decide +kernel)⟩
theorem lb_X9_isPassed : LkB yX9_isPassed cX9_isPassed 4 (some .boolean) 1 := ⟨inG 1146 (by decide +kernel) (by decide +kernel), inG 49 (by decide +kernel) (by decide +kernel), by decide +kernel⟩
theorem lv_X9_isPassed : LkV yX9_isPassed := ⟨inG 1145 (by decide +kernel) (by decide +kernel), inG 37 (by decide +kernel) (by decide +kernel)⟩
theorem lb_X9_differ : LkB yX9_differ cX9_differ 8 (some .int) 2 := ⟨inG 1142 (by decide +kernel) (by decide +kernel), inG 49 (by decide +kernel) (by decide +kernel), by decide +kernel⟩
theorem lv_X9_differ : LkV yX9_differ := ⟨inG 1140 (by decide +kernel) (by decide +kernel), inG 1141 (by decide +kernel) (by decide +kernel)⟩
theorem lb_J9_floorMod_7cf53 : LkB yJ9_floorMod_7cf53 cJ9_floorMod_7cf53 3 (some .int) 2 := ⟨inG 271 (by decide +kernel) (by decide +kernel), inG 50 (by decide +kernel) (by decide +kernel), by decide +kernel⟩
theorem ls_J9_floorMod_7cf53 : Cond.static yJ9_floorMod_7cf53 ∈ bigG := inG 270 (by decide +kernel) (by decide +kernel)
theorem lb_J9_max_7cf53 : LkB yJ9_max_7cf53 cJ9_max_7cf53 2 (some .int) 2 := ⟨inG 382 (by decide +kernel) (by decide +kernel), inG 50 (by decide +kernel) (by decide +kernel), by decide +kernel⟩
theorem ls_J9_max_7cf53 : Cond.static yJ9_max_7cf53 ∈ bigG := inG 381 (by decide +kernel) (by decide +kernel)
theorem lb_J9_min_7cf53 : LkB yJ9_min_7cf53 cJ9_min_7cf53 2 (some .int) 2 := ⟨inG 564 (by decide +kernel) (by decide +kernel), inG 50 (by decide +kernel) (by decide +kernel), by decide +kernel⟩
theorem ls_J9_min_7cf53 : Cond.static yJ9_min_7cf53 ∈ bigG := inG 563 (by decide +kernel) (by decide +kernel)
theorem lb_J7_fill_53178 : LkB yJ7_fill_53178 cJ7_fill_53178 4 none 2 := ⟨inG 69 (by decide +kernel) (by decide +kernel), inG 42 (by decide +kernel) (by decide +kernel), by decide +kernel⟩
theorem ls_J7_fill_53178 : Cond.static yJ7_fill_53178 ∈ bigG := inG 68 (by decide +kernel) (by decide +kernel)
theorem ml_L_9 : Cond.methodLink RL 9 yX8_init ∈ bigG := inG 55 (by decide +kernel) (by decide +kernel)
theorem ob_X8_3 : Cond.methodLink RX8 3 Lib.objectInit ∈ bigG := inG 58 (by decide +kernel) (by decide +kernel)
theorem ml_X8_11 : Cond.methodLink RX8 11 yX2_init ∈ bigG := inG 63 (by decide +kernel) (by decide +kernel)
theorem ob_X2_3 : Cond.methodLink RX2 3 Lib.objectInit ∈ bigG := inG 66 (by decide +kernel) (by decide +kernel)
theorem ml_X2_15 : Cond.methodLink RX2 15 yJ7_fill_53178 ∈ bigG := inG 67 (by decide +kernel) (by decide +kernel)
theorem nl_X8_18 : (RX8, 18, yX7_init, "BorderProofs") ∈ nwL := List.mem_of_getElem? (i := 0) rfl
theorem ob_X7_3 : Cond.methodLink RX7 3 Lib.objectInit ∈ bigG := inG 83 (by decide +kernel) (by decide +kernel)
theorem nl_X7_33 : (RX7, 33, yX3_init, "BorderProofs") ∈ nwL := List.mem_of_getElem? (i := 1) rfl
theorem ob_X3_3 : Cond.methodLink RX3 3 Lib.objectInit ∈ bigG := inG 89 (by decide +kernel) (by decide +kernel)
theorem ml_X8_25 : Cond.methodLink RX8 25 yX0_init ∈ bigG := inG 133 (by decide +kernel) (by decide +kernel)
theorem ob_X0_3 : Cond.methodLink RX0 3 Lib.objectInit ∈ bigG := inG 136 (by decide +kernel) (by decide +kernel)
theorem ml_X0_17 : Cond.methodLink RX0 17 yX2_init ∈ bigG := inG 139 (by decide +kernel) (by decide +kernel)
theorem nl_X8_32 : (RX8, 32, yX5_init, "BorderProofs") ∈ nwL := List.mem_of_getElem? (i := 2) rfl
theorem ob_X5_3 : Cond.methodLink RX5 3 Lib.objectInit ∈ bigG := inG 155 (by decide +kernel) (by decide +kernel)
theorem nl_X5_11 : (RX5, 11, yX1_init, "BorderProofs") ∈ nwL := List.mem_of_getElem? (i := 3) rfl
theorem ob_X1_3 : Cond.methodLink RX1 3 Lib.objectInit ∈ bigG := inG 161 (by decide +kernel) (by decide +kernel)
theorem ml_X5_24 : Cond.methodLink RX5 24 yX2_init ∈ bigG := inG 170 (by decide +kernel) (by decide +kernel)
theorem nl_X5_31 : (RX5, 31, yX7_init, "BorderProofs") ∈ nwL := List.mem_of_getElem? (i := 4) rfl
theorem nl_X5_38 : (RX5, 38, yX3_init, "BorderProofs") ∈ nwL := List.mem_of_getElem? (i := 5) rfl
theorem nl_X8_51 : (RX8, 51, yX1_init, "BorderProofs") ∈ nwL := List.mem_of_getElem? (i := 6) rfl
theorem nl_X8_56 : (RX8, 56, yX6_init, "BorderProofs") ∈ nwL := List.mem_of_getElem? (i := 7) rfl
theorem ob_X6_1 : Cond.methodLink RX6 1 Lib.objectInit ∈ bigG := inG 205 (by decide +kernel) (by decide +kernel)
theorem ml_X6_9 : Cond.methodLink RX6 9 yX2_init ∈ bigG := inG 207 (by decide +kernel) (by decide +kernel)
theorem ml_L_13 : Cond.methodLink RL 13 yX8_put ∈ bigG := inG 240 (by decide +kernel) (by decide +kernel)
theorem ml_X8_57 : Cond.methodLink RX8 57 yX8_isNumber ∈ bigG := inG 244 (by decide +kernel) (by decide +kernel)
theorem ml_X8_61 : Cond.methodLink RX8 61 yX2_hasRoomFor ∈ bigG := inG 247 (by decide +kernel) (by decide +kernel)
theorem ml_X2_33 : Cond.methodLink RX2 33 yX2_has ∈ bigG := inG 251 (by decide +kernel) (by decide +kernel)
theorem ml_X2_29 : Cond.methodLink RX2 29 yX2_valueOf ∈ bigG := inG 255 (by decide +kernel) (by decide +kernel)
theorem nl_X2_25 : (RX2, 25, yX8_isNumber, "BorderProofs") ∈ nwL := List.mem_of_getElem? (i := 8) rfl
theorem ml_X8_64 : Cond.methodLink RX8 64 yX2_valueOf ∈ bigG := inG 260 (by decide +kernel) (by decide +kernel)
theorem ml_X8_68 : Cond.methodLink RX8 68 yX0_note ∈ bigG := inG 261 (by decide +kernel) (by decide +kernel)
theorem ml_X0_25 : Cond.methodLink RX0 25 yX0_pairsAt ∈ bigG := inG 265 (by decide +kernel) (by decide +kernel)
theorem ml_X0_33 : Cond.methodLink RX0 33 yJ9_floorMod_7cf53 ∈ bigG := inG 269 (by decide +kernel) (by decide +kernel)
theorem ml_X0_29 : Cond.methodLink RX0 29 yX2_become ∈ bigG := inG 272 (by decide +kernel) (by decide +kernel)
theorem ac_X2_36 : Cond.methodLink RX2 36 arraycopyName ∈ bigG := inG 276 (by decide +kernel) (by decide +kernel)
theorem ml_X8_72 : Cond.methodLink RX8 72 yX2_give ∈ bigG := inG 279 (by decide +kernel) (by decide +kernel)
theorem ml_X8_76 : Cond.methodLink RX8 76 yX7_grow ∈ bigG := inG 283 (by decide +kernel) (by decide +kernel)
theorem ml_X7_46 : Cond.methodLink RX7 46 yJ7_fill_53178 ∈ bigG := inG 287 (by decide +kernel) (by decide +kernel)
theorem ml_X7_55 : Cond.methodLink RX7 55 yX2_has ∈ bigG := inG 288 (by decide +kernel) (by decide +kernel)
theorem ml_X7_60 : Cond.methodLink RX7 60 yX7_closeBefore ∈ bigG := inG 289 (by decide +kernel) (by decide +kernel)
theorem nl_X7_42 : (RX7, 42, yX8_isNumber, "BorderProofs") ∈ nwL := List.mem_of_getElem? (i := 9) rfl
theorem nl_X7_64 : (RX7, 64, yX8_isAbove, "BorderProofs") ∈ nwL := List.mem_of_getElem? (i := 10) rfl
theorem ml_X8_150 : Cond.methodLink RX8 150 yX8_rankOf ∈ bigG := inG 297 (by decide +kernel) (by decide +kernel)
theorem ml_X7_68 : Cond.methodLink RX7 68 yX2_valueOf ∈ bigG := inG 303 (by decide +kernel) (by decide +kernel)
theorem ml_X7_38 : Cond.methodLink RX7 38 yX7_digestOr ∈ bigG := inG 304 (by decide +kernel) (by decide +kernel)
theorem nl_X7_72 : (RX7, 72, yX8_digestOfNode, "BorderProofs") ∈ nwL := List.mem_of_getElem? (i := 11) rfl
theorem ml_X8_286 : Cond.methodLink RX8 286 yX8_mixed ∈ bigG := inG 312 (by decide +kernel) (by decide +kernel)
theorem ml_L_18 : Cond.methodLink RL 18 yX8_remove ∈ bigG := inG 317 (by decide +kernel) (by decide +kernel)
theorem ml_X8_79 : Cond.methodLink RX8 79 yX2_has ∈ bigG := inG 321 (by decide +kernel) (by decide +kernel)
theorem ml_X8_82 : Cond.methodLink RX8 82 yX2_drop ∈ bigG := inG 322 (by decide +kernel) (by decide +kernel)
theorem ml_L_23 : Cond.methodLink RL 23 yX8_get ∈ bigG := inG 326 (by decide +kernel) (by decide +kernel)
theorem ml_L_29 : Cond.methodLink RL 29 yX8_scatter ∈ bigG := inG 330 (by decide +kernel) (by decide +kernel)
theorem ml_X8_90 : Cond.methodLink RX8 90 yX2_count ∈ bigG := inG 336 (by decide +kernel) (by decide +kernel)
theorem ml_L_34 : Cond.methodLink RL 34 yX8_undo ∈ bigG := inG 340 (by decide +kernel) (by decide +kernel)
theorem ml_X8_94 : Cond.methodLink RX8 94 yX0_count ∈ bigG := inG 344 (by decide +kernel) (by decide +kernel)
theorem ml_X8_95 : Cond.methodLink RX8 95 yX0_takeBack ∈ bigG := inG 348 (by decide +kernel) (by decide +kernel)
theorem ml_L_39 : Cond.methodLink RL 39 yX8_about ∈ bigG := inG 352 (by decide +kernel) (by decide +kernel)
theorem ml_X8_98 : Cond.methodLink RX8 98 yX7_rootDigest ∈ bigG := inG 356 (by decide +kernel) (by decide +kernel)
theorem ml_X8_101 : Cond.methodLink RX8 101 yX7_height ∈ bigG := inG 360 (by decide +kernel) (by decide +kernel)
theorem ml_X7_85 : Cond.methodLink RX7 85 yX7_countNodesAround ∈ bigG := inG 364 (by decide +kernel) (by decide +kernel)
theorem ml_X7_82 : Cond.methodLink RX7 82 yX7_childTowards ∈ bigG := inG 368 (by decide +kernel) (by decide +kernel)
theorem ml_X7_76 : Cond.methodLink RX7 76 yX7_leftOf ∈ bigG := inG 372 (by decide +kernel) (by decide +kernel)
theorem ml_X7_79 : Cond.methodLink RX7 79 yX7_rightOf ∈ bigG := inG 376 (by decide +kernel) (by decide +kernel)
theorem ml_X7_88 : Cond.methodLink RX7 88 yJ9_max_7cf53 ∈ bigG := inG 380 (by decide +kernel) (by decide +kernel)
theorem ml_X8_104 : Cond.methodLink RX8 104 yX2_sumWithin ∈ bigG := inG 383 (by decide +kernel) (by decide +kernel)
theorem ml_X8_108 : Cond.methodLink RX8 108 yX5_row ∈ bigG := inG 387 (by decide +kernel) (by decide +kernel)
theorem ml_X8_112 : Cond.methodLink RX8 112 yX1_count ∈ bigG := inG 391 (by decide +kernel) (by decide +kernel)
theorem ml_X8_113 : Cond.methodLink RX8 113 yX5_trusted ∈ bigG := inG 395 (by decide +kernel) (by decide +kernel)
theorem ml_X8_116 : Cond.methodLink RX8 116 yX5_formerCount ∈ bigG := inG 399 (by decide +kernel) (by decide +kernel)
theorem ml_L_43 : Cond.methodLink RL 43 yX8_node ∈ bigG := inG 403 (by decide +kernel) (by decide +kernel)
theorem ml_X8_119 : Cond.methodLink RX8 119 yX7_placeOf ∈ bigG := inG 407 (by decide +kernel) (by decide +kernel)
theorem ml_X7_95 : Cond.methodLink RX7 95 yX4_init ∈ bigG := inG 413 (by decide +kernel) (by decide +kernel)
theorem ob_X4_1 : Cond.methodLink RX4 1 Lib.objectInit ∈ bigG := inG 416 (by decide +kernel) (by decide +kernel)
theorem ml_X8_132 : Cond.methodLink RX8 132 yX7_leftOf ∈ bigG := inG 434 (by decide +kernel) (by decide +kernel)
theorem ml_X8_135 : Cond.methodLink RX8 135 yX7_rightOf ∈ bigG := inG 435 (by decide +kernel) (by decide +kernel)
theorem ml_X8_144 : Cond.methodLink RX8 144 yX2_countWithin ∈ bigG := inG 436 (by decide +kernel) (by decide +kernel)
theorem ml_X8_147 : Cond.methodLink RX8 147 yX7_digestOf ∈ bigG := inG 440 (by decide +kernel) (by decide +kernel)
theorem ml_L_47 : Cond.methodLink RL 47 yX8_rank ∈ bigG := inG 444 (by decide +kernel) (by decide +kernel)
theorem ml_L_51 : Cond.methodLink RL 51 yX8_proof ∈ bigG := inG 448 (by decide +kernel) (by decide +kernel)
theorem ml_X8_153 : Cond.methodLink RX8 153 yX8_isRange ∈ bigG := inG 452 (by decide +kernel) (by decide +kernel)
theorem ml_X8_157 : Cond.methodLink RX8 157 yX7_writeProof ∈ bigG := inG 455 (by decide +kernel) (by decide +kernel)
theorem ml_X7_105 : Cond.methodLink RX7 105 yX1_shorten ∈ bigG := inG 459 (by decide +kernel) (by decide +kernel)
theorem ml_X7_111 : Cond.methodLink RX7 111 yX3_clear ∈ bigG := inG 463 (by decide +kernel) (by decide +kernel)
theorem nl_X7_114 : (RX7, 114, yX8_nodeItem, "BorderProofs") ∈ nwL := List.mem_of_getElem? (i := 12) rfl
theorem ml_X7_117 : Cond.methodLink RX7 117 yX1_add ∈ bigG := inG 470 (by decide +kernel) (by decide +kernel)
theorem ml_X1_23 : Cond.methodLink RX1 23 yX1_isFull ∈ bigG := inG 474 (by decide +kernel) (by decide +kernel)
theorem ml_X7_120 : Cond.methodLink RX7 120 yX3_push ∈ bigG := inG 478 (by decide +kernel) (by decide +kernel)
theorem ml_X7_98 : Cond.methodLink RX7 98 yX7_digestOf ∈ bigG := inG 482 (by decide +kernel) (by decide +kernel)
theorem ml_X7_124 : Cond.methodLink RX7 124 yX3_pop ∈ bigG := inG 483 (by decide +kernel) (by decide +kernel)
theorem ml_X7_128 : Cond.methodLink RX7 128 yX3_key ∈ bigG := inG 487 (by decide +kernel) (by decide +kernel)
theorem ml_X7_132 : Cond.methodLink RX7 132 yX3_hi ∈ bigG := inG 491 (by decide +kernel) (by decide +kernel)
theorem ml_X8_161 : Cond.methodLink RX8 161 yX1_countDigests ∈ bigG := inG 495 (by decide +kernel) (by decide +kernel)
theorem ml_X1_27 : Cond.methodLink RX1 27 yX1_itemAt ∈ bigG := inG 499 (by decide +kernel) (by decide +kernel)
theorem ml_X1_19 : Cond.methodLink RX1 19 yX1_hasPlace ∈ bigG := inG 503 (by decide +kernel) (by decide +kernel)
theorem ml_X8_164 : Cond.methodLink RX8 164 yX1_countNodes ∈ bigG := inG 507 (by decide +kernel) (by decide +kernel)
theorem ml_L_56 : Cond.methodLink RL 56 yX8_item ∈ bigG := inG 511 (by decide +kernel) (by decide +kernel)
theorem ml_X8_167 : Cond.methodLink RX8 167 yX1_hasPlace ∈ bigG := inG 515 (by decide +kernel) (by decide +kernel)
theorem ml_X8_170 : Cond.methodLink RX8 170 yX1_itemAt ∈ bigG := inG 516 (by decide +kernel) (by decide +kernel)
theorem ml_L_60 : Cond.methodLink RL 60 yX8_lengths ∈ bigG := inG 517 (by decide +kernel) (by decide +kernel)
theorem ml_X8_173 : Cond.methodLink RX8 173 yX7_proofLengthOf ∈ bigG := inG 521 (by decide +kernel) (by decide +kernel)
theorem ml_L_64 : Cond.methodLink RL 64 yX8_send ∈ bigG := inG 525 (by decide +kernel) (by decide +kernel)
theorem ml_L_68 : Cond.methodLink RL 68 yX8_tell ∈ bigG := inG 529 (by decide +kernel) (by decide +kernel)
theorem ml_X8_176 : Cond.methodLink RX8 176 yX8_isItem ∈ bigG := inG 533 (by decide +kernel) (by decide +kernel)
theorem ml_X8_275 : Cond.methodLink RX8 275 yX8_isNodeItem ∈ bigG := inG 536 (by decide +kernel) (by decide +kernel)
theorem ml_X8_179 : Cond.methodLink RX8 179 yX1_isFull ∈ bigG := inG 539 (by decide +kernel) (by decide +kernel)
theorem ml_X8_183 : Cond.methodLink RX8 183 yX1_add ∈ bigG := inG 540 (by decide +kernel) (by decide +kernel)
theorem ml_L_72 : Cond.methodLink RL 72 yX8_alter ∈ bigG := inG 541 (by decide +kernel) (by decide +kernel)
theorem ml_X8_186 : Cond.methodLink RX8 186 yX1_replace ∈ bigG := inG 545 (by decide +kernel) (by decide +kernel)
theorem ml_L_76 : Cond.methodLink RL 76 yX8_cut ∈ bigG := inG 549 (by decide +kernel) (by decide +kernel)
theorem ml_X8_189 : Cond.methodLink RX8 189 yX1_shorten ∈ bigG := inG 553 (by decide +kernel) (by decide +kernel)
theorem ml_L_80 : Cond.methodLink RL 80 yX8_trust ∈ bigG := inG 554 (by decide +kernel) (by decide +kernel)
theorem ml_X8_192 : Cond.methodLink RX8 192 yX5_nowTrust ∈ bigG := inG 558 (by decide +kernel) (by decide +kernel)
theorem ml_X5_50 : Cond.methodLink RX5 50 yJ9_min_7cf53 ∈ bigG := inG 562 (by decide +kernel) (by decide +kernel)
theorem ml_L_84 : Cond.methodLink RL 84 yX8_believe ∈ bigG := inG 565 (by decide +kernel) (by decide +kernel)
theorem ml_L_88 : Cond.methodLink RL 88 yX8_read ∈ bigG := inG 569 (by decide +kernel) (by decide +kernel)
theorem ml_X8_195 : Cond.methodLink RX8 195 yX5_reasonBy ∈ bigG := inG 573 (by decide +kernel) (by decide +kernel)
theorem ml_X5_60 : Cond.methodLink RX5 60 yX5_takeIn ∈ bigG := inG 577 (by decide +kernel) (by decide +kernel)
theorem ml_X5_75 : Cond.methodLink RX5 75 yX2_clear ∈ bigG := inG 581 (by decide +kernel) (by decide +kernel)
theorem ml_X5_78 : Cond.methodLink RX5 78 yX7_hideNothing ∈ bigG := inG 585 (by decide +kernel) (by decide +kernel)
theorem ml_X5_81 : Cond.methodLink RX5 81 yX3_clear ∈ bigG := inG 589 (by decide +kernel) (by decide +kernel)
theorem ml_X5_82 : Cond.methodLink RX5 82 yX1_count ∈ bigG := inG 590 (by decide +kernel) (by decide +kernel)
theorem ml_X5_85 : Cond.methodLink RX5 85 yX1_itemAt ∈ bigG := inG 591 (by decide +kernel) (by decide +kernel)
theorem nl_X5_88 : (RX5, 88, yX8_keyOfItem, "BorderProofs") ∈ nwL := List.mem_of_getElem? (i := 13) rfl
theorem ml_X5_91 : Cond.methodLink RX5 91 yX5_reasonOfNode ∈ bigG := inG 595 (by decide +kernel) (by decide +kernel)
theorem nl_X5_122 : (RX5, 122, yX8_isNumber, "BorderProofs") ∈ nwL := List.mem_of_getElem? (i := 14) rfl
theorem nl_X5_125 : (RX5, 125, yX8_isAbove, "BorderProofs") ∈ nwL := List.mem_of_getElem? (i := 15) rfl
theorem ml_X5_95 : Cond.methodLink RX5 95 yX5_reasonOfLeaf ∈ bigG := inG 600 (by decide +kernel) (by decide +kernel)
theorem nl_X5_99 : (RX5, 99, yX8_valueOfItem, "BorderProofs") ∈ nwL := List.mem_of_getElem? (i := 16) rfl
theorem ml_X5_102 : Cond.methodLink RX5 102 yX2_give ∈ bigG := inG 606 (by decide +kernel) (by decide +kernel)
theorem ml_X5_106 : Cond.methodLink RX5 106 yX3_push ∈ bigG := inG 607 (by decide +kernel) (by decide +kernel)
theorem ml_X5_109 : Cond.methodLink RX5 109 yX7_hide ∈ bigG := inG 608 (by decide +kernel) (by decide +kernel)
theorem ml_X5_112 : Cond.methodLink RX5 112 yX3_pop ∈ bigG := inG 612 (by decide +kernel) (by decide +kernel)
theorem ml_X5_116 : Cond.methodLink RX5 116 yX3_key ∈ bigG := inG 613 (by decide +kernel) (by decide +kernel)
theorem ml_X5_119 : Cond.methodLink RX5 119 yX3_hi ∈ bigG := inG 614 (by decide +kernel) (by decide +kernel)
theorem ml_X5_63 : Cond.methodLink RX5 63 yX7_grow ∈ bigG := inG 615 (by decide +kernel) (by decide +kernel)
theorem ml_X5_67 : Cond.methodLink RX5 67 yX7_rootDigest ∈ bigG := inG 616 (by decide +kernel) (by decide +kernel)
theorem ml_X5_71 : Cond.methodLink RX5 71 yX5_isFormer ∈ bigG := inG 617 (by decide +kernel) (by decide +kernel)
theorem ml_X5_56 : Cond.methodLink RX5 56 yX5_formerAt ∈ bigG := inG 621 (by decide +kernel) (by decide +kernel)
theorem ml_L_92 : Cond.methodLink RL 92 yX8_learnt ∈ bigG := inG 625 (by decide +kernel) (by decide +kernel)
theorem ml_X8_198 : Cond.methodLink RX8 198 yX5_shown ∈ bigG := inG 629 (by decide +kernel) (by decide +kernel)
theorem ml_X8_202 : Cond.methodLink RX8 202 yX2_greatestBelow ∈ bigG := inG 633 (by decide +kernel) (by decide +kernel)
theorem ml_X8_205 : Cond.methodLink RX8 205 yX2_leastAbove ∈ bigG := inG 637 (by decide +kernel) (by decide +kernel)
theorem ml_L_96 : Cond.methodLink RL 96 yX8_found ∈ bigG := inG 641 (by decide +kernel) (by decide +kernel)
theorem ml_X8_208 : Cond.methodLink RX8 208 yX2_keyOfPlace ∈ bigG := inG 645 (by decide +kernel) (by decide +kernel)
theorem ml_L_100 : Cond.methodLink RL 100 yX8_step ∈ bigG := inG 649 (by decide +kernel) (by decide +kernel)
theorem ml_X8_212 : Cond.methodLink RX8 212 yX8_isStep ∈ bigG := inG 653 (by decide +kernel) (by decide +kernel)
theorem ml_X8_215 : Cond.methodLink RX8 215 yX5_digestAfter ∈ bigG := inG 656 (by decide +kernel) (by decide +kernel)
theorem ml_X5_129 : Cond.methodLink RX5 129 yJ9_max_7cf53 ∈ bigG := inG 660 (by decide +kernel) (by decide +kernel)
theorem ml_X5_132 : Cond.methodLink RX5 132 yX5_reasonBy ∈ bigG := inG 661 (by decide +kernel) (by decide +kernel)
theorem ml_X5_135 : Cond.methodLink RX5 135 yX2_has ∈ bigG := inG 662 (by decide +kernel) (by decide +kernel)
theorem ml_X5_138 : Cond.methodLink RX5 138 yX2_drop ∈ bigG := inG 663 (by decide +kernel) (by decide +kernel)
theorem ml_L_104 : Cond.methodLink RL 104 yX8_follow ∈ bigG := inG 664 (by decide +kernel) (by decide +kernel)
theorem ml_L_108 : Cond.methodLink RL 108 yX8_former ∈ bigG := inG 668 (by decide +kernel) (by decide +kernel)
theorem ml_X8_218 : Cond.methodLink RX8 218 yX5_formerAt ∈ bigG := inG 672 (by decide +kernel) (by decide +kernel)
theorem ml_L_112 : Cond.methodLink RL 112 yX8_judge ∈ bigG := inG 673 (by decide +kernel) (by decide +kernel)
theorem ml_X8_221 : Cond.methodLink RX8 221 yX8_withoutLast ∈ bigG := inG 677 (by decide +kernel) (by decide +kernel)
theorem ml_X8_225 : Cond.methodLink RX8 225 yX2_become ∈ bigG := inG 681 (by decide +kernel) (by decide +kernel)
theorem ml_X8_230 : Cond.methodLink RX8 230 yX8_canBe ∈ bigG := inG 682 (by decide +kernel) (by decide +kernel)
theorem ml_X8_261 : Cond.methodLink RX8 261 yX8_tryPut ∈ bigG := inG 686 (by decide +kernel) (by decide +kernel)
theorem ml_X8_264 : Cond.methodLink RX8 264 yX8_tryRemove ∈ bigG := inG 690 (by decide +kernel) (by decide +kernel)
theorem ml_X8_267 : Cond.methodLink RX8 267 yX8_trialTree ∈ bigG := inG 694 (by decide +kernel) (by decide +kernel)
theorem ml_L_116 : Cond.methodLink RL 116 yX8_keep ∈ bigG := inG 698 (by decide +kernel) (by decide +kernel)
theorem ml_X8_233 : Cond.methodLink RX8 233 yX8_isSlot ∈ bigG := inG 702 (by decide +kernel) (by decide +kernel)
theorem ml_X8_236 : Cond.methodLink RX8 236 yX6_fill ∈ bigG := inG 705 (by decide +kernel) (by decide +kernel)
theorem ml_X6_20 : Cond.methodLink RX6 20 yX2_become ∈ bigG := inG 709 (by decide +kernel) (by decide +kernel)
theorem ml_L_120 : Cond.methodLink RL 120 yX8_again ∈ bigG := inG 710 (by decide +kernel) (by decide +kernel)
theorem ml_X8_239 : Cond.methodLink RX8 239 yX6_isFilled ∈ bigG := inG 714 (by decide +kernel) (by decide +kernel)
theorem ml_X8_242 : Cond.methodLink RX8 242 yX6_pairs ∈ bigG := inG 718 (by decide +kernel) (by decide +kernel)
theorem ml_X8_245 : Cond.methodLink RX8 245 yX0_forgetAll ∈ bigG := inG 722 (by decide +kernel) (by decide +kernel)
theorem ml_L_124 : Cond.methodLink RL 124 yX8_differ ∈ bigG := inG 726 (by decide +kernel) (by decide +kernel)
theorem ml_X8_248 : Cond.methodLink RX8 248 yX8_countOtherwise ∈ bigG := inG 730 (by decide +kernel) (by decide +kernel)
theorem ml_X8_252 : Cond.methodLink RX8 252 yX8_leastOtherwise ∈ bigG := inG 734 (by decide +kernel) (by decide +kernel)
theorem ml_X8_255 : Cond.methodLink RX8 255 yX8_countPassedOver ∈ bigG := inG 738 (by decide +kernel) (by decide +kernel)
theorem ml_X8_271 : Cond.methodLink RX8 271 yX7_isFirstLike ∈ bigG := inG 742 (by decide +kernel) (by decide +kernel)
theorem ml_X7_101 : Cond.methodLink RX7 101 yX7_isLike ∈ bigG := inG 746 (by decide +kernel) (by decide +kernel)
theorem ml_X8_258 : Cond.methodLink RX8 258 yX8_countNodesPassedOver ∈ bigG := inG 750 (by decide +kernel) (by decide +kernel)
theorem ml_L_12 : Cond.methodLink RL 12 yX9_init ∈ bigG := inG 756 (by decide +kernel) (by decide +kernel)
theorem ob_X9_1 : Cond.methodLink RX9 1 Lib.objectInit ∈ bigG := inG 759 (by decide +kernel) (by decide +kernel)
theorem ml_L_17 : Cond.methodLink RL 17 yX9_put ∈ bigG := inG 900 (by decide +kernel) (by decide +kernel)
theorem ml_X9_125 : Cond.methodLink RX9 125 yX9_isNumber ∈ bigG := inG 904 (by decide +kernel) (by decide +kernel)
theorem ml_X9_121 : Cond.methodLink RX9 121 yX9_in ∈ bigG := inG 908 (by decide +kernel) (by decide +kernel)
theorem ml_X9_179 : Cond.methodLink RX9 179 yX9_mayPut ∈ bigG := inG 911 (by decide +kernel) (by decide +kernel)
theorem ml_X9_175 : Cond.methodLink RX9 175 yX9_manyOf ∈ bigG := inG 914 (by decide +kernel) (by decide +kernel)
theorem ml_X9_183 : Cond.methodLink RX9 183 yX9_note ∈ bigG := inG 917 (by decide +kernel) (by decide +kernel)
theorem ml_L_22 : Cond.methodLink RL 22 yX9_remove ∈ bigG := inG 921 (by decide +kernel) (by decide +kernel)
theorem ml_L_26 : Cond.methodLink RL 26 yX9_get ∈ bigG := inG 925 (by decide +kernel) (by decide +kernel)
theorem ml_L_33 : Cond.methodLink RL 33 yX9_scatter ∈ bigG := inG 929 (by decide +kernel) (by decide +kernel)
theorem ml_L_38 : Cond.methodLink RL 38 yX9_undo ∈ bigG := inG 936 (by decide +kernel) (by decide +kernel)
theorem ml_L_42 : Cond.methodLink RL 42 yX9_about ∈ bigG := inG 940 (by decide +kernel) (by decide +kernel)
theorem ml_X9_192 : Cond.methodLink RX9 192 yX9_rootOf ∈ bigG := inG 944 (by decide +kernel) (by decide +kernel)
theorem ml_X9_165 : Cond.methodLink RX9 165 yX9_make ∈ bigG := inG 948 (by decide +kernel) (by decide +kernel)
theorem ml_X9_153 : Cond.methodLink RX9 153 yX9_want ∈ bigG := inG 952 (by decide +kernel) (by decide +kernel)
theorem ml_X9_157 : Cond.methodLink RX9 157 yX9_uppermost ∈ bigG := inG 956 (by decide +kernel) (by decide +kernel)
theorem ml_X9_149 : Cond.methodLink RX9 149 yX9_isAbove ∈ bigG := inG 959 (by decide +kernel) (by decide +kernel)
theorem ml_X9_135 : Cond.methodLink RX9 135 yX9_rankOf ∈ bigG := inG 962 (by decide +kernel) (by decide +kernel)
theorem ml_X9_161 : Cond.methodLink RX9 161 yX9_digestOf ∈ bigG := inG 968 (by decide +kernel) (by decide +kernel)
theorem ml_X9_195 : Cond.methodLink RX9 195 yX9_height ∈ bigG := inG 974 (by decide +kernel) (by decide +kernel)
theorem ml_X9_199 : Cond.methodLink RX9 199 yX9_values ∈ bigG := inG 978 (by decide +kernel) (by decide +kernel)
theorem ml_L_46 : Cond.methodLink RL 46 yX9_node ∈ bigG := inG 982 (by decide +kernel) (by decide +kernel)
theorem ml_L_50 : Cond.methodLink RL 50 yX9_rank ∈ bigG := inG 986 (by decide +kernel) (by decide +kernel)
theorem ml_L_55 : Cond.methodLink RL 55 yX9_proof ∈ bigG := inG 990 (by decide +kernel) (by decide +kernel)
theorem ml_X9_218 : Cond.methodLink RX9 218 yX9_isRange ∈ bigG := inG 994 (by decide +kernel) (by decide +kernel)
theorem ml_X9_223 : Cond.methodLink RX9 223 yX9_prove ∈ bigG := inG 998 (by decide +kernel) (by decide +kernel)
theorem ml_X9_214 : Cond.methodLink RX9 214 yX9_itemOf ∈ bigG := inG 1002 (by decide +kernel) (by decide +kernel)
theorem ml_L_59 : Cond.methodLink RL 59 yX9_item ∈ bigG := inG 1005 (by decide +kernel) (by decide +kernel)
theorem ml_L_63 : Cond.methodLink RL 63 yX9_lengths ∈ bigG := inG 1009 (by decide +kernel) (by decide +kernel)
theorem ml_L_67 : Cond.methodLink RL 67 yX9_send ∈ bigG := inG 1013 (by decide +kernel) (by decide +kernel)
theorem ml_L_71 : Cond.methodLink RL 71 yX9_tell ∈ bigG := inG 1017 (by decide +kernel) (by decide +kernel)
theorem ml_X9_231 : Cond.methodLink RX9 231 yX9_isItem ∈ bigG := inG 1021 (by decide +kernel) (by decide +kernel)
theorem ml_L_75 : Cond.methodLink RL 75 yX9_alter ∈ bigG := inG 1026 (by decide +kernel) (by decide +kernel)
theorem ml_L_79 : Cond.methodLink RL 79 yX9_cut ∈ bigG := inG 1030 (by decide +kernel) (by decide +kernel)
theorem ml_L_83 : Cond.methodLink RL 83 yX9_trust ∈ bigG := inG 1034 (by decide +kernel) (by decide +kernel)
theorem ml_X9_234 : Cond.methodLink RX9 234 yX9_takeTrust ∈ bigG := inG 1038 (by decide +kernel) (by decide +kernel)
theorem ml_L_87 : Cond.methodLink RL 87 yX9_believe ∈ bigG := inG 1042 (by decide +kernel) (by decide +kernel)
theorem ml_L_111 : Cond.methodLink RL 111 yX9_former ∈ bigG := inG 1046 (by decide +kernel) (by decide +kernel)
theorem ml_L_91 : Cond.methodLink RL 91 yX9_read ∈ bigG := inG 1050 (by decide +kernel) (by decide +kernel)
theorem ml_X9_252 : Cond.methodLink RX9 252 yX9_reasonOf ∈ bigG := inG 1054 (by decide +kernel) (by decide +kernel)
theorem ml_X9_246 : Cond.methodLink RX9 246 yX9_takeItem ∈ bigG := inG 1058 (by decide +kernel) (by decide +kernel)
theorem ml_X9_240 : Cond.methodLink RX9 240 yX9_hang ∈ bigG := inG 1062 (by decide +kernel) (by decide +kernel)
theorem ml_X9_249 : Cond.methodLink RX9 249 yX9_shownDigest ∈ bigG := inG 1066 (by decide +kernel) (by decide +kernel)
theorem ml_L_95 : Cond.methodLink RL 95 yX9_learnt ∈ bigG := inG 1070 (by decide +kernel) (by decide +kernel)
theorem ml_L_99 : Cond.methodLink RL 99 yX9_found ∈ bigG := inG 1075 (by decide +kernel) (by decide +kernel)
theorem ml_X9_257 : Cond.methodLink RX9 257 yX9_layRow ∈ bigG := inG 1079 (by decide +kernel) (by decide +kernel)
theorem ml_X9_263 : Cond.methodLink RX9 263 yX9_placeOf ∈ bigG := inG 1083 (by decide +kernel) (by decide +kernel)
theorem ml_L_103 : Cond.methodLink RL 103 yX9_step ∈ bigG := inG 1087 (by decide +kernel) (by decide +kernel)
theorem ml_X9_283 : Cond.methodLink RX9 283 yX9_followed ∈ bigG := inG 1091 (by decide +kernel) (by decide +kernel)
theorem ml_X9_272 : Cond.methodLink RX9 272 yX9_takeOut ∈ bigG := inG 1095 (by decide +kernel) (by decide +kernel)
theorem ml_X9_276 : Cond.methodLink RX9 276 yX9_putIn ∈ bigG := inG 1099 (by decide +kernel) (by decide +kernel)
theorem ml_X9_280 : Cond.methodLink RX9 280 yX9_rowDigest ∈ bigG := inG 1103 (by decide +kernel) (by decide +kernel)
theorem ml_X9_266 : Cond.methodLink RX9 266 yX9_uppermostOf ∈ bigG := inG 1107 (by decide +kernel) (by decide +kernel)
theorem ml_X9_269 : Cond.methodLink RX9 269 yX9_hanging ∈ bigG := inG 1111 (by decide +kernel) (by decide +kernel)
theorem ml_L_107 : Cond.methodLink RL 107 yX9_follow ∈ bigG := inG 1115 (by decide +kernel) (by decide +kernel)
theorem ml_L_115 : Cond.methodLink RL 115 yX9_judge ∈ bigG := inG 1119 (by decide +kernel) (by decide +kernel)
theorem ml_X9_288 : Cond.methodLink RX9 288 yX9_hundredThousands ∈ bigG := inG 1123 (by decide +kernel) (by decide +kernel)
theorem ml_X9_292 : Cond.methodLink RX9 292 yX9_judged ∈ bigG := inG 1127 (by decide +kernel) (by decide +kernel)
theorem ml_L_119 : Cond.methodLink RL 119 yX9_keep ∈ bigG := inG 1131 (by decide +kernel) (by decide +kernel)
theorem ml_L_123 : Cond.methodLink RL 123 yX9_again ∈ bigG := inG 1135 (by decide +kernel) (by decide +kernel)
theorem ml_L_127 : Cond.methodLink RL 127 yX9_differ ∈ bigG := inG 1139 (by decide +kernel) (by decide +kernel)
theorem ml_X9_299 : Cond.methodLink RX9 299 yX9_isPassed ∈ bigG := inG 1143 (by decide +kernel) (by decide +kernel)
theorem ml_X9_296 : Cond.methodLink RX9 296 yX9_isSame ∈ bigG := inG 1147 (by decide +kernel) (by decide +kernel)
end
section
abbrev rm_J7_fill_53178 : Room := { frames := 0, cells := 0, slots := 0, locals := 0 }
set_option maxRecDepth 100000 in
def f_J7_fill_53178_5 : Nat → Nat → Int32 → Int32 → Int32 → Mm → Option (Unit × Mm)
  | 0, _, _, _, _, _ => none
  | n + 1, v0, v1, v2, v3, σ =>
    if v3 ≤ v2 then (some ((), σ)) else (zck (kA σ 1 v0 v2) (zlt (sD σ v0 (ix v2) v1) (fun σ3 => f_J7_fill_53178_5 n v0 v1 (v2 + (1 : Int32)) v3 σ3)))
set_option maxRecDepth 100000 in
set_option maxHeartbeats 4000000 in
theorem V_J7_fill_53178_5 {g : GG} : ∀ (n : Nat) (v0 : Nat) (v1 : Int32) (v2 : Int32) (v3 : Int32) (σ : Mm) (r : Unit) (σ' : Mm), f_J7_fill_53178_5 n v0 v1 v2 v3 σ = some (r, σ') → VJ g RJ7 cJ7_fill_53178 4 none false rm_J7_fill_53178 none σ' (0) (0) 5 [(0, .ref (gB g + v0)), (1, .int v1), (2, .int v2), (3, .int v3)] [] σ := by
  intro n
  induction n with
  | zero =>
    intro v0 v1 v2 v3 σ r σ' hf
    unfold f_J7_fill_53178_5 at hf
    cases hf
  | succ n ih =>
    intro v0 v1 v2 v3 σ r σ' hf p e s m args below meth c H locs cells slots ls E hR hS hl hc hs
    obtain ⟨hx, hb, hml, hr, hlocks, hown, hts, hin, hT⟩ := id E
    unfold f_J7_fill_53178_5 at hf
    refine lv_iload_n hx hb dJ7_fill_53178_5 rfl (lv_at hl 2 rfl) ?_
    refine lv_iload_n hx hb dJ7_fill_53178_6 rfl (lv_at hl 3 rfl) ?_
    refine lv_icmp_ge (tgt := 20) hx hb dJ7_fill_53178_7 (by decide) (fun hq1 => ?_) (fun hq1 => ?_)
    · have hf := ite_p hq1 hf
      obtain ⟨hr1, hs1⟩ := Prod.mk.inj (Option.some.inj hf)
      exact xr_v E hR hS rfl rfl hs1.symm hc hs dJ7_fill_53178_20
    · have hf := ite_n hq1 hf
      refine lv_aload_n hx hb dJ7_fill_53178_10 rfl (lv_at hl 0 rfl) ?_
      refine lv_iload_n hx hb dJ7_fill_53178_11 rfl (lv_at hl 2 rfl) ?_
      refine lv_iload_n hx hb dJ7_fill_53178_12 rfl (lv_at hl 1 rfl) ?_
      obtain ⟨hk2, hf⟩ := zc_s hf
      obtain ⟨σ3, eσ3, hf⟩ := zl_s hf
      refine x_ist E hR hS hk2 dJ7_fill_53178_13 (fun H locs hR hS => ?_)
      rw [← eσ3] at hR
      refine lv_iinc (v := (v2 + (1 : Int32))) (lv' := [(2, .int (v2 + (1 : Int32))), (0, .ref (gB g + v0)), (1, .int v1), (3, .int v3)]) hx hb dJ7_fill_53178_14 hl (k := 2) rfl rfl (Nat.le_of_ble_eq_true rfl) rfl (fun ls hl => ?_)
      refine lv_goto (tgt := 5) hx hb dJ7_fill_53178_17 (by decide) ?_
      exact ih _ _ _ _ _ _ _ hf p e s m args below meth c _ _ _ _ _ E hR hS (lv_sub hl [1, 2, 0, 3] rfl) hc hs
set_option maxRecDepth 100000 in
def f_J7_fill_53178 (v0 : Nat) (v1 : Int32) (σ : Mm) : Option (Unit × Mm) :=
  zck (kL σ v0) (f_J7_fill_53178_5 1000 v0 v1 (0 : Int32) (Int32.ofNat (mK σ v0).2) σ)
set_option maxRecDepth 100000 in
set_option maxHeartbeats 4000000 in
theorem V_J7_fill_53178_0 {g : GG} (v0 : Nat) (v1 : Int32) (σ : Mm) (r : Unit) (σ' : Mm) (hf : f_J7_fill_53178 v0 v1 σ = some (r, σ')) : VJ g RJ7 cJ7_fill_53178 4 none false rm_J7_fill_53178 none σ' (0) (0) 0 [(0, .ref (gB g + v0)), (1, .int v1)] [] σ := by
  intro p e s m args below meth c H locs cells slots ls E hR hS hl hc hs
  obtain ⟨hx, hb, hml, hr, hlocks, hown, hts, hin, hT⟩ := id E
  unfold f_J7_fill_53178 at hf
  refine lv_iconst (v := (0 : Int32)) hx hb dJ7_fill_53178_0 rfl ?_
  refine lv_istore_n (lv' := [(2, .int (0 : Int32)), (0, .ref (gB g + v0)), (1, .int v1)]) hx hb dJ7_fill_53178_1 rfl hl (Nat.le_of_ble_eq_true rfl) rfl (fun ls hl => ?_)
  refine lv_aload_n hx hb dJ7_fill_53178_2 rfl (lv_at hl 1 rfl) ?_
  obtain ⟨hk4, hf⟩ := zc_s hf
  refine x_alen E hR hk4 dJ7_fill_53178_3 ?_
  refine lv_istore_n (lv' := [(3, .int (Int32.ofNat (mK σ v0).2)), (2, .int (0 : Int32)), (0, .ref (gB g + v0)), (1, .int v1)]) hx hb dJ7_fill_53178_4 rfl hl (Nat.le_of_ble_eq_true rfl) rfl (fun ls hl => ?_)
  exact V_J7_fill_53178_5  1000 _ _ _ _ _ _ _ hf p e s m args below meth c _ _ _ _ _ E hR hS (lv_sub hl [2, 3, 1, 0] rfl) hc hs
theorem C_J7_fill_53178 {g : GG} {v0 : Nat} {v1 : Int32} {σ : Mm} {r : Unit} {σ' : Mm} (hf : f_J7_fill_53178 v0 v1 σ = some (r, σ')) : Ct g yJ7_fill_53178 cJ7_fill_53178 4 none rm_J7_fill_53178 [.ref (gB g + v0), .int v1] σ none σ' :=
  Ct.of false (by decide) (fun h => by cases h) (Nat.le_of_ble_eq_true rfl) (V_J7_fill_53178_0 _ _ _ _ _ hf)
abbrev rm_X2_init : Room := { frames := 1, cells := 1, slots := 100, locals := 23 }
set_option maxRecDepth 100000 in
def f_X2_init (v0 : Nat) (σ : Mm) : Option (Unit × Mm) :=
  zlt (nw σ (1, 100)) (fun σ1 => zck (kO σ1 v0 2) (zlt (sR σ1 v0 0 (mN σ)) (fun σ3 => zrb (mR σ3 v0 0) (fun b4 => zcb (f_J7_fill_53178 b4 (-9 : Int32) σ3) (fun r5 σ6 => some ((), σ6))))))
set_option maxRecDepth 100000 in
set_option maxHeartbeats 4000000 in
theorem V_X2_init_0 {g : GG} (v0 : Nat) (σ : Mm) (r : Unit) (σ' : Mm) (hf : f_X2_init v0 σ = some (r, σ')) (kc ks : Nat) (hqe : 1 ≤ kc ∧ 100 ≤ ks) : VJ g RX2 cX2_init 1 none true rm_X2_init none σ' (kc) (ks) 0 [(0, .ref (gB g + v0))] [] σ := by
  intro p e s m args below meth c H locs cells slots ls E hR hS hl hc hs
  have hc : cells + kc ≤ 1 := hc
  have hs : slots + ks ≤ 100 := hs
  obtain ⟨hx, hb, hml, hr, hlocks, hown, hts, hin, hT⟩ := id E
  unfold f_X2_init at hf
  refine lv_aload_n hx hb dX2_init_0 rfl (lv_at hl 0 rfl) ?_
  refine x_obj (rest := []) E hl ob_X2_3 obI obC (Nat.le_of_ble_eq_true rfl) (Nat.le_of_ble_eq_true rfl) dX2_init_1 ?_
  refine lv_aload_n hx hb dX2_init_4 rfl (lv_at hl 0 rfl) ?_
  refine lv_bipush (v := (100 : Int32)) hx hb dX2_init_5 rfl ?_
  obtain ⟨σ1, eσ1, hf⟩ := zl_s hf
  refine x_newI (L := 100) E hR hS caI (by decide) (by decide) (Nat.le_of_ble_eq_true rfl) (show cells + 1 ≤ 1 by omega) (show slots + 100 ≤ 100 by omega) dX2_init_7 (fun H hR hS => ?_)
  rw [← eσ1] at hR
  obtain ⟨hk2, hf⟩ := zc_s hf
  obtain ⟨σ3, eσ3, hf⟩ := zl_s hf
  refine x_putR E hR hS hk2 ok2 0 (Nat.le_of_ble_eq_true rfl) rfl fl_X2_9 (Or.inr ⟨rfl, rfl, rfl⟩) (fun _ => rfl) (fun _ => rfl) dX2_init_9 (fun H locs hR hS => ?_)
  rw [← eσ3] at hR
  refine lv_aload_n hx hb dX2_init_12 rfl (lv_at hl 0 rfl) ?_
  obtain ⟨b4, hb4, hf⟩ := zr_s hf
  refine x_getR E hR (by rw [eσ3]; exact hk2) hb4 ok2 (Nat.le_of_ble_eq_true rfl) rfl fl_X2_9 dX2_init_13 ?_
  refine lv_bipush (v := (-9 : Int32)) hx hb dX2_init_16 rfl ?_
  obtain ⟨r5, σ6, hcr5, hf⟩ := zq_s hf
  refine xS (As := [.ref (gB g + b4), .int (-9 : Int32)]) (rest := []) (st1 := []) E hR hS hl (C_J7_fill_53178 hcr5) lb_J7_fill_53178 ls_J7_fill_53178 ml_X2_15 ⟨Nat.le_of_ble_eq_true rfl, Nat.le_of_ble_eq_true rfl⟩ rfl rfl rfl (Nat.le_of_ble_eq_true rfl) dX2_init_18 ⟨show cells + 1 + 0 ≤ 1 by omega, show slots + 100 + 0 ≤ 100 by omega⟩ (fun H locs hR hS => ?_)
  obtain ⟨hr1, hs1⟩ := Prod.mk.inj (Option.some.inj hf)
  exact xr_v E hR hS rfl rfl hs1.symm (show cells + 1 + 0 ≤ 1 by omega) (show slots + 100 + 0 ≤ 100 by omega) dX2_init_21
theorem C_X2_init {g : GG} {v0 : Nat} {σ : Mm} {r : Unit} {σ' : Mm} (hf : f_X2_init v0 σ = some (r, σ')) : Ct g yX2_init cX2_init 1 none rm_X2_init [.ref (gB g + v0)] σ none σ' :=
  Ct.of true (by decide) (fun _ => rfl) (Nat.le_of_ble_eq_true rfl) (V_X2_init_0 _ _ _ _ hf 1 100 ⟨Nat.le_of_ble_eq_true rfl, Nat.le_of_ble_eq_true rfl⟩)
abbrev rm_X8_isNumber : Room := { frames := 0, cells := 0, slots := 0, locals := 0 }
set_option maxRecDepth 100000 in
def f_X8_isNumber (v0 : Int32) (σ : Mm) : Option (Int32 × Mm) :=
  if v0 < 0 then (some ((0 : Int32), σ)) else (if (100 : Int32) ≤ v0 then (some ((0 : Int32), σ)) else (some ((1 : Int32), σ)))
set_option maxRecDepth 100000 in
set_option maxHeartbeats 4000000 in
theorem V_X8_isNumber_0 {g : GG} (v0 : Int32) (σ : Mm) (r : Int32) (σ' : Mm) (hf : f_X8_isNumber v0 σ = some (r, σ')) : VJ g RX8 cX8_isNumber 1 (some .boolean) false rm_X8_isNumber (some (.int r)) σ' (0) (0) 0 [(0, .int v0)] [] σ := by
  intro p e s m args below meth c H locs cells slots ls E hR hS hl hc hs
  obtain ⟨hx, hb, hml, hr, hlocks, hown, hts, hin, hT⟩ := id E
  unfold f_X8_isNumber at hf
  refine lv_iload_n hx hb dX8_isNumber_0 rfl (lv_at hl 0 rfl) ?_
  refine lv_if_lt (tgt := 14) hx hb dX8_isNumber_1 (by decide) (fun hq1 => ?_) (fun hq1 => ?_)
  · have hf := ite_p hq1 hf
    refine lv_iconst (v := (0 : Int32)) hx hb dX8_isNumber_14 rfl ?_
    obtain ⟨hr1, hs1⟩ := Prod.mk.inj (Option.some.inj hf)
    exact xr_z E hR hS rfl rfl (by rw [hr1]) hs1.symm hc hs dX8_isNumber_15
  · have hf := ite_n hq1 hf
    refine lv_iload_n hx hb dX8_isNumber_4 rfl (lv_at hl 0 rfl) ?_
    refine lv_bipush (v := (100 : Int32)) hx hb dX8_isNumber_5 rfl ?_
    refine lv_icmp_ge (tgt := 14) hx hb dX8_isNumber_7 (by decide) (fun hq2 => ?_) (fun hq2 => ?_)
    · have hf := ite_p hq2 hf
      refine lv_iconst (v := (0 : Int32)) hx hb dX8_isNumber_14 rfl ?_
      obtain ⟨hr1, hs1⟩ := Prod.mk.inj (Option.some.inj hf)
      exact xr_z E hR hS rfl rfl (by rw [hr1]) hs1.symm hc hs dX8_isNumber_15
    · have hf := ite_n hq2 hf
      refine lv_iconst (v := (1 : Int32)) hx hb dX8_isNumber_10 rfl ?_
      refine lv_goto (tgt := 15) hx hb dX8_isNumber_11 (by decide) ?_
      obtain ⟨hr1, hs1⟩ := Prod.mk.inj (Option.some.inj hf)
      exact xr_z E hR hS rfl rfl (by rw [hr1]) hs1.symm hc hs dX8_isNumber_15
theorem C_X8_isNumber {g : GG} {v0 : Int32} {σ : Mm} {r : Int32} {σ' : Mm} (hf : f_X8_isNumber v0 σ = some (r, σ')) : Ct g yX8_isNumber cX8_isNumber 1 (some .boolean) rm_X8_isNumber [.int v0] σ (some (.int r)) σ' :=
  Ct.of false (by decide) (fun h => by cases h) (Nat.le_of_ble_eq_true rfl) (V_X8_isNumber_0 _ _ _ _ hf)
abbrev rm_X2_valueOf : Room := { frames := 1, cells := 0, slots := 0, locals := 20 }
set_option maxRecDepth 100000 in
def f_X2_valueOf (v0 : Nat) (v1 : Int32) (σ : Mm) : Option (Int32 × Mm) :=
  zcb (f_X8_isNumber v1 σ) (fun r1 σ2 => if r1 = 0 then (some ((-9 : Int32), σ2)) else (zck (kO σ2 v0 2) (zrb (mR σ2 v0 0) (fun b5 => zck (kA σ2 1 b5 v1) (some ((mD σ2 b5 (ix v1)), σ2))))))
set_option maxRecDepth 100000 in
set_option maxHeartbeats 4000000 in
theorem V_X2_valueOf_0 {g : GG} (v0 : Nat) (v1 : Int32) (σ : Mm) (r : Int32) (σ' : Mm) (hf : f_X2_valueOf v0 v1 σ = some (r, σ')) : VJ g RX2 cX2_valueOf 2 (some .int) false rm_X2_valueOf (some (.int r)) σ' (0) (0) 0 [(0, .ref (gB g + v0)), (1, .int v1)] [] σ := by
  intro p e s m args below meth c H locs cells slots ls E hR hS hl hc hs
  obtain ⟨hx, hb, hml, hr, hlocks, hown, hts, hin, hT⟩ := id E
  unfold f_X2_valueOf at hf
  refine lv_iload_n hx hb dX2_valueOf_0 rfl (lv_at hl 1 rfl) ?_
  obtain ⟨r1, σ2, hcr1, hf⟩ := zq_s hf
  refine xSN (As := [.int v1]) (rest := []) (st1 := [.int r1]) E hR hS hl (C_X8_isNumber hcr1) lb_X8_isNumber ls_X8_isNumber nl_X2_25 ⟨Nat.le_of_ble_eq_true rfl, Nat.le_of_ble_eq_true rfl⟩ rfl rfl rfl (Nat.le_of_ble_eq_true rfl) dX2_valueOf_1 ⟨hc, hs⟩ (fun H locs hR hS => ?_)
  refine lv_if_eq (tgt := 16) hx hb dX2_valueOf_4 (by decide) (fun hq3 => ?_) (fun hq3 => ?_)
  · have hf := ite_p hq3 hf
    refine lv_bipush (v := (-9 : Int32)) hx hb dX2_valueOf_16 rfl ?_
    obtain ⟨hr1, hs1⟩ := Prod.mk.inj (Option.some.inj hf)
    exact xr_i E hR hS rfl (by rw [hr1]) hs1.symm hc hs dX2_valueOf_18
  · have hf := ite_n hq3 hf
    refine lv_aload_n hx hb dX2_valueOf_7 rfl (lv_at hl 0 rfl) ?_
    obtain ⟨hk4, hf⟩ := zc_s hf
    obtain ⟨b5, hb5, hf⟩ := zr_s hf
    refine x_getR E hR hk4 hb5 ok2 (Nat.le_of_ble_eq_true rfl) rfl fl_X2_9 dX2_valueOf_8 ?_
    refine lv_iload_n hx hb dX2_valueOf_11 rfl (lv_at hl 1 rfl) ?_
    obtain ⟨hk6, hf⟩ := zc_s hf
    refine x_ild E hR hk6 dX2_valueOf_12 ?_
    refine lv_goto (tgt := 18) hx hb dX2_valueOf_13 (by decide) ?_
    obtain ⟨hr1, hs1⟩ := Prod.mk.inj (Option.some.inj hf)
    exact xr_i E hR hS rfl (by rw [hr1]) hs1.symm hc hs dX2_valueOf_18
theorem C_X2_valueOf {g : GG} {v0 : Nat} {v1 : Int32} {σ : Mm} {r : Int32} {σ' : Mm} (hf : f_X2_valueOf v0 v1 σ = some (r, σ')) : Ct g yX2_valueOf cX2_valueOf 2 (some .int) rm_X2_valueOf [.ref (gB g + v0), .int v1] σ (some (.int r)) σ' :=
  Ct.of false (by decide) (fun h => by cases h) (Nat.le_of_ble_eq_true rfl) (V_X2_valueOf_0 _ _ _ _ _ hf)
abbrev rm_X2_has : Room := { frames := 2, cells := 0, slots := 0, locals := 41 }
set_option maxRecDepth 100000 in
def f_X2_has (v0 : Nat) (v1 : Int32) (σ : Mm) : Option (Int32 × Mm) :=
  zck (kO σ v0 2) (zcb (f_X2_valueOf v0 v1 σ) (fun r2 σ3 => if r2 = (-9 : Int32) then (some ((0 : Int32), σ3)) else (some ((1 : Int32), σ3))))
set_option maxRecDepth 100000 in
set_option maxHeartbeats 4000000 in
theorem V_X2_has_0 {g : GG} (v0 : Nat) (v1 : Int32) (σ : Mm) (r : Int32) (σ' : Mm) (hf : f_X2_has v0 v1 σ = some (r, σ')) : VJ g RX2 cX2_has 2 (some .boolean) false rm_X2_has (some (.int r)) σ' (0) (0) 0 [(0, .ref (gB g + v0)), (1, .int v1)] [] σ := by
  intro p e s m args below meth c H locs cells slots ls E hR hS hl hc hs
  obtain ⟨hx, hb, hml, hr, hlocks, hown, hts, hin, hT⟩ := id E
  unfold f_X2_has at hf
  refine lv_aload_n hx hb dX2_has_0 rfl (lv_at hl 0 rfl) ?_
  refine lv_iload_n hx hb dX2_has_1 rfl (lv_at hl 1 rfl) ?_
  obtain ⟨hk1, hf⟩ := zc_s hf
  obtain ⟨r2, σ3, hcr2, hf⟩ := zq_s hf
  refine xV (As := [.int v1]) (rest := []) (st1 := [.int r2]) E hR hS hl (C_X2_valueOf hcr2) hk1 ok2 lb_X2_valueOf lv_X2_valueOf ml_X2_29 ⟨Nat.le_of_ble_eq_true rfl, Nat.le_of_ble_eq_true rfl⟩ rfl rfl rfl (Nat.le_of_ble_eq_true rfl) dX2_has_2 ⟨hc, hs⟩ (fun H locs hR hS => ?_)
  refine lv_bipush (v := (-9 : Int32)) hx hb dX2_has_5 rfl ?_
  refine lv_icmp_eq (tgt := 14) hx hb dX2_has_7 (by decide) (fun hq4 => ?_) (fun hq4 => ?_)
  · have hf := ite_p hq4 hf
    refine lv_iconst (v := (0 : Int32)) hx hb dX2_has_14 rfl ?_
    obtain ⟨hr1, hs1⟩ := Prod.mk.inj (Option.some.inj hf)
    exact xr_z E hR hS rfl rfl (by rw [hr1]) hs1.symm hc hs dX2_has_15
  · have hf := ite_n hq4 hf
    refine lv_iconst (v := (1 : Int32)) hx hb dX2_has_10 rfl ?_
    refine lv_goto (tgt := 15) hx hb dX2_has_11 (by decide) ?_
    obtain ⟨hr1, hs1⟩ := Prod.mk.inj (Option.some.inj hf)
    exact xr_z E hR hS rfl rfl (by rw [hr1]) hs1.symm hc hs dX2_has_15
theorem C_X2_has {g : GG} {v0 : Nat} {v1 : Int32} {σ : Mm} {r : Int32} {σ' : Mm} (hf : f_X2_has v0 v1 σ = some (r, σ')) : Ct g yX2_has cX2_has 2 (some .boolean) rm_X2_has [.ref (gB g + v0), .int v1] σ (some (.int r)) σ' :=
  Ct.of false (by decide) (fun h => by cases h) (Nat.le_of_ble_eq_true rfl) (V_X2_has_0 _ _ _ _ _ hf)
abbrev rm_X2_countWithin : Room := { frames := 3, cells := 0, slots := 0, locals := 62 }
set_option maxRecDepth 100000 in
def f_X2_countWithin_36 (k_5 : Nat → Int32 → Int32 → Int32 → Int32 → Mm → Option (Int32 × Mm)) (v0 : Nat) (v1 : Int32) (v2 : Int32) (v3 : Int32) (v4 : Int32) (σ : Mm) : Option (Int32 × Mm) :=
  k_5 v0 v1 v2 v3 (v4 + (1 : Int32)) σ
set_option maxRecDepth 100000 in
set_option maxHeartbeats 4000000 in
theorem V_X2_countWithin_36 {g : GG} (k_5 : Nat → Int32 → Int32 → Int32 → Int32 → Mm → Option (Int32 × Mm)) (hk_5 : ∀ (v0 : Nat) (v1 : Int32) (v2 : Int32) (v3 : Int32) (v4 : Int32) (σ : Mm) (r : Int32) (σ' : Mm), k_5 v0 v1 v2 v3 v4 σ = some (r, σ') → VJ g RX2 cX2_countWithin 5 (some .int) false rm_X2_countWithin (some (.int r)) σ' (0) (0) 5 [(0, .ref (gB g + v0)), (1, .int v1), (2, .int v2), (3, .int v3), (4, .int v4)] [] σ) (v0 : Nat) (v1 : Int32) (v2 : Int32) (v3 : Int32) (v4 : Int32) (σ : Mm) (r : Int32) (σ' : Mm) (hf : f_X2_countWithin_36 k_5 v0 v1 v2 v3 v4 σ = some (r, σ')) : VJ g RX2 cX2_countWithin 5 (some .int) false rm_X2_countWithin (some (.int r)) σ' (0) (0) 36 [(0, .ref (gB g + v0)), (1, .int v1), (2, .int v2), (3, .int v3), (4, .int v4)] [] σ := by
  intro p e s m args below meth c H locs cells slots ls E hR hS hl hc hs
  obtain ⟨hx, hb, hml, hr, hlocks, hown, hts, hin, hT⟩ := id E
  unfold f_X2_countWithin_36 at hf
  refine lv_iinc (v := (v4 + (1 : Int32))) (lv' := [(4, .int (v4 + (1 : Int32))), (0, .ref (gB g + v0)), (1, .int v1), (2, .int v2), (3, .int v3)]) hx hb dX2_countWithin_36 hl (k := 4) rfl rfl (Nat.le_of_ble_eq_true rfl) rfl (fun ls hl => ?_)
  refine lv_goto (tgt := 5) hx hb dX2_countWithin_39 (by decide) ?_
  exact hk_5 _ _ _ _ _ _ _ _ hf p e s m args below meth c _ _ _ _ _ E hR hS (lv_sub hl [1, 2, 3, 4, 0] rfl) hc hs
set_option maxRecDepth 100000 in
def f_X2_countWithin_5 : Nat → Nat → Int32 → Int32 → Int32 → Int32 → Mm → Option (Int32 × Mm)
  | 0, _, _, _, _, _, _ => none
  | n + 1, v0, v1, v2, v3, v4, σ =>
    if (100 : Int32) ≤ v4 then (some (v3, σ)) else (if v4 < v1 then (f_X2_countWithin_36 (f_X2_countWithin_5 n) v0 v1 v2 v3 v4 σ) else (if v2 < v4 then (f_X2_countWithin_36 (f_X2_countWithin_5 n) v0 v1 v2 v3 v4 σ) else (zck (kO σ v0 2) (zcb (f_X2_has v0 v4 σ) (fun r5 σ6 => if r5 = 0 then (f_X2_countWithin_36 (f_X2_countWithin_5 n) v0 v1 v2 v3 v4 σ6) else (f_X2_countWithin_36 (f_X2_countWithin_5 n) v0 v1 v2 (v3 + (1 : Int32)) v4 σ6))))))
set_option maxRecDepth 100000 in
set_option maxHeartbeats 4000000 in
theorem V_X2_countWithin_5 {g : GG} : ∀ (n : Nat) (v0 : Nat) (v1 : Int32) (v2 : Int32) (v3 : Int32) (v4 : Int32) (σ : Mm) (r : Int32) (σ' : Mm), f_X2_countWithin_5 n v0 v1 v2 v3 v4 σ = some (r, σ') → VJ g RX2 cX2_countWithin 5 (some .int) false rm_X2_countWithin (some (.int r)) σ' (0) (0) 5 [(0, .ref (gB g + v0)), (1, .int v1), (2, .int v2), (3, .int v3), (4, .int v4)] [] σ := by
  intro n
  induction n with
  | zero =>
    intro v0 v1 v2 v3 v4 σ r σ' hf
    unfold f_X2_countWithin_5 at hf
    cases hf
  | succ n ih =>
    intro v0 v1 v2 v3 v4 σ r σ' hf p e s m args below meth c H locs cells slots ls E hR hS hl hc hs
    obtain ⟨hx, hb, hml, hr, hlocks, hown, hts, hin, hT⟩ := id E
    unfold f_X2_countWithin_5 at hf
    refine lv_iload hx hb dX2_countWithin_5 (lv_at hl 4 rfl) ?_
    refine lv_bipush (v := (100 : Int32)) hx hb dX2_countWithin_7 rfl ?_
    refine lv_icmp_ge (tgt := 42) hx hb dX2_countWithin_9 (by decide) (fun hq1 => ?_) (fun hq1 => ?_)
    · have hf := ite_p hq1 hf
      refine lv_iload_n hx hb dX2_countWithin_42 rfl (lv_at hl 3 rfl) ?_
      obtain ⟨hr1, hs1⟩ := Prod.mk.inj (Option.some.inj hf)
      exact xr_i E hR hS rfl (by rw [hr1]) hs1.symm hc hs dX2_countWithin_43
    · have hf := ite_n hq1 hf
      refine lv_iload_n hx hb dX2_countWithin_12 rfl (lv_at hl 1 rfl) ?_
      refine lv_iload hx hb dX2_countWithin_13 (lv_at hl 4 rfl) ?_
      refine lv_icmp_gt (tgt := 36) hx hb dX2_countWithin_15 (by decide) (fun hq2 => ?_) (fun hq2 => ?_)
      · have hf := ite_p hq2 hf
        exact V_X2_countWithin_36 _ ih _ _ _ _ _ _ _ _ hf p e s m args below meth c _ _ _ _ _ E hR hS (lv_sub hl [0, 1, 2, 3, 4] rfl) hc hs
      · have hf := ite_n hq2 hf
        refine lv_iload hx hb dX2_countWithin_18 (lv_at hl 4 rfl) ?_
        refine lv_iload_n hx hb dX2_countWithin_20 rfl (lv_at hl 2 rfl) ?_
        refine lv_icmp_gt (tgt := 36) hx hb dX2_countWithin_21 (by decide) (fun hq3 => ?_) (fun hq3 => ?_)
        · have hf := ite_p hq3 hf
          exact V_X2_countWithin_36 _ ih _ _ _ _ _ _ _ _ hf p e s m args below meth c _ _ _ _ _ E hR hS (lv_sub hl [0, 1, 2, 3, 4] rfl) hc hs
        · have hf := ite_n hq3 hf
          refine lv_aload_n hx hb dX2_countWithin_24 rfl (lv_at hl 0 rfl) ?_
          refine lv_iload hx hb dX2_countWithin_25 (lv_at hl 4 rfl) ?_
          obtain ⟨hk4, hf⟩ := zc_s hf
          obtain ⟨r5, σ6, hcr5, hf⟩ := zq_s hf
          refine xV (As := [.int v4]) (rest := []) (st1 := [.int r5]) E hR hS hl (C_X2_has hcr5) hk4 ok2 lb_X2_has lv_X2_has ml_X2_33 ⟨Nat.le_of_ble_eq_true rfl, Nat.le_of_ble_eq_true rfl⟩ rfl rfl rfl (Nat.le_of_ble_eq_true rfl) dX2_countWithin_27 ⟨hc, hs⟩ (fun H locs hR hS => ?_)
          refine lv_if_eq (tgt := 36) hx hb dX2_countWithin_30 (by decide) (fun hq7 => ?_) (fun hq7 => ?_)
          · have hf := ite_p hq7 hf
            exact V_X2_countWithin_36 _ ih _ _ _ _ _ _ _ _ hf p e s m args below meth c _ _ _ _ _ E hR hS (lv_sub hl [0, 1, 2, 3, 4] rfl) hc hs
          · have hf := ite_n hq7 hf
            refine lv_iinc (v := (v3 + (1 : Int32))) (lv' := [(3, .int (v3 + (1 : Int32))), (0, .ref (gB g + v0)), (1, .int v1), (2, .int v2), (4, .int v4)]) hx hb dX2_countWithin_33 hl (k := 3) rfl rfl (Nat.le_of_ble_eq_true rfl) rfl (fun ls hl => ?_)
            exact V_X2_countWithin_36 _ ih _ _ _ _ _ _ _ _ hf p e s m args below meth c _ _ _ _ _ E hR hS (lv_sub hl [1, 2, 3, 0, 4] rfl) hc hs
set_option maxRecDepth 100000 in
def f_X2_countWithin (v0 : Nat) (v1 : Int32) (v2 : Int32) (σ : Mm) : Option (Int32 × Mm) :=
  f_X2_countWithin_5 1000 v0 v1 v2 (0 : Int32) (0 : Int32) σ
set_option maxRecDepth 100000 in
set_option maxHeartbeats 4000000 in
theorem V_X2_countWithin_0 {g : GG} (v0 : Nat) (v1 : Int32) (v2 : Int32) (σ : Mm) (r : Int32) (σ' : Mm) (hf : f_X2_countWithin v0 v1 v2 σ = some (r, σ')) : VJ g RX2 cX2_countWithin 5 (some .int) false rm_X2_countWithin (some (.int r)) σ' (0) (0) 0 [(0, .ref (gB g + v0)), (1, .int v1), (2, .int v2)] [] σ := by
  intro p e s m args below meth c H locs cells slots ls E hR hS hl hc hs
  obtain ⟨hx, hb, hml, hr, hlocks, hown, hts, hin, hT⟩ := id E
  unfold f_X2_countWithin at hf
  refine lv_iconst (v := (0 : Int32)) hx hb dX2_countWithin_0 rfl ?_
  refine lv_istore_n (lv' := [(3, .int (0 : Int32)), (0, .ref (gB g + v0)), (1, .int v1), (2, .int v2)]) hx hb dX2_countWithin_1 rfl hl (Nat.le_of_ble_eq_true rfl) rfl (fun ls hl => ?_)
  refine lv_iconst (v := (0 : Int32)) hx hb dX2_countWithin_2 rfl ?_
  refine lv_istore (lv' := [(4, .int (0 : Int32)), (3, .int (0 : Int32)), (0, .ref (gB g + v0)), (1, .int v1), (2, .int v2)]) hx hb dX2_countWithin_3 hl (Nat.le_of_ble_eq_true rfl) rfl (fun ls hl => ?_)
  exact V_X2_countWithin_5  1000 _ _ _ _ _ _ _ _ hf p e s m args below meth c _ _ _ _ _ E hR hS (lv_sub hl [2, 3, 4, 1, 0] rfl) hc hs
theorem C_X2_countWithin {g : GG} {v0 : Nat} {v1 : Int32} {v2 : Int32} {σ : Mm} {r : Int32} {σ' : Mm} (hf : f_X2_countWithin v0 v1 v2 σ = some (r, σ')) : Ct g yX2_countWithin cX2_countWithin 5 (some .int) rm_X2_countWithin [.ref (gB g + v0), .int v1, .int v2] σ (some (.int r)) σ' :=
  Ct.of false (by decide) (fun h => by cases h) (Nat.le_of_ble_eq_true rfl) (V_X2_countWithin_0 _ _ _ _ _ _ hf)
abbrev rm_X2_give : Room := { frames := 1, cells := 0, slots := 0, locals := 20 }
set_option maxRecDepth 100000 in
def f_X2_give_28 (v0 : Nat) (v1 : Int32) (v2 : Int32) (σ : Mm) : Option (Unit × Mm) :=
  zck (kO σ v0 2) (zrb (mR σ v0 0) (fun b2 => zck (kA σ 1 b2 v1) (zlt (sD σ b2 (ix v1) v2) (fun σ4 => some ((), σ4)))))
set_option maxRecDepth 100000 in
set_option maxHeartbeats 4000000 in
theorem V_X2_give_28 {g : GG} (v0 : Nat) (v1 : Int32) (v2 : Int32) (σ : Mm) (r : Unit) (σ' : Mm) (hf : f_X2_give_28 v0 v1 v2 σ = some (r, σ')) : VJ g RX2 cX2_give 3 none false rm_X2_give none σ' (0) (0) 28 [(0, .ref (gB g + v0)), (1, .int v1), (2, .int v2)] [] σ := by
  intro p e s m args below meth c H locs cells slots ls E hR hS hl hc hs
  obtain ⟨hx, hb, hml, hr, hlocks, hown, hts, hin, hT⟩ := id E
  unfold f_X2_give_28 at hf
  refine lv_aload_n hx hb dX2_give_28 rfl (lv_at hl 0 rfl) ?_
  obtain ⟨hk1, hf⟩ := zc_s hf
  obtain ⟨b2, hb2, hf⟩ := zr_s hf
  refine x_getR E hR hk1 hb2 ok2 (Nat.le_of_ble_eq_true rfl) rfl fl_X2_9 dX2_give_29 ?_
  refine lv_iload_n hx hb dX2_give_32 rfl (lv_at hl 1 rfl) ?_
  refine lv_iload_n hx hb dX2_give_33 rfl (lv_at hl 2 rfl) ?_
  obtain ⟨hk3, hf⟩ := zc_s hf
  obtain ⟨σ4, eσ4, hf⟩ := zl_s hf
  refine x_ist E hR hS hk3 dX2_give_34 (fun H locs hR hS => ?_)
  rw [← eσ4] at hR
  obtain ⟨hr1, hs1⟩ := Prod.mk.inj (Option.some.inj hf)
  exact xr_v E hR hS rfl rfl hs1.symm hc hs dX2_give_35
set_option maxRecDepth 100000 in
def f_X2_give (v0 : Nat) (v1 : Int32) (v2 : Int32) (σ : Mm) : Option (Unit × Mm) :=
  zcb (f_X8_isNumber v1 σ) (fun r5 σ6 => if r5 = 0 then (some ((), σ6)) else (zck (kO σ6 v0 2) (zrb (mR σ6 v0 0) (fun b9 => zck (kA σ6 1 b9 v1) (if (mD σ6 b9 (ix v1)) = (-9 : Int32) then (zlt (sD σ6 v0 1 ((mD σ6 v0 1) + (1 : Int32))) (fun σ12 => f_X2_give_28 v0 v1 v2 σ12)) else (f_X2_give_28 v0 v1 v2 σ6))))))
set_option maxRecDepth 100000 in
set_option maxHeartbeats 4000000 in
theorem V_X2_give_0 {g : GG} (v0 : Nat) (v1 : Int32) (v2 : Int32) (σ : Mm) (r : Unit) (σ' : Mm) (hf : f_X2_give v0 v1 v2 σ = some (r, σ')) : VJ g RX2 cX2_give 3 none false rm_X2_give none σ' (0) (0) 0 [(0, .ref (gB g + v0)), (1, .int v1), (2, .int v2)] [] σ := by
  intro p e s m args below meth c H locs cells slots ls E hR hS hl hc hs
  obtain ⟨hx, hb, hml, hr, hlocks, hown, hts, hin, hT⟩ := id E
  unfold f_X2_give at hf
  refine lv_iload_n hx hb dX2_give_0 rfl (lv_at hl 1 rfl) ?_
  obtain ⟨r5, σ6, hcr5, hf⟩ := zq_s hf
  refine xSN (As := [.int v1]) (rest := []) (st1 := [.int r5]) E hR hS hl (C_X8_isNumber hcr5) lb_X8_isNumber ls_X8_isNumber nl_X2_25 ⟨Nat.le_of_ble_eq_true rfl, Nat.le_of_ble_eq_true rfl⟩ rfl rfl rfl (Nat.le_of_ble_eq_true rfl) dX2_give_1 ⟨hc, hs⟩ (fun H locs hR hS => ?_)
  refine lv_if_eq (tgt := 35) hx hb dX2_give_4 (by decide) (fun hq7 => ?_) (fun hq7 => ?_)
  · have hf := ite_p hq7 hf
    obtain ⟨hr1, hs1⟩ := Prod.mk.inj (Option.some.inj hf)
    exact xr_v E hR hS rfl rfl hs1.symm hc hs dX2_give_35
  · have hf := ite_n hq7 hf
    refine lv_aload_n hx hb dX2_give_7 rfl (lv_at hl 0 rfl) ?_
    obtain ⟨hk8, hf⟩ := zc_s hf
    obtain ⟨b9, hb9, hf⟩ := zr_s hf
    refine x_getR E hR hk8 hb9 ok2 (Nat.le_of_ble_eq_true rfl) rfl fl_X2_9 dX2_give_8 ?_
    refine lv_iload_n hx hb dX2_give_11 rfl (lv_at hl 1 rfl) ?_
    obtain ⟨hk10, hf⟩ := zc_s hf
    refine x_ild E hR hk10 dX2_give_12 ?_
    refine lv_bipush (v := (-9 : Int32)) hx hb dX2_give_13 rfl ?_
    refine lv_icmp_ne (tgt := 28) hx hb dX2_give_15 (by decide) (fun hq11 => ?_) (fun hq11 => ?_)
    · have hf := ite_n hq11 hf
      exact V_X2_give_28  _ _ _ _ _ _ hf p e s m args below meth c _ _ _ _ _ E hR hS (lv_sub hl [0, 1, 2] rfl) hc hs
    · have hf := ite_p hq11 hf
      refine lv_aload_n hx hb dX2_give_18 rfl (lv_at hl 0 rfl) ?_
      refine lv_dup hx hb dX2_give_19 rfl ?_
      refine x_getI E hR hk8 ok2 1 (Nat.le_of_ble_eq_true rfl) rfl fl_X2_21 dX2_give_20 ?_
      refine lv_iconst (v := (1 : Int32)) hx hb dX2_give_23 rfl ?_
      refine lv_iadd hx hb dX2_give_24 ?_
      obtain ⟨σ12, eσ12, hf⟩ := zl_s hf
      refine x_putI E hR hS hk8 ok2 1 (Nat.le_of_ble_eq_true rfl) rfl fl_X2_21 (Or.inl rfl) rfl rfl dX2_give_25 (fun H locs hR hS => ?_)
      rw [← eσ12] at hR
      exact V_X2_give_28  _ _ _ _ _ _ hf p e s m args below meth c _ _ _ _ _ E hR hS (lv_sub hl [0, 1, 2] rfl) hc hs
theorem C_X2_give {g : GG} {v0 : Nat} {v1 : Int32} {v2 : Int32} {σ : Mm} {r : Unit} {σ' : Mm} (hf : f_X2_give v0 v1 v2 σ = some (r, σ')) : Ct g yX2_give cX2_give 3 none rm_X2_give [.ref (gB g + v0), .int v1, .int v2] σ none σ' :=
  Ct.of false (by decide) (fun h => by cases h) (Nat.le_of_ble_eq_true rfl) (V_X2_give_0 _ _ _ _ _ _ hf)
abbrev rm_X2_become : Room := { frames := 1, cells := 0, slots := 0, locals := 18 }
set_option maxRecDepth 100000 in
def f_X2_become (v0 : Nat) (v1 : Nat) (σ : Mm) : Option (Unit × Mm) :=
  zck (kO σ v1 2) (zrb (mR σ v1 0) (fun b2 => zck (kO σ v0 2) (zrb (mR σ v0 0) (fun b4 => zck (kC σ b2 b4 (0 : Int32) (0 : Int32) (100 : Int32)) (zlt (sC σ b2 b4 (0 : Int32) (0 : Int32) (100 : Int32)) (fun σ6 => zlt (sD σ6 v0 1 (mD σ6 v1 1)) (fun σ7 => some ((), σ7))))))))
set_option maxRecDepth 100000 in
set_option maxHeartbeats 4000000 in
theorem V_X2_become_0 {g : GG} (v0 : Nat) (v1 : Nat) (σ : Mm) (r : Unit) (σ' : Mm) (hf : f_X2_become v0 v1 σ = some (r, σ')) : VJ g RX2 cX2_become 2 none false rm_X2_become none σ' (0) (0) 0 [(0, .ref (gB g + v0)), (1, .ref (gB g + v1))] [] σ := by
  intro p e s m args below meth c H locs cells slots ls E hR hS hl hc hs
  obtain ⟨hx, hb, hml, hr, hlocks, hown, hts, hin, hT⟩ := id E
  unfold f_X2_become at hf
  refine lv_aload_n hx hb dX2_become_0 rfl (lv_at hl 1 rfl) ?_
  obtain ⟨hk1, hf⟩ := zc_s hf
  obtain ⟨b2, hb2, hf⟩ := zr_s hf
  refine x_getR E hR hk1 hb2 ok2 (Nat.le_of_ble_eq_true rfl) rfl fl_X2_9 dX2_become_1 ?_
  refine lv_iconst (v := (0 : Int32)) hx hb dX2_become_4 rfl ?_
  refine lv_aload_n hx hb dX2_become_5 rfl (lv_at hl 0 rfl) ?_
  obtain ⟨hk3, hf⟩ := zc_s hf
  obtain ⟨b4, hb4, hf⟩ := zr_s hf
  refine x_getR E hR hk3 hb4 ok2 (Nat.le_of_ble_eq_true rfl) rfl fl_X2_9 dX2_become_6 ?_
  refine lv_iconst (v := (0 : Int32)) hx hb dX2_become_9 rfl ?_
  refine lv_bipush (v := (100 : Int32)) hx hb dX2_become_10 rfl ?_
  obtain ⟨hk5, hf⟩ := zc_s hf
  obtain ⟨σ6, eσ6, hf⟩ := zl_s hf
  refine x_copy E hR hS hl hk5 ac_X2_36 acN acS acI (Nat.le_of_ble_eq_true rfl) (Nat.le_of_ble_eq_true rfl) dX2_become_12 (fun H locs hR hS => ?_)
  rw [← eσ6] at hR
  refine lv_aload_n hx hb dX2_become_15 rfl (lv_at hl 0 rfl) ?_
  refine lv_aload_n hx hb dX2_become_16 rfl (lv_at hl 1 rfl) ?_
  refine x_getI E hR (by rw [eσ6]; exact hk1) ok2 1 (Nat.le_of_ble_eq_true rfl) rfl fl_X2_21 dX2_become_17 ?_
  obtain ⟨σ7, eσ7, hf⟩ := zl_s hf
  refine x_putI E hR hS (by rw [eσ6]; exact hk3) ok2 1 (Nat.le_of_ble_eq_true rfl) rfl fl_X2_21 (Or.inl rfl) rfl rfl dX2_become_20 (fun H locs hR hS => ?_)
  rw [← eσ7] at hR
  obtain ⟨hr1, hs1⟩ := Prod.mk.inj (Option.some.inj hf)
  exact xr_v E hR hS rfl rfl hs1.symm hc hs dX2_become_23
theorem C_X2_become {g : GG} {v0 : Nat} {v1 : Nat} {σ : Mm} {r : Unit} {σ' : Mm} (hf : f_X2_become v0 v1 σ = some (r, σ')) : Ct g yX2_become cX2_become 2 none rm_X2_become [.ref (gB g + v0), .ref (gB g + v1)] σ none σ' :=
  Ct.of false (by decide) (fun h => by cases h) (Nat.le_of_ble_eq_true rfl) (V_X2_become_0 _ _ _ _ _ hf)
end
