theorem dX5_reasonOfNode_0 : decode cX5_reasonOfNode 0 = .ok (.iload_n 0, 1) := by decide +kernel
theorem dX5_reasonOfNode_1 : decode cX5_reasonOfNode 1 = .ok (.iload_n 2, 1) := by decide +kernel
theorem dX5_reasonOfNode_2 : decode cX5_reasonOfNode 2 = .ok (.if_icmp .lt 8, 3) := by decide +kernel
theorem dX5_reasonOfNode_5 : decode cX5_reasonOfNode 5 = .ok (.iload_n 0, 1) := by decide +kernel
theorem dX5_reasonOfNode_6 : decode cX5_reasonOfNode 6 = .ok (.iload_n 3, 1) := by decide +kernel
theorem dX5_reasonOfNode_7 : decode cX5_reasonOfNode 7 = .ok (.if_icmp .le 5, 3) := by decide +kernel
theorem dX5_reasonOfNode_10 : decode cX5_reasonOfNode 10 = .ok (.iconst 3, 1) := by decide +kernel
theorem dX5_reasonOfNode_11 : decode cX5_reasonOfNode 11 = .ok (.ireturn, 1) := by decide +kernel
theorem dX5_reasonOfNode_12 : decode cX5_reasonOfNode 12 = .ok (.iload_n 1, 1) := by decide +kernel
theorem dX5_reasonOfNode_13 : decode cX5_reasonOfNode 13 = .ok (.invokestatic 122, 3) := by decide +kernel
theorem dX5_reasonOfNode_16 : decode cX5_reasonOfNode 16 = .ok (.ifCond .eq 15, 3) := by decide +kernel
theorem dX5_reasonOfNode_19 : decode cX5_reasonOfNode 19 = .ok (.iload_n 1, 1) := by decide +kernel
theorem dX5_reasonOfNode_20 : decode cX5_reasonOfNode 20 = .ok (.iload_n 0, 1) := by decide +kernel
theorem dX5_reasonOfNode_21 : decode cX5_reasonOfNode 21 = .ok (.invokestatic 125, 3) := by decide +kernel
theorem dX5_reasonOfNode_24 : decode cX5_reasonOfNode 24 = .ok (.ifCond .ne 7, 3) := by decide +kernel
theorem dX5_reasonOfNode_27 : decode cX5_reasonOfNode 27 = .ok (.iconst 4, 1) := by decide +kernel
theorem dX5_reasonOfNode_28 : decode cX5_reasonOfNode 28 = .ok (.goto 4, 3) := by decide +kernel
theorem dX5_reasonOfNode_31 : decode cX5_reasonOfNode 31 = .ok (.iconst 0, 1) := by decide +kernel
theorem dX5_reasonOfNode_32 : decode cX5_reasonOfNode 32 = .ok (.ireturn, 1) := by decide +kernel
theorem dX5_reasonOfLeaf_0 : decode cX5_reasonOfLeaf 0 = .ok (.iload_n 0, 1) := by decide +kernel
theorem dX5_reasonOfLeaf_1 : decode cX5_reasonOfLeaf 1 = .ok (.ifCond .ne 5, 3) := by decide +kernel
theorem dX5_reasonOfLeaf_4 : decode cX5_reasonOfLeaf 4 = .ok (.iconst 0, 1) := by decide +kernel
theorem dX5_reasonOfLeaf_5 : decode cX5_reasonOfLeaf 5 = .ok (.ireturn, 1) := by decide +kernel
theorem dX5_reasonOfLeaf_6 : decode cX5_reasonOfLeaf 6 = .ok (.iload_n 1, 1) := by decide +kernel
theorem dX5_reasonOfLeaf_7 : decode cX5_reasonOfLeaf 7 = .ok (.iload_n 2, 1) := by decide +kernel
theorem dX5_reasonOfLeaf_8 : decode cX5_reasonOfLeaf 8 = .ok (.if_icmp .le 5, 3) := by decide +kernel
theorem dX5_reasonOfLeaf_11 : decode cX5_reasonOfLeaf 11 = .ok (.iconst 3, 1) := by decide +kernel
theorem dX5_reasonOfLeaf_12 : decode cX5_reasonOfLeaf 12 = .ok (.ireturn, 1) := by decide +kernel
theorem dX5_reasonOfLeaf_13 : decode cX5_reasonOfLeaf 13 = .ok (.iload_n 3, 1) := by decide +kernel
theorem dX5_reasonOfLeaf_14 : decode cX5_reasonOfLeaf 14 = .ok (.ifCond .eq 7, 3) := by decide +kernel
theorem dX5_reasonOfLeaf_17 : decode cX5_reasonOfLeaf 17 = .ok (.iconst 5, 1) := by decide +kernel
theorem dX5_reasonOfLeaf_18 : decode cX5_reasonOfLeaf 18 = .ok (.goto 4, 3) := by decide +kernel
theorem dX5_reasonOfLeaf_21 : decode cX5_reasonOfLeaf 21 = .ok (.iconst 0, 1) := by decide +kernel
theorem dX5_reasonOfLeaf_22 : decode cX5_reasonOfLeaf 22 = .ok (.ireturn, 1) := by decide +kernel
theorem dX5_digestAfter_0 : decode cX5_digestAfter 0 = .ok (.iload_n 1, 1) := by decide +kernel
theorem dX5_digestAfter_1 : decode cX5_digestAfter 1 = .ok (.iconst 1, 1) := by decide +kernel
theorem dX5_digestAfter_2 : decode cX5_digestAfter 2 = .ok (.isub, 1) := by decide +kernel
theorem dX5_digestAfter_3 : decode cX5_digestAfter 3 = .ok (.iconst 0, 1) := by decide +kernel
theorem dX5_digestAfter_4 : decode cX5_digestAfter 4 = .ok (.invokestatic 129, 3) := by decide +kernel
theorem dX5_digestAfter_7 : decode cX5_digestAfter 7 = .ok (.istore_n 3, 1) := by decide +kernel
theorem dX5_digestAfter_8 : decode cX5_digestAfter 8 = .ok (.iload_n 1, 1) := by decide +kernel
theorem dX5_digestAfter_9 : decode cX5_digestAfter 9 = .ok (.iconst 1, 1) := by decide +kernel
theorem dX5_digestAfter_10 : decode cX5_digestAfter 10 = .ok (.iadd, 1) := by decide +kernel
theorem dX5_digestAfter_11 : decode cX5_digestAfter 11 = .ok (.bipush 99, 2) := by decide +kernel
theorem dX5_digestAfter_13 : decode cX5_digestAfter 13 = .ok (.invokestatic 50, 3) := by decide +kernel
theorem dX5_digestAfter_16 : decode cX5_digestAfter 16 = .ok (.istore 4, 2) := by decide +kernel
theorem dX5_digestAfter_18 : decode cX5_digestAfter 18 = .ok (.aload_n 0, 1) := by decide +kernel
theorem dX5_digestAfter_19 : decode cX5_digestAfter 19 = .ok (.iload_n 3, 1) := by decide +kernel
theorem dX5_digestAfter_20 : decode cX5_digestAfter 20 = .ok (.iload 4, 2) := by decide +kernel
theorem dX5_digestAfter_22 : decode cX5_digestAfter 22 = .ok (.invokevirtual 132, 3) := by decide +kernel
theorem dX5_digestAfter_25 : decode cX5_digestAfter 25 = .ok (.ifCond .eq 6, 3) := by decide +kernel
theorem dX5_digestAfter_28 : decode cX5_digestAfter 28 = .ok (.bipush (-3), 2) := by decide +kernel
theorem dX5_digestAfter_30 : decode cX5_digestAfter 30 = .ok (.ireturn, 1) := by decide +kernel
theorem dX5_digestAfter_31 : decode cX5_digestAfter 31 = .ok (.iload_n 2, 1) := by decide +kernel
theorem dX5_digestAfter_32 : decode cX5_digestAfter 32 = .ok (.bipush (-9), 2) := by decide +kernel
theorem dX5_digestAfter_34 : decode cX5_digestAfter 34 = .ok (.if_icmp .eq 15, 3) := by decide +kernel
theorem dX5_digestAfter_37 : decode cX5_digestAfter 37 = .ok (.aload_n 0, 1) := by decide +kernel
theorem dX5_digestAfter_38 : decode cX5_digestAfter 38 = .ok (.getfield 25, 3) := by decide +kernel
theorem dX5_digestAfter_41 : decode cX5_digestAfter 41 = .ok (.iload_n 1, 1) := by decide +kernel
theorem dX5_digestAfter_42 : decode cX5_digestAfter 42 = .ok (.iload_n 2, 1) := by decide +kernel
theorem dX5_digestAfter_43 : decode cX5_digestAfter 43 = .ok (.invokevirtual 102, 3) := by decide +kernel
theorem dX5_digestAfter_46 : decode cX5_digestAfter 46 = .ok (.goto 27, 3) := by decide +kernel
theorem dX5_digestAfter_49 : decode cX5_digestAfter 49 = .ok (.aload_n 0, 1) := by decide +kernel
theorem dX5_digestAfter_50 : decode cX5_digestAfter 50 = .ok (.getfield 25, 3) := by decide +kernel
theorem dX5_digestAfter_53 : decode cX5_digestAfter 53 = .ok (.iload_n 1, 1) := by decide +kernel
theorem dX5_digestAfter_54 : decode cX5_digestAfter 54 = .ok (.invokevirtual 135, 3) := by decide +kernel
theorem dX5_digestAfter_57 : decode cX5_digestAfter 57 = .ok (.ifCond .eq 14, 3) := by decide +kernel
theorem dX5_digestAfter_60 : decode cX5_digestAfter 60 = .ok (.aload_n 0, 1) := by decide +kernel
theorem dX5_digestAfter_61 : decode cX5_digestAfter 61 = .ok (.getfield 25, 3) := by decide +kernel
theorem dX5_digestAfter_64 : decode cX5_digestAfter 64 = .ok (.iload_n 1, 1) := by decide +kernel
theorem dX5_digestAfter_65 : decode cX5_digestAfter 65 = .ok (.invokevirtual 138, 3) := by decide +kernel
theorem dX5_digestAfter_68 : decode cX5_digestAfter 68 = .ok (.goto 5, 3) := by decide +kernel
theorem dX5_digestAfter_71 : decode cX5_digestAfter 71 = .ok (.iconst (-1), 1) := by decide +kernel
theorem dX5_digestAfter_72 : decode cX5_digestAfter 72 = .ok (.ireturn, 1) := by decide +kernel
theorem dX5_digestAfter_73 : decode cX5_digestAfter 73 = .ok (.aload_n 0, 1) := by decide +kernel
theorem dX5_digestAfter_74 : decode cX5_digestAfter 74 = .ok (.getfield 32, 3) := by decide +kernel
theorem dX5_digestAfter_77 : decode cX5_digestAfter 77 = .ok (.aload_n 0, 1) := by decide +kernel
theorem dX5_digestAfter_78 : decode cX5_digestAfter 78 = .ok (.getfield 25, 3) := by decide +kernel
theorem dX5_digestAfter_81 : decode cX5_digestAfter 81 = .ok (.invokevirtual 63, 3) := by decide +kernel
theorem dX5_digestAfter_84 : decode cX5_digestAfter 84 = .ok (.aload_n 0, 1) := by decide +kernel
theorem dX5_digestAfter_85 : decode cX5_digestAfter 85 = .ok (.getfield 32, 3) := by decide +kernel
theorem dX5_digestAfter_88 : decode cX5_digestAfter 88 = .ok (.invokevirtual 67, 3) := by decide +kernel
theorem dX5_digestAfter_91 : decode cX5_digestAfter 91 = .ok (.ireturn, 1) := by decide +kernel
theorem dX6_init_0 : decode cX6_init 0 = .ok (.aload_n 0, 1) := by decide +kernel
theorem dX6_init_1 : decode cX6_init 1 = .ok (.invokespecial 1, 3) := by decide +kernel
theorem dX6_init_4 : decode cX6_init 4 = .ok (.aload_n 0, 1) := by decide +kernel
theorem dX6_init_5 : decode cX6_init 5 = .ok (.new 7, 3) := by decide +kernel
theorem dX6_init_8 : decode cX6_init 8 = .ok (.dup, 1) := by decide +kernel
theorem dX6_init_9 : decode cX6_init 9 = .ok (.invokespecial 9, 3) := by decide +kernel
theorem dX6_init_12 : decode cX6_init 12 = .ok (.putfield 10, 3) := by decide +kernel
theorem dX6_init_15 : decode cX6_init 15 = .ok (.return_, 1) := by decide +kernel
theorem dX6_pairs_0 : decode cX6_pairs 0 = .ok (.aload_n 0, 1) := by decide +kernel
theorem dX6_pairs_1 : decode cX6_pairs 1 = .ok (.getfield 10, 3) := by decide +kernel
theorem dX6_pairs_4 : decode cX6_pairs 4 = .ok (.areturn, 1) := by decide +kernel
theorem dX6_isFilled_0 : decode cX6_isFilled 0 = .ok (.aload_n 0, 1) := by decide +kernel
theorem dX6_isFilled_1 : decode cX6_isFilled 1 = .ok (.getfield 16, 3) := by decide +kernel
theorem dX6_isFilled_4 : decode cX6_isFilled 4 = .ok (.ireturn, 1) := by decide +kernel
theorem dX6_fill_0 : decode cX6_fill 0 = .ok (.aload_n 0, 1) := by decide +kernel
theorem dX6_fill_1 : decode cX6_fill 1 = .ok (.getfield 10, 3) := by decide +kernel
theorem dX6_fill_4 : decode cX6_fill 4 = .ok (.aload_n 1, 1) := by decide +kernel
theorem dX6_fill_5 : decode cX6_fill 5 = .ok (.invokevirtual 20, 3) := by decide +kernel
theorem dX6_fill_8 : decode cX6_fill 8 = .ok (.aload_n 0, 1) := by decide +kernel
theorem dX6_fill_9 : decode cX6_fill 9 = .ok (.iconst 1, 1) := by decide +kernel
theorem dX6_fill_10 : decode cX6_fill 10 = .ok (.putfield 16, 3) := by decide +kernel
theorem dX6_fill_13 : decode cX6_fill 13 = .ok (.return_, 1) := by decide +kernel
theorem dX7_init_0 : decode cX7_init 0 = .ok (.aload_n 0, 1) := by decide +kernel
theorem dX7_init_1 : decode cX7_init 1 = .ok (.invokespecial 3, 3) := by decide +kernel
theorem dX7_init_4 : decode cX7_init 4 = .ok (.aload_n 0, 1) := by decide +kernel
theorem dX7_init_5 : decode cX7_init 5 = .ok (.bipush 100, 2) := by decide +kernel
theorem dX7_init_7 : decode cX7_init 7 = .ok (.newarray .int, 2) := by decide +kernel
theorem dX7_init_9 : decode cX7_init 9 = .ok (.putfield 9, 3) := by decide +kernel
theorem dX7_init_12 : decode cX7_init 12 = .ok (.aload_n 0, 1) := by decide +kernel
theorem dX7_init_13 : decode cX7_init 13 = .ok (.bipush 100, 2) := by decide +kernel
theorem dX7_init_15 : decode cX7_init 15 = .ok (.newarray .int, 2) := by decide +kernel
theorem dX7_init_17 : decode cX7_init 17 = .ok (.putfield 15, 3) := by decide +kernel
theorem dX7_init_20 : decode cX7_init 20 = .ok (.aload_n 0, 1) := by decide +kernel
theorem dX7_init_21 : decode cX7_init 21 = .ok (.bipush 100, 2) := by decide +kernel
theorem dX7_init_23 : decode cX7_init 23 = .ok (.newarray .int, 2) := by decide +kernel
theorem dX7_init_25 : decode cX7_init 25 = .ok (.putfield 18, 3) := by decide +kernel
theorem dX7_init_28 : decode cX7_init 28 = .ok (.aload_n 0, 1) := by decide +kernel
theorem dX7_init_29 : decode cX7_init 29 = .ok (.bipush 101, 2) := by decide +kernel
theorem dX7_init_31 : decode cX7_init 31 = .ok (.newarray .int, 2) := by decide +kernel
theorem dX7_init_33 : decode cX7_init 33 = .ok (.putfield 21, 3) := by decide +kernel
theorem dX7_init_36 : decode cX7_init 36 = .ok (.aload_n 0, 1) := by decide +kernel
theorem dX7_init_37 : decode cX7_init 37 = .ok (.bipush 100, 2) := by decide +kernel
theorem dX7_init_39 : decode cX7_init 39 = .ok (.newarray .int, 2) := by decide +kernel
theorem dX7_init_41 : decode cX7_init 41 = .ok (.putfield 24, 3) := by decide +kernel
theorem dX7_init_44 : decode cX7_init 44 = .ok (.aload_n 0, 1) := by decide +kernel
theorem dX7_init_45 : decode cX7_init 45 = .ok (.bipush (-9), 2) := by decide +kernel
theorem dX7_init_47 : decode cX7_init 47 = .ok (.putfield 27, 3) := by decide +kernel
theorem dX7_init_50 : decode cX7_init 50 = .ok (.aload_n 0, 1) := by decide +kernel
theorem dX7_init_51 : decode cX7_init 51 = .ok (.new 31, 3) := by decide +kernel
theorem dX7_init_54 : decode cX7_init 54 = .ok (.dup, 1) := by decide +kernel
theorem dX7_init_55 : decode cX7_init 55 = .ok (.invokespecial 33, 3) := by decide +kernel
theorem dX7_init_58 : decode cX7_init 58 = .ok (.putfield 34, 3) := by decide +kernel
theorem dX7_init_61 : decode cX7_init 61 = .ok (.return_, 1) := by decide +kernel
theorem dX7_rootDigest_0 : decode cX7_rootDigest 0 = .ok (.aload_n 0, 1) := by decide +kernel
theorem dX7_rootDigest_1 : decode cX7_rootDigest 1 = .ok (.aload_n 0, 1) := by decide +kernel
theorem dX7_rootDigest_2 : decode cX7_rootDigest 2 = .ok (.getfield 27, 3) := by decide +kernel
theorem dX7_rootDigest_5 : decode cX7_rootDigest 5 = .ok (.bipush 100, 2) := by decide +kernel
theorem dX7_rootDigest_7 : decode cX7_rootDigest 7 = .ok (.invokevirtual 38, 3) := by decide +kernel
theorem dX7_rootDigest_10 : decode cX7_rootDigest 10 = .ok (.ireturn, 1) := by decide +kernel
theorem dX7_leftOf_0 : decode cX7_leftOf 0 = .ok (.iload_n 1, 1) := by decide +kernel
theorem dX7_leftOf_1 : decode cX7_leftOf 1 = .ok (.invokestatic 42, 3) := by decide +kernel
theorem dX7_leftOf_4 : decode cX7_leftOf 4 = .ok (.ifCond .eq 12, 3) := by decide +kernel
theorem dX7_leftOf_7 : decode cX7_leftOf 7 = .ok (.aload_n 0, 1) := by decide +kernel
theorem dX7_leftOf_8 : decode cX7_leftOf 8 = .ok (.getfield 9, 3) := by decide +kernel
theorem dX7_leftOf_11 : decode cX7_leftOf 11 = .ok (.iload_n 1, 1) := by decide +kernel
theorem dX7_leftOf_12 : decode cX7_leftOf 12 = .ok (.iaload, 1) := by decide +kernel
theorem dX7_leftOf_13 : decode cX7_leftOf 13 = .ok (.goto 5, 3) := by decide +kernel
theorem dX7_leftOf_16 : decode cX7_leftOf 16 = .ok (.bipush (-9), 2) := by decide +kernel
theorem dX7_leftOf_18 : decode cX7_leftOf 18 = .ok (.ireturn, 1) := by decide +kernel
theorem dX7_rightOf_0 : decode cX7_rightOf 0 = .ok (.iload_n 1, 1) := by decide +kernel
theorem dX7_rightOf_1 : decode cX7_rightOf 1 = .ok (.invokestatic 42, 3) := by decide +kernel
theorem dX7_rightOf_4 : decode cX7_rightOf 4 = .ok (.ifCond .eq 12, 3) := by decide +kernel
theorem dX7_rightOf_7 : decode cX7_rightOf 7 = .ok (.aload_n 0, 1) := by decide +kernel
theorem dX7_rightOf_8 : decode cX7_rightOf 8 = .ok (.getfield 15, 3) := by decide +kernel
theorem dX7_rightOf_11 : decode cX7_rightOf 11 = .ok (.iload_n 1, 1) := by decide +kernel
theorem dX7_rightOf_12 : decode cX7_rightOf 12 = .ok (.iaload, 1) := by decide +kernel
theorem dX7_rightOf_13 : decode cX7_rightOf 13 = .ok (.goto 5, 3) := by decide +kernel
theorem dX7_rightOf_16 : decode cX7_rightOf 16 = .ok (.bipush (-9), 2) := by decide +kernel
theorem dX7_rightOf_18 : decode cX7_rightOf 18 = .ok (.ireturn, 1) := by decide +kernel
theorem dX7_digestOf_0 : decode cX7_digestOf 0 = .ok (.iload_n 1, 1) := by decide +kernel
theorem dX7_digestOf_1 : decode cX7_digestOf 1 = .ok (.invokestatic 42, 3) := by decide +kernel
theorem dX7_digestOf_4 : decode cX7_digestOf 4 = .ok (.ifCond .eq 12, 3) := by decide +kernel
theorem dX7_digestOf_7 : decode cX7_digestOf 7 = .ok (.aload_n 0, 1) := by decide +kernel
theorem dX7_digestOf_8 : decode cX7_digestOf 8 = .ok (.getfield 18, 3) := by decide +kernel
theorem dX7_digestOf_11 : decode cX7_digestOf 11 = .ok (.iload_n 1, 1) := by decide +kernel
theorem dX7_digestOf_12 : decode cX7_digestOf 12 = .ok (.iaload, 1) := by decide +kernel
theorem dX7_digestOf_13 : decode cX7_digestOf 13 = .ok (.goto 4, 3) := by decide +kernel
theorem dX7_digestOf_16 : decode cX7_digestOf 16 = .ok (.iconst 0, 1) := by decide +kernel
theorem dX7_digestOf_17 : decode cX7_digestOf 17 = .ok (.ireturn, 1) := by decide +kernel
theorem dX7_hideNothing_0 : decode cX7_hideNothing 0 = .ok (.aload_n 0, 1) := by decide +kernel
theorem dX7_hideNothing_1 : decode cX7_hideNothing 1 = .ok (.getfield 21, 3) := by decide +kernel
theorem dX7_hideNothing_4 : decode cX7_hideNothing 4 = .ok (.iconst 0, 1) := by decide +kernel
theorem dX7_hideNothing_5 : decode cX7_hideNothing 5 = .ok (.invokestatic 46, 3) := by decide +kernel
theorem dX7_hideNothing_8 : decode cX7_hideNothing 8 = .ok (.return_, 1) := by decide +kernel
theorem dX7_hide_0 : decode cX7_hide 0 = .ok (.iload_n 1, 1) := by decide +kernel
theorem dX7_hide_1 : decode cX7_hide 1 = .ok (.ifCond .lt 16, 3) := by decide +kernel
theorem dX7_hide_4 : decode cX7_hide 4 = .ok (.iload_n 1, 1) := by decide +kernel
theorem dX7_hide_5 : decode cX7_hide 5 = .ok (.bipush 100, 2) := by decide +kernel
theorem dX7_hide_7 : decode cX7_hide 7 = .ok (.if_icmp .gt 10, 3) := by decide +kernel
theorem dX7_hide_10 : decode cX7_hide 10 = .ok (.aload_n 0, 1) := by decide +kernel
theorem dX7_hide_11 : decode cX7_hide 11 = .ok (.getfield 21, 3) := by decide +kernel
theorem dX7_hide_14 : decode cX7_hide 14 = .ok (.iload_n 1, 1) := by decide +kernel
theorem dX7_hide_15 : decode cX7_hide 15 = .ok (.iload_n 2, 1) := by decide +kernel
theorem dX7_hide_16 : decode cX7_hide 16 = .ok (.iastore, 1) := by decide +kernel
theorem dX7_hide_17 : decode cX7_hide 17 = .ok (.return_, 1) := by decide +kernel
theorem dX7_grow_0 : decode cX7_grow 0 = .ok (.aload_n 0, 1) := by decide +kernel
theorem dX7_grow_1 : decode cX7_grow 1 = .ok (.getfield 18, 3) := by decide +kernel
theorem dX7_grow_4 : decode cX7_grow 4 = .ok (.iconst 0, 1) := by decide +kernel
theorem dX7_grow_5 : decode cX7_grow 5 = .ok (.invokestatic 46, 3) := by decide +kernel
theorem dX7_grow_8 : decode cX7_grow 8 = .ok (.aload_n 0, 1) := by decide +kernel
theorem dX7_grow_9 : decode cX7_grow 9 = .ok (.iconst 0, 1) := by decide +kernel
theorem dX7_grow_10 : decode cX7_grow 10 = .ok (.putfield 52, 3) := by decide +kernel
theorem dX7_grow_13 : decode cX7_grow 13 = .ok (.iconst 0, 1) := by decide +kernel
theorem dX7_grow_14 : decode cX7_grow 14 = .ok (.istore_n 2, 1) := by decide +kernel
theorem dX7_grow_15 : decode cX7_grow 15 = .ok (.iload_n 2, 1) := by decide +kernel
theorem dX7_grow_16 : decode cX7_grow 16 = .ok (.bipush 100, 2) := by decide +kernel
theorem dX7_grow_18 : decode cX7_grow 18 = .ok (.if_icmp .ge 58, 3) := by decide +kernel
theorem dX7_grow_21 : decode cX7_grow 21 = .ok (.aload_n 1, 1) := by decide +kernel
theorem dX7_grow_22 : decode cX7_grow 22 = .ok (.iload_n 2, 1) := by decide +kernel
theorem dX7_grow_23 : decode cX7_grow 23 = .ok (.invokevirtual 55, 3) := by decide +kernel
theorem dX7_grow_26 : decode cX7_grow 26 = .ok (.ifCond .eq 44, 3) := by decide +kernel
theorem dX7_grow_29 : decode cX7_grow 29 = .ok (.aload_n 0, 1) := by decide +kernel
theorem dX7_grow_30 : decode cX7_grow 30 = .ok (.getfield 9, 3) := by decide +kernel
theorem dX7_grow_33 : decode cX7_grow 33 = .ok (.iload_n 2, 1) := by decide +kernel
theorem dX7_grow_34 : decode cX7_grow 34 = .ok (.aload_n 0, 1) := by decide +kernel
theorem dX7_grow_35 : decode cX7_grow 35 = .ok (.iload_n 2, 1) := by decide +kernel
theorem dX7_grow_36 : decode cX7_grow 36 = .ok (.aload_n 1, 1) := by decide +kernel
theorem dX7_grow_37 : decode cX7_grow 37 = .ok (.invokevirtual 60, 3) := by decide +kernel
theorem dX7_grow_40 : decode cX7_grow 40 = .ok (.iastore, 1) := by decide +kernel
theorem dX7_grow_41 : decode cX7_grow 41 = .ok (.aload_n 0, 1) := by decide +kernel
theorem dX7_grow_42 : decode cX7_grow 42 = .ok (.getfield 52, 3) := by decide +kernel
theorem dX7_grow_45 : decode cX7_grow 45 = .ok (.bipush 100, 2) := by decide +kernel
theorem dX7_grow_47 : decode cX7_grow 47 = .ok (.if_icmp .ge 23, 3) := by decide +kernel
theorem dX7_grow_50 : decode cX7_grow 50 = .ok (.aload_n 0, 1) := by decide +kernel
theorem dX7_grow_51 : decode cX7_grow 51 = .ok (.getfield 24, 3) := by decide +kernel
theorem dX7_grow_54 : decode cX7_grow 54 = .ok (.aload_n 0, 1) := by decide +kernel
theorem dX7_grow_55 : decode cX7_grow 55 = .ok (.getfield 52, 3) := by decide +kernel
theorem dX7_grow_58 : decode cX7_grow 58 = .ok (.iload_n 2, 1) := by decide +kernel
theorem dX7_grow_59 : decode cX7_grow 59 = .ok (.iastore, 1) := by decide +kernel
theorem dX7_grow_60 : decode cX7_grow 60 = .ok (.aload_n 0, 1) := by decide +kernel
theorem dX7_grow_61 : decode cX7_grow 61 = .ok (.dup, 1) := by decide +kernel
theorem dX7_grow_62 : decode cX7_grow 62 = .ok (.getfield 52, 3) := by decide +kernel
theorem dX7_grow_65 : decode cX7_grow 65 = .ok (.iconst 1, 1) := by decide +kernel
theorem dX7_grow_66 : decode cX7_grow 66 = .ok (.iadd, 1) := by decide +kernel
theorem dX7_grow_67 : decode cX7_grow 67 = .ok (.putfield 52, 3) := by decide +kernel
theorem dX7_grow_70 : decode cX7_grow 70 = .ok (.iinc 2 1, 3) := by decide +kernel
theorem dX7_grow_73 : decode cX7_grow 73 = .ok (.goto (-58), 3) := by decide +kernel
theorem dX7_grow_76 : decode cX7_grow 76 = .ok (.aload_n 0, 1) := by decide +kernel
theorem dX7_grow_77 : decode cX7_grow 77 = .ok (.aload_n 0, 1) := by decide +kernel
theorem dX7_grow_78 : decode cX7_grow 78 = .ok (.bipush 100, 2) := by decide +kernel
theorem dX7_grow_80 : decode cX7_grow 80 = .ok (.aload_n 1, 1) := by decide +kernel
theorem dX7_grow_81 : decode cX7_grow 81 = .ok (.invokevirtual 60, 3) := by decide +kernel
theorem dX7_grow_84 : decode cX7_grow 84 = .ok (.putfield 27, 3) := by decide +kernel
theorem dX7_grow_87 : decode cX7_grow 87 = .ok (.return_, 1) := by decide +kernel
theorem dX7_closeBefore_0 : decode cX7_closeBefore 0 = .ok (.bipush (-9), 2) := by decide +kernel
theorem dX7_closeBefore_2 : decode cX7_closeBefore 2 = .ok (.istore_n 3, 1) := by decide +kernel
theorem dX7_closeBefore_3 : decode cX7_closeBefore 3 = .ok (.iconst 0, 1) := by decide +kernel
theorem dX7_closeBefore_4 : decode cX7_closeBefore 4 = .ok (.istore 4, 2) := by decide +kernel
theorem dX7_closeBefore_6 : decode cX7_closeBefore 6 = .ok (.iload 4, 2) := by decide +kernel
theorem dX7_closeBefore_8 : decode cX7_closeBefore 8 = .ok (.bipush 100, 2) := by decide +kernel
theorem dX7_closeBefore_10 : decode cX7_closeBefore 10 = .ok (.if_icmp .ge 114, 3) := by decide +kernel
theorem dX7_closeBefore_13 : decode cX7_closeBefore 13 = .ok (.aload_n 0, 1) := by decide +kernel
theorem dX7_closeBefore_14 : decode cX7_closeBefore 14 = .ok (.getfield 52, 3) := by decide +kernel
theorem dX7_closeBefore_17 : decode cX7_closeBefore 17 = .ok (.ifCond .le 107, 3) := by decide +kernel
theorem dX7_closeBefore_20 : decode cX7_closeBefore 20 = .ok (.aload_n 0, 1) := by decide +kernel
theorem dX7_closeBefore_21 : decode cX7_closeBefore 21 = .ok (.getfield 24, 3) := by decide +kernel
theorem dX7_closeBefore_24 : decode cX7_closeBefore 24 = .ok (.aload_n 0, 1) := by decide +kernel
theorem dX7_closeBefore_25 : decode cX7_closeBefore 25 = .ok (.getfield 52, 3) := by decide +kernel
theorem dX7_closeBefore_28 : decode cX7_closeBefore 28 = .ok (.iconst 1, 1) := by decide +kernel
theorem dX7_closeBefore_29 : decode cX7_closeBefore 29 = .ok (.isub, 1) := by decide +kernel
theorem dX7_closeBefore_30 : decode cX7_closeBefore 30 = .ok (.iaload, 1) := by decide +kernel
theorem dX7_closeBefore_31 : decode cX7_closeBefore 31 = .ok (.istore 5, 2) := by decide +kernel
theorem dX7_closeBefore_33 : decode cX7_closeBefore 33 = .ok (.iload 5, 2) := by decide +kernel
theorem dX7_closeBefore_35 : decode cX7_closeBefore 35 = .ok (.invokestatic 42, 3) := by decide +kernel
theorem dX7_closeBefore_38 : decode cX7_closeBefore 38 = .ok (.ifCond .eq 86, 3) := by decide +kernel
theorem dX7_closeBefore_41 : decode cX7_closeBefore 41 = .ok (.iload_n 1, 1) := by decide +kernel
theorem dX7_closeBefore_42 : decode cX7_closeBefore 42 = .ok (.invokestatic 42, 3) := by decide +kernel
theorem dX7_closeBefore_45 : decode cX7_closeBefore 45 = .ok (.ifCond .eq 15, 3) := by decide +kernel
theorem dX7_closeBefore_48 : decode cX7_closeBefore 48 = .ok (.iload 5, 2) := by decide +kernel
theorem dX7_closeBefore_50 : decode cX7_closeBefore 50 = .ok (.iload_n 1, 1) := by decide +kernel
theorem dX7_closeBefore_51 : decode cX7_closeBefore 51 = .ok (.invokestatic 64, 3) := by decide +kernel
theorem dX7_closeBefore_54 : decode cX7_closeBefore 54 = .ok (.ifCond .eq 6, 3) := by decide +kernel
theorem dX7_closeBefore_57 : decode cX7_closeBefore 57 = .ok (.goto 67, 3) := by decide +kernel
theorem dX7_closeBefore_60 : decode cX7_closeBefore 60 = .ok (.aload_n 0, 1) := by decide +kernel
theorem dX7_closeBefore_61 : decode cX7_closeBefore 61 = .ok (.dup, 1) := by decide +kernel
theorem dX7_closeBefore_62 : decode cX7_closeBefore 62 = .ok (.getfield 52, 3) := by decide +kernel
theorem dX7_closeBefore_65 : decode cX7_closeBefore 65 = .ok (.iconst 1, 1) := by decide +kernel
theorem dX7_closeBefore_66 : decode cX7_closeBefore 66 = .ok (.isub, 1) := by decide +kernel
theorem dX7_closeBefore_67 : decode cX7_closeBefore 67 = .ok (.putfield 52, 3) := by decide +kernel
theorem dX7_closeBefore_70 : decode cX7_closeBefore 70 = .ok (.aload_n 0, 1) := by decide +kernel
theorem dX7_closeBefore_71 : decode cX7_closeBefore 71 = .ok (.getfield 15, 3) := by decide +kernel
theorem dX7_closeBefore_74 : decode cX7_closeBefore 74 = .ok (.iload 5, 2) := by decide +kernel
theorem dX7_closeBefore_76 : decode cX7_closeBefore 76 = .ok (.iload_n 3, 1) := by decide +kernel
theorem dX7_closeBefore_77 : decode cX7_closeBefore 77 = .ok (.iastore, 1) := by decide +kernel
theorem dX7_closeBefore_78 : decode cX7_closeBefore 78 = .ok (.aload_n 0, 1) := by decide +kernel
theorem dX7_closeBefore_79 : decode cX7_closeBefore 79 = .ok (.getfield 18, 3) := by decide +kernel
theorem dX7_closeBefore_82 : decode cX7_closeBefore 82 = .ok (.iload 5, 2) := by decide +kernel
theorem dX7_closeBefore_84 : decode cX7_closeBefore 84 = .ok (.iload 5, 2) := by decide +kernel
theorem dX7_closeBefore_86 : decode cX7_closeBefore 86 = .ok (.aload_n 2, 1) := by decide +kernel
theorem dX7_closeBefore_87 : decode cX7_closeBefore 87 = .ok (.iload 5, 2) := by decide +kernel
theorem dX7_closeBefore_89 : decode cX7_closeBefore 89 = .ok (.invokevirtual 68, 3) := by decide +kernel
theorem dX7_closeBefore_92 : decode cX7_closeBefore 92 = .ok (.aload_n 0, 1) := by decide +kernel
theorem dX7_closeBefore_93 : decode cX7_closeBefore 93 = .ok (.aload_n 0, 1) := by decide +kernel
theorem dX7_closeBefore_94 : decode cX7_closeBefore 94 = .ok (.getfield 9, 3) := by decide +kernel
theorem dX7_closeBefore_97 : decode cX7_closeBefore 97 = .ok (.iload 5, 2) := by decide +kernel
theorem dX7_closeBefore_99 : decode cX7_closeBefore 99 = .ok (.iaload, 1) := by decide +kernel
theorem dX7_closeBefore_100 : decode cX7_closeBefore 100 = .ok (.iload 5, 2) := by decide +kernel
theorem dX7_closeBefore_102 : decode cX7_closeBefore 102 = .ok (.invokevirtual 38, 3) := by decide +kernel
theorem dX7_closeBefore_105 : decode cX7_closeBefore 105 = .ok (.aload_n 0, 1) := by decide +kernel
theorem dX7_closeBefore_106 : decode cX7_closeBefore 106 = .ok (.iload_n 3, 1) := by decide +kernel
theorem dX7_closeBefore_107 : decode cX7_closeBefore 107 = .ok (.iload_n 1, 1) := by decide +kernel
theorem dX7_closeBefore_108 : decode cX7_closeBefore 108 = .ok (.invokevirtual 38, 3) := by decide +kernel
theorem dX7_closeBefore_111 : decode cX7_closeBefore 111 = .ok (.invokestatic 72, 3) := by decide +kernel
theorem dX7_closeBefore_114 : decode cX7_closeBefore 114 = .ok (.iastore, 1) := by decide +kernel
theorem dX7_closeBefore_115 : decode cX7_closeBefore 115 = .ok (.iload 5, 2) := by decide +kernel
theorem dX7_closeBefore_117 : decode cX7_closeBefore 117 = .ok (.istore_n 3, 1) := by decide +kernel
theorem dX7_closeBefore_118 : decode cX7_closeBefore 118 = .ok (.iinc 4 1, 3) := by decide +kernel
theorem dX7_closeBefore_121 : decode cX7_closeBefore 121 = .ok (.goto (-115), 3) := by decide +kernel
theorem dX7_closeBefore_124 : decode cX7_closeBefore 124 = .ok (.iload_n 3, 1) := by decide +kernel
theorem dX7_closeBefore_125 : decode cX7_closeBefore 125 = .ok (.ireturn, 1) := by decide +kernel
theorem dX7_digestOr_0 : decode cX7_digestOr 0 = .ok (.iload_n 1, 1) := by decide +kernel
theorem dX7_digestOr_1 : decode cX7_digestOr 1 = .ok (.invokestatic 42, 3) := by decide +kernel
theorem dX7_digestOr_4 : decode cX7_digestOr 4 = .ok (.ifCond .eq 10, 3) := by decide +kernel
theorem dX7_digestOr_7 : decode cX7_digestOr 7 = .ok (.aload_n 0, 1) := by decide +kernel
theorem dX7_digestOr_8 : decode cX7_digestOr 8 = .ok (.getfield 18, 3) := by decide +kernel
theorem dX7_digestOr_11 : decode cX7_digestOr 11 = .ok (.iload_n 1, 1) := by decide +kernel
theorem dX7_digestOr_12 : decode cX7_digestOr 12 = .ok (.iaload, 1) := by decide +kernel
theorem dX7_digestOr_13 : decode cX7_digestOr 13 = .ok (.ireturn, 1) := by decide +kernel
theorem dX7_digestOr_14 : decode cX7_digestOr 14 = .ok (.iload_n 2, 1) := by decide +kernel
theorem dX7_digestOr_15 : decode cX7_digestOr 15 = .ok (.ifCond .lt 18, 3) := by decide +kernel
theorem dX7_digestOr_18 : decode cX7_digestOr 18 = .ok (.iload_n 2, 1) := by decide +kernel
theorem dX7_digestOr_19 : decode cX7_digestOr 19 = .ok (.bipush 100, 2) := by decide +kernel
theorem dX7_digestOr_21 : decode cX7_digestOr 21 = .ok (.if_icmp .gt 12, 3) := by decide +kernel
theorem dX7_digestOr_24 : decode cX7_digestOr 24 = .ok (.aload_n 0, 1) := by decide +kernel
theorem dX7_digestOr_25 : decode cX7_digestOr 25 = .ok (.getfield 21, 3) := by decide +kernel
theorem dX7_digestOr_28 : decode cX7_digestOr 28 = .ok (.iload_n 2, 1) := by decide +kernel
theorem dX7_digestOr_29 : decode cX7_digestOr 29 = .ok (.iaload, 1) := by decide +kernel
theorem dX7_digestOr_30 : decode cX7_digestOr 30 = .ok (.goto 4, 3) := by decide +kernel
theorem dX7_digestOr_33 : decode cX7_digestOr 33 = .ok (.iconst 0, 1) := by decide +kernel
theorem dX7_digestOr_34 : decode cX7_digestOr 34 = .ok (.ireturn, 1) := by decide +kernel
theorem dX7_childTowards_0 : decode cX7_childTowards 0 = .ok (.iload_n 2, 1) := by decide +kernel
theorem dX7_childTowards_1 : decode cX7_childTowards 1 = .ok (.iload_n 1, 1) := by decide +kernel
theorem dX7_childTowards_2 : decode cX7_childTowards 2 = .ok (.if_icmp .ne 6, 3) := by decide +kernel
theorem dX7_childTowards_5 : decode cX7_childTowards 5 = .ok (.bipush (-9), 2) := by decide +kernel
theorem dX7_childTowards_7 : decode cX7_childTowards 7 = .ok (.ireturn, 1) := by decide +kernel
theorem dX7_childTowards_8 : decode cX7_childTowards 8 = .ok (.iload_n 2, 1) := by decide +kernel
theorem dX7_childTowards_9 : decode cX7_childTowards 9 = .ok (.iload_n 1, 1) := by decide +kernel
theorem dX7_childTowards_10 : decode cX7_childTowards 10 = .ok (.if_icmp .ge 11, 3) := by decide +kernel
theorem dX7_childTowards_13 : decode cX7_childTowards 13 = .ok (.aload_n 0, 1) := by decide +kernel
theorem dX7_childTowards_14 : decode cX7_childTowards 14 = .ok (.iload_n 1, 1) := by decide +kernel
theorem dX7_childTowards_15 : decode cX7_childTowards 15 = .ok (.invokevirtual 76, 3) := by decide +kernel
theorem dX7_childTowards_18 : decode cX7_childTowards 18 = .ok (.goto 8, 3) := by decide +kernel
theorem dX7_childTowards_21 : decode cX7_childTowards 21 = .ok (.aload_n 0, 1) := by decide +kernel
theorem dX7_childTowards_22 : decode cX7_childTowards 22 = .ok (.iload_n 1, 1) := by decide +kernel
theorem dX7_childTowards_23 : decode cX7_childTowards 23 = .ok (.invokevirtual 79, 3) := by decide +kernel
theorem dX7_childTowards_26 : decode cX7_childTowards 26 = .ok (.ireturn, 1) := by decide +kernel
theorem dX7_countNodesAround_0 : decode cX7_countNodesAround 0 = .ok (.iconst 0, 1) := by decide +kernel
theorem dX7_countNodesAround_1 : decode cX7_countNodesAround 1 = .ok (.istore_n 2, 1) := by decide +kernel
theorem dX7_countNodesAround_2 : decode cX7_countNodesAround 2 = .ok (.aload_n 0, 1) := by decide +kernel
theorem dX7_countNodesAround_3 : decode cX7_countNodesAround 3 = .ok (.getfield 27, 3) := by decide +kernel
theorem dX7_countNodesAround_6 : decode cX7_countNodesAround 6 = .ok (.istore_n 3, 1) := by decide +kernel
theorem dX7_countNodesAround_7 : decode cX7_countNodesAround 7 = .ok (.iconst 0, 1) := by decide +kernel
theorem dX7_countNodesAround_8 : decode cX7_countNodesAround 8 = .ok (.istore 4, 2) := by decide +kernel
theorem dX7_countNodesAround_10 : decode cX7_countNodesAround 10 = .ok (.iload 4, 2) := by decide +kernel
theorem dX7_countNodesAround_12 : decode cX7_countNodesAround 12 = .ok (.bipush 100, 2) := by decide +kernel
theorem dX7_countNodesAround_14 : decode cX7_countNodesAround 14 = .ok (.if_icmp .ge 26, 3) := by decide +kernel
theorem dX7_countNodesAround_17 : decode cX7_countNodesAround 17 = .ok (.iload_n 3, 1) := by decide +kernel
theorem dX7_countNodesAround_18 : decode cX7_countNodesAround 18 = .ok (.invokestatic 42, 3) := by decide +kernel
theorem dX7_countNodesAround_21 : decode cX7_countNodesAround 21 = .ok (.ifCond .eq 19, 3) := by decide +kernel
theorem dX7_countNodesAround_24 : decode cX7_countNodesAround 24 = .ok (.iinc 2 1, 3) := by decide +kernel
theorem dX7_countNodesAround_27 : decode cX7_countNodesAround 27 = .ok (.aload_n 0, 1) := by decide +kernel
theorem dX7_countNodesAround_28 : decode cX7_countNodesAround 28 = .ok (.iload_n 3, 1) := by decide +kernel
theorem dX7_countNodesAround_29 : decode cX7_countNodesAround 29 = .ok (.iload_n 1, 1) := by decide +kernel
theorem dX7_countNodesAround_30 : decode cX7_countNodesAround 30 = .ok (.invokevirtual 82, 3) := by decide +kernel
theorem dX7_countNodesAround_33 : decode cX7_countNodesAround 33 = .ok (.istore_n 3, 1) := by decide +kernel
theorem dX7_countNodesAround_34 : decode cX7_countNodesAround 34 = .ok (.iinc 4 1, 3) := by decide +kernel
theorem dX7_countNodesAround_37 : decode cX7_countNodesAround 37 = .ok (.goto (-27), 3) := by decide +kernel
theorem dX7_countNodesAround_40 : decode cX7_countNodesAround 40 = .ok (.iload_n 2, 1) := by decide +kernel
theorem dX7_countNodesAround_41 : decode cX7_countNodesAround 41 = .ok (.ireturn, 1) := by decide +kernel
theorem dX7_proofLengthOf_0 : decode cX7_proofLengthOf 0 = .ok (.iconst 2, 1) := by decide +kernel
theorem dX7_proofLengthOf_1 : decode cX7_proofLengthOf 1 = .ok (.aload_n 0, 1) := by decide +kernel
theorem dX7_proofLengthOf_2 : decode cX7_proofLengthOf 2 = .ok (.iload_n 1, 1) := by decide +kernel
theorem dX7_proofLengthOf_3 : decode cX7_proofLengthOf 3 = .ok (.invokevirtual 85, 3) := by decide +kernel
theorem dX7_proofLengthOf_6 : decode cX7_proofLengthOf 6 = .ok (.imul, 1) := by decide +kernel
theorem dX7_proofLengthOf_7 : decode cX7_proofLengthOf 7 = .ok (.iconst 1, 1) := by decide +kernel
theorem dX7_proofLengthOf_8 : decode cX7_proofLengthOf 8 = .ok (.iadd, 1) := by decide +kernel
theorem dX7_proofLengthOf_9 : decode cX7_proofLengthOf 9 = .ok (.ireturn, 1) := by decide +kernel
theorem dX7_height_0 : decode cX7_height 0 = .ok (.iconst 0, 1) := by decide +kernel
theorem dX7_height_1 : decode cX7_height 1 = .ok (.istore_n 1, 1) := by decide +kernel
theorem dX7_height_2 : decode cX7_height 2 = .ok (.iconst 0, 1) := by decide +kernel
theorem dX7_height_3 : decode cX7_height 3 = .ok (.istore_n 2, 1) := by decide +kernel
theorem dX7_height_4 : decode cX7_height 4 = .ok (.iload_n 2, 1) := by decide +kernel
theorem dX7_height_5 : decode cX7_height 5 = .ok (.bipush 100, 2) := by decide +kernel
theorem dX7_height_7 : decode cX7_height 7 = .ok (.if_icmp .ge 19, 3) := by decide +kernel
theorem dX7_height_10 : decode cX7_height 10 = .ok (.iload_n 1, 1) := by decide +kernel
theorem dX7_height_11 : decode cX7_height 11 = .ok (.aload_n 0, 1) := by decide +kernel
theorem dX7_height_12 : decode cX7_height 12 = .ok (.iload_n 2, 1) := by decide +kernel
theorem dX7_height_13 : decode cX7_height 13 = .ok (.invokevirtual 85, 3) := by decide +kernel
theorem dX7_height_16 : decode cX7_height 16 = .ok (.invokestatic 88, 3) := by decide +kernel
theorem dX7_height_19 : decode cX7_height 19 = .ok (.istore_n 1, 1) := by decide +kernel
theorem dX7_height_20 : decode cX7_height 20 = .ok (.iinc 2 1, 3) := by decide +kernel
theorem dX7_height_23 : decode cX7_height 23 = .ok (.goto (-19), 3) := by decide +kernel
theorem dX7_height_26 : decode cX7_height 26 = .ok (.iload_n 1, 1) := by decide +kernel
theorem dX7_height_27 : decode cX7_height 27 = .ok (.ireturn, 1) := by decide +kernel
theorem dX7_placeOf_0 : decode cX7_placeOf 0 = .ok (.iconst 0, 1) := by decide +kernel
theorem dX7_placeOf_1 : decode cX7_placeOf 1 = .ok (.istore_n 2, 1) := by decide +kernel
theorem dX7_placeOf_2 : decode cX7_placeOf 2 = .ok (.bipush (-9), 2) := by decide +kernel
theorem dX7_placeOf_4 : decode cX7_placeOf 4 = .ok (.istore_n 3, 1) := by decide +kernel
theorem dX7_placeOf_5 : decode cX7_placeOf 5 = .ok (.iconst 0, 1) := by decide +kernel
theorem dX7_placeOf_6 : decode cX7_placeOf 6 = .ok (.istore 4, 2) := by decide +kernel
theorem dX7_placeOf_8 : decode cX7_placeOf 8 = .ok (.bipush 99, 2) := by decide +kernel
theorem dX7_placeOf_10 : decode cX7_placeOf 10 = .ok (.istore 5, 2) := by decide +kernel
theorem dX7_placeOf_12 : decode cX7_placeOf 12 = .ok (.aload_n 0, 1) := by decide +kernel
theorem dX7_placeOf_13 : decode cX7_placeOf 13 = .ok (.getfield 27, 3) := by decide +kernel
theorem dX7_placeOf_16 : decode cX7_placeOf 16 = .ok (.istore 6, 2) := by decide +kernel
theorem dX7_placeOf_18 : decode cX7_placeOf 18 = .ok (.iconst 0, 1) := by decide +kernel
theorem dX7_placeOf_19 : decode cX7_placeOf 19 = .ok (.istore 7, 2) := by decide +kernel
theorem dX7_placeOf_21 : decode cX7_placeOf 21 = .ok (.iload 7, 2) := by decide +kernel
theorem dX7_placeOf_23 : decode cX7_placeOf 23 = .ok (.bipush 100, 2) := by decide +kernel
theorem dX7_placeOf_25 : decode cX7_placeOf 25 = .ok (.if_icmp .ge 59, 3) := by decide +kernel
theorem dX7_placeOf_28 : decode cX7_placeOf 28 = .ok (.iload 6, 2) := by decide +kernel
theorem dX7_placeOf_30 : decode cX7_placeOf 30 = .ok (.invokestatic 42, 3) := by decide +kernel
theorem dX7_placeOf_33 : decode cX7_placeOf 33 = .ok (.ifCond .eq 51, 3) := by decide +kernel
theorem dX7_placeOf_36 : decode cX7_placeOf 36 = .ok (.iload 6, 2) := by decide +kernel
theorem dX7_placeOf_38 : decode cX7_placeOf 38 = .ok (.iload_n 1, 1) := by decide +kernel
theorem dX7_placeOf_39 : decode cX7_placeOf 39 = .ok (.if_icmp .eq 45, 3) := by decide +kernel
theorem dX7_placeOf_42 : decode cX7_placeOf 42 = .ok (.iinc 2 1, 3) := by decide +kernel
theorem dX7_placeOf_45 : decode cX7_placeOf 45 = .ok (.iload 6, 2) := by decide +kernel
theorem dX7_placeOf_47 : decode cX7_placeOf 47 = .ok (.istore_n 3, 1) := by decide +kernel
theorem dX7_placeOf_48 : decode cX7_placeOf 48 = .ok (.iload_n 1, 1) := by decide +kernel
theorem dX7_placeOf_49 : decode cX7_placeOf 49 = .ok (.iload 6, 2) := by decide +kernel
theorem dX7_placeOf_51 : decode cX7_placeOf 51 = .ok (.if_icmp .ge 12, 3) := by decide +kernel
theorem dX7_placeOf_54 : decode cX7_placeOf 54 = .ok (.iload 6, 2) := by decide +kernel
theorem dX7_placeOf_56 : decode cX7_placeOf 56 = .ok (.iconst 1, 1) := by decide +kernel
theorem dX7_placeOf_57 : decode cX7_placeOf 57 = .ok (.isub, 1) := by decide +kernel
theorem dX7_placeOf_58 : decode cX7_placeOf 58 = .ok (.istore 5, 2) := by decide +kernel
theorem dX7_placeOf_60 : decode cX7_placeOf 60 = .ok (.goto 9, 3) := by decide +kernel
theorem dX7_placeOf_63 : decode cX7_placeOf 63 = .ok (.iload 6, 2) := by decide +kernel
theorem dX7_placeOf_65 : decode cX7_placeOf 65 = .ok (.iconst 1, 1) := by decide +kernel
theorem dX7_placeOf_66 : decode cX7_placeOf 66 = .ok (.iadd, 1) := by decide +kernel
theorem dX7_placeOf_67 : decode cX7_placeOf 67 = .ok (.istore 4, 2) := by decide +kernel
theorem dX7_placeOf_69 : decode cX7_placeOf 69 = .ok (.aload_n 0, 1) := by decide +kernel
theorem dX7_placeOf_70 : decode cX7_placeOf 70 = .ok (.iload 6, 2) := by decide +kernel
theorem dX7_placeOf_72 : decode cX7_placeOf 72 = .ok (.iload_n 1, 1) := by decide +kernel
theorem dX7_placeOf_73 : decode cX7_placeOf 73 = .ok (.invokevirtual 82, 3) := by decide +kernel
theorem dX7_placeOf_76 : decode cX7_placeOf 76 = .ok (.istore 6, 2) := by decide +kernel
theorem dX7_placeOf_78 : decode cX7_placeOf 78 = .ok (.iinc 7 1, 3) := by decide +kernel
theorem dX7_placeOf_81 : decode cX7_placeOf 81 = .ok (.goto (-60), 3) := by decide +kernel
theorem dX7_placeOf_84 : decode cX7_placeOf 84 = .ok (.new 93, 3) := by decide +kernel
theorem dX7_placeOf_87 : decode cX7_placeOf 87 = .ok (.dup, 1) := by decide +kernel
theorem dX7_placeOf_88 : decode cX7_placeOf 88 = .ok (.iload_n 2, 1) := by decide +kernel
theorem dX7_placeOf_89 : decode cX7_placeOf 89 = .ok (.iload_n 3, 1) := by decide +kernel
theorem dX7_placeOf_90 : decode cX7_placeOf 90 = .ok (.iload 4, 2) := by decide +kernel
theorem dX7_placeOf_92 : decode cX7_placeOf 92 = .ok (.iload 5, 2) := by decide +kernel
theorem dX7_placeOf_94 : decode cX7_placeOf 94 = .ok (.invokespecial 95, 3) := by decide +kernel
theorem dX7_placeOf_97 : decode cX7_placeOf 97 = .ok (.areturn, 1) := by decide +kernel
theorem dX7_isLike_0 : decode cX7_isLike 0 = .ok (.aload_n 0, 1) := by decide +kernel
theorem dX7_isLike_1 : decode cX7_isLike 1 = .ok (.iload_n 1, 1) := by decide +kernel
theorem dX7_isLike_2 : decode cX7_isLike 2 = .ok (.invokevirtual 98, 3) := by decide +kernel
theorem dX7_isLike_5 : decode cX7_isLike 5 = .ok (.ifCond .eq 20, 3) := by decide +kernel
theorem dX7_isLike_8 : decode cX7_isLike 8 = .ok (.aload_n 0, 1) := by decide +kernel
theorem dX7_isLike_9 : decode cX7_isLike 9 = .ok (.iload_n 1, 1) := by decide +kernel
theorem dX7_isLike_10 : decode cX7_isLike 10 = .ok (.invokevirtual 98, 3) := by decide +kernel
theorem dX7_isLike_13 : decode cX7_isLike 13 = .ok (.aload_n 2, 1) := by decide +kernel
theorem dX7_isLike_14 : decode cX7_isLike 14 = .ok (.iload_n 1, 1) := by decide +kernel
theorem dX7_isLike_15 : decode cX7_isLike 15 = .ok (.invokevirtual 98, 3) := by decide +kernel
theorem dX7_isLike_18 : decode cX7_isLike 18 = .ok (.if_icmp .ne 7, 3) := by decide +kernel
theorem dX7_isLike_21 : decode cX7_isLike 21 = .ok (.iconst 1, 1) := by decide +kernel
theorem dX7_isLike_22 : decode cX7_isLike 22 = .ok (.goto 4, 3) := by decide +kernel
theorem dX7_isLike_25 : decode cX7_isLike 25 = .ok (.iconst 0, 1) := by decide +kernel
theorem dX7_isLike_26 : decode cX7_isLike 26 = .ok (.ireturn, 1) := by decide +kernel
theorem dX7_isFirstLike_0 : decode cX7_isFirstLike 0 = .ok (.aload_n 0, 1) := by decide +kernel
theorem dX7_isFirstLike_1 : decode cX7_isFirstLike 1 = .ok (.getfield 27, 3) := by decide +kernel
theorem dX7_isFirstLike_4 : decode cX7_isFirstLike 4 = .ok (.istore_n 3, 1) := by decide +kernel
theorem dX7_isFirstLike_5 : decode cX7_isFirstLike 5 = .ok (.iconst 0, 1) := by decide +kernel
theorem dX7_isFirstLike_6 : decode cX7_isFirstLike 6 = .ok (.istore 4, 2) := by decide +kernel
theorem dX7_isFirstLike_8 : decode cX7_isFirstLike 8 = .ok (.iload 4, 2) := by decide +kernel
theorem dX7_isFirstLike_10 : decode cX7_isFirstLike 10 = .ok (.bipush 100, 2) := by decide +kernel
theorem dX7_isFirstLike_12 : decode cX7_isFirstLike 12 = .ok (.if_icmp .ge 39, 3) := by decide +kernel
theorem dX7_isFirstLike_15 : decode cX7_isFirstLike 15 = .ok (.iload_n 3, 1) := by decide +kernel
theorem dX7_isFirstLike_16 : decode cX7_isFirstLike 16 = .ok (.invokestatic 42, 3) := by decide +kernel
theorem dX7_isFirstLike_19 : decode cX7_isFirstLike 19 = .ok (.ifCond .eq 32, 3) := by decide +kernel
theorem dX7_isFirstLike_22 : decode cX7_isFirstLike 22 = .ok (.iload_n 3, 1) := by decide +kernel
theorem dX7_isFirstLike_23 : decode cX7_isFirstLike 23 = .ok (.iload_n 1, 1) := by decide +kernel
theorem dX7_isFirstLike_24 : decode cX7_isFirstLike 24 = .ok (.if_icmp .eq 27, 3) := by decide +kernel
theorem dX7_isFirstLike_27 : decode cX7_isFirstLike 27 = .ok (.aload_n 0, 1) := by decide +kernel
theorem dX7_isFirstLike_28 : decode cX7_isFirstLike 28 = .ok (.iload_n 3, 1) := by decide +kernel
theorem dX7_isFirstLike_29 : decode cX7_isFirstLike 29 = .ok (.aload_n 2, 1) := by decide +kernel
theorem dX7_isFirstLike_30 : decode cX7_isFirstLike 30 = .ok (.invokevirtual 101, 3) := by decide +kernel
theorem dX7_isFirstLike_33 : decode cX7_isFirstLike 33 = .ok (.ifCond .eq 5, 3) := by decide +kernel
theorem dX7_isFirstLike_36 : decode cX7_isFirstLike 36 = .ok (.iconst 0, 1) := by decide +kernel
theorem dX7_isFirstLike_37 : decode cX7_isFirstLike 37 = .ok (.ireturn, 1) := by decide +kernel
theorem dX7_isFirstLike_38 : decode cX7_isFirstLike 38 = .ok (.aload_n 0, 1) := by decide +kernel
theorem dX7_isFirstLike_39 : decode cX7_isFirstLike 39 = .ok (.iload_n 3, 1) := by decide +kernel
theorem dX7_isFirstLike_40 : decode cX7_isFirstLike 40 = .ok (.iload_n 1, 1) := by decide +kernel
theorem dX7_isFirstLike_41 : decode cX7_isFirstLike 41 = .ok (.invokevirtual 82, 3) := by decide +kernel
theorem dX7_isFirstLike_44 : decode cX7_isFirstLike 44 = .ok (.istore_n 3, 1) := by decide +kernel
theorem dX7_isFirstLike_45 : decode cX7_isFirstLike 45 = .ok (.iinc 4 1, 3) := by decide +kernel
theorem dX7_isFirstLike_48 : decode cX7_isFirstLike 48 = .ok (.goto (-40), 3) := by decide +kernel
theorem dX7_isFirstLike_51 : decode cX7_isFirstLike 51 = .ok (.iload_n 3, 1) := by decide +kernel
theorem dX7_isFirstLike_52 : decode cX7_isFirstLike 52 = .ok (.iload_n 1, 1) := by decide +kernel
theorem dX7_isFirstLike_53 : decode cX7_isFirstLike 53 = .ok (.if_icmp .ne 16, 3) := by decide +kernel
theorem dX7_isFirstLike_56 : decode cX7_isFirstLike 56 = .ok (.aload_n 0, 1) := by decide +kernel
theorem dX7_isFirstLike_57 : decode cX7_isFirstLike 57 = .ok (.iload_n 1, 1) := by decide +kernel
theorem dX7_isFirstLike_58 : decode cX7_isFirstLike 58 = .ok (.aload_n 2, 1) := by decide +kernel
theorem dX7_isFirstLike_59 : decode cX7_isFirstLike 59 = .ok (.invokevirtual 101, 3) := by decide +kernel
theorem dX7_isFirstLike_62 : decode cX7_isFirstLike 62 = .ok (.ifCond .eq 7, 3) := by decide +kernel
theorem dX7_isFirstLike_65 : decode cX7_isFirstLike 65 = .ok (.iconst 1, 1) := by decide +kernel
theorem dX7_isFirstLike_66 : decode cX7_isFirstLike 66 = .ok (.goto 4, 3) := by decide +kernel
theorem dX7_isFirstLike_69 : decode cX7_isFirstLike 69 = .ok (.iconst 0, 1) := by decide +kernel
theorem dX7_isFirstLike_70 : decode cX7_isFirstLike 70 = .ok (.ireturn, 1) := by decide +kernel
theorem dX7_writeProof_0 : decode cX7_writeProof 0 = .ok (.aload 4, 2) := by decide +kernel
theorem dX7_writeProof_2 : decode cX7_writeProof 2 = .ok (.iconst 0, 1) := by decide +kernel
theorem dX7_writeProof_3 : decode cX7_writeProof 3 = .ok (.invokevirtual 105, 3) := by decide +kernel
theorem dX7_writeProof_6 : decode cX7_writeProof 6 = .ok (.aload_n 0, 1) := by decide +kernel
theorem dX7_writeProof_7 : decode cX7_writeProof 7 = .ok (.getfield 34, 3) := by decide +kernel
theorem dX7_writeProof_10 : decode cX7_writeProof 10 = .ok (.invokevirtual 111, 3) := by decide +kernel
theorem dX7_writeProof_13 : decode cX7_writeProof 13 = .ok (.aload_n 0, 1) := by decide +kernel
theorem dX7_writeProof_14 : decode cX7_writeProof 14 = .ok (.getfield 27, 3) := by decide +kernel
theorem dX7_writeProof_17 : decode cX7_writeProof 17 = .ok (.istore 5, 2) := by decide +kernel
theorem dX7_writeProof_19 : decode cX7_writeProof 19 = .ok (.iconst 0, 1) := by decide +kernel
theorem dX7_writeProof_20 : decode cX7_writeProof 20 = .ok (.istore 6, 2) := by decide +kernel
theorem dX7_writeProof_22 : decode cX7_writeProof 22 = .ok (.bipush 99, 2) := by decide +kernel
theorem dX7_writeProof_24 : decode cX7_writeProof 24 = .ok (.istore 7, 2) := by decide +kernel
theorem dX7_writeProof_26 : decode cX7_writeProof 26 = .ok (.iconst 0, 1) := by decide +kernel
theorem dX7_writeProof_27 : decode cX7_writeProof 27 = .ok (.istore 8, 2) := by decide +kernel
theorem dX7_writeProof_29 : decode cX7_writeProof 29 = .ok (.iload 8, 2) := by decide +kernel
theorem dX7_writeProof_31 : decode cX7_writeProof 31 = .ok (.bipush 100, 2) := by decide +kernel
theorem dX7_writeProof_33 : decode cX7_writeProof 33 = .ok (.if_icmp .ge 130, 3) := by decide +kernel
theorem dX7_writeProof_36 : decode cX7_writeProof 36 = .ok (.iload 5, 2) := by decide +kernel
theorem dX7_writeProof_38 : decode cX7_writeProof 38 = .ok (.invokestatic 42, 3) := by decide +kernel
theorem dX7_writeProof_41 : decode cX7_writeProof 41 = .ok (.ifCond .eq 59, 3) := by decide +kernel
theorem dX7_writeProof_44 : decode cX7_writeProof 44 = .ok (.iload 6, 2) := by decide +kernel
theorem dX7_writeProof_46 : decode cX7_writeProof 46 = .ok (.iload_n 3, 1) := by decide +kernel
theorem dX7_writeProof_47 : decode cX7_writeProof 47 = .ok (.if_icmp .gt 53, 3) := by decide +kernel
theorem dX7_writeProof_50 : decode cX7_writeProof 50 = .ok (.iload_n 2, 1) := by decide +kernel
theorem dX7_writeProof_51 : decode cX7_writeProof 51 = .ok (.iload 7, 2) := by decide +kernel
theorem dX7_writeProof_53 : decode cX7_writeProof 53 = .ok (.if_icmp .gt 47, 3) := by decide +kernel
theorem dX7_writeProof_56 : decode cX7_writeProof 56 = .ok (.aload 4, 2) := by decide +kernel
theorem dX7_writeProof_58 : decode cX7_writeProof 58 = .ok (.iload 5, 2) := by decide +kernel
theorem dX7_writeProof_60 : decode cX7_writeProof 60 = .ok (.aload_n 1, 1) := by decide +kernel
theorem dX7_writeProof_61 : decode cX7_writeProof 61 = .ok (.iload 5, 2) := by decide +kernel
theorem dX7_writeProof_63 : decode cX7_writeProof 63 = .ok (.invokevirtual 68, 3) := by decide +kernel
theorem dX7_writeProof_66 : decode cX7_writeProof 66 = .ok (.invokestatic 114, 3) := by decide +kernel
theorem dX7_writeProof_69 : decode cX7_writeProof 69 = .ok (.invokevirtual 117, 3) := by decide +kernel
theorem dX7_writeProof_72 : decode cX7_writeProof 72 = .ok (.aload_n 0, 1) := by decide +kernel
theorem dX7_writeProof_73 : decode cX7_writeProof 73 = .ok (.getfield 34, 3) := by decide +kernel
theorem dX7_writeProof_76 : decode cX7_writeProof 76 = .ok (.iload 5, 2) := by decide +kernel
theorem dX7_writeProof_78 : decode cX7_writeProof 78 = .ok (.iload 7, 2) := by decide +kernel
theorem dX7_writeProof_80 : decode cX7_writeProof 80 = .ok (.invokevirtual 120, 3) := by decide +kernel
theorem dX7_writeProof_83 : decode cX7_writeProof 83 = .ok (.iload 5, 2) := by decide +kernel
theorem dX7_writeProof_85 : decode cX7_writeProof 85 = .ok (.iconst 1, 1) := by decide +kernel
theorem dX7_writeProof_86 : decode cX7_writeProof 86 = .ok (.isub, 1) := by decide +kernel
theorem dX7_writeProof_87 : decode cX7_writeProof 87 = .ok (.istore 7, 2) := by decide +kernel
theorem dX7_writeProof_89 : decode cX7_writeProof 89 = .ok (.aload_n 0, 1) := by decide +kernel
theorem dX7_writeProof_90 : decode cX7_writeProof 90 = .ok (.iload 5, 2) := by decide +kernel
theorem dX7_writeProof_92 : decode cX7_writeProof 92 = .ok (.invokevirtual 76, 3) := by decide +kernel
theorem dX7_writeProof_95 : decode cX7_writeProof 95 = .ok (.istore 5, 2) := by decide +kernel
theorem dX7_writeProof_97 : decode cX7_writeProof 97 = .ok (.goto 60, 3) := by decide +kernel
theorem dX7_writeProof_100 : decode cX7_writeProof 100 = .ok (.aload 4, 2) := by decide +kernel
theorem dX7_writeProof_102 : decode cX7_writeProof 102 = .ok (.aload_n 0, 1) := by decide +kernel
theorem dX7_writeProof_103 : decode cX7_writeProof 103 = .ok (.iload 5, 2) := by decide +kernel
theorem dX7_writeProof_105 : decode cX7_writeProof 105 = .ok (.invokevirtual 98, 3) := by decide +kernel
theorem dX7_writeProof_108 : decode cX7_writeProof 108 = .ok (.invokevirtual 117, 3) := by decide +kernel
theorem dX7_writeProof_111 : decode cX7_writeProof 111 = .ok (.aload_n 0, 1) := by decide +kernel
theorem dX7_writeProof_112 : decode cX7_writeProof 112 = .ok (.getfield 34, 3) := by decide +kernel
theorem dX7_writeProof_115 : decode cX7_writeProof 115 = .ok (.invokevirtual 124, 3) := by decide +kernel
theorem dX7_writeProof_118 : decode cX7_writeProof 118 = .ok (.ifCond .ne 6, 3) := by decide +kernel
theorem dX7_writeProof_121 : decode cX7_writeProof 121 = .ok (.goto 42, 3) := by decide +kernel
theorem dX7_writeProof_124 : decode cX7_writeProof 124 = .ok (.aload_n 0, 1) := by decide +kernel
theorem dX7_writeProof_125 : decode cX7_writeProof 125 = .ok (.aload_n 0, 1) := by decide +kernel
theorem dX7_writeProof_126 : decode cX7_writeProof 126 = .ok (.getfield 34, 3) := by decide +kernel
theorem dX7_writeProof_129 : decode cX7_writeProof 129 = .ok (.invokevirtual 128, 3) := by decide +kernel
theorem dX7_writeProof_132 : decode cX7_writeProof 132 = .ok (.invokevirtual 79, 3) := by decide +kernel
theorem dX7_writeProof_135 : decode cX7_writeProof 135 = .ok (.istore 5, 2) := by decide +kernel
theorem dX7_writeProof_137 : decode cX7_writeProof 137 = .ok (.aload_n 0, 1) := by decide +kernel
theorem dX7_writeProof_138 : decode cX7_writeProof 138 = .ok (.getfield 34, 3) := by decide +kernel
theorem dX7_writeProof_141 : decode cX7_writeProof 141 = .ok (.invokevirtual 128, 3) := by decide +kernel
theorem dX7_writeProof_144 : decode cX7_writeProof 144 = .ok (.iconst 1, 1) := by decide +kernel
theorem dX7_writeProof_145 : decode cX7_writeProof 145 = .ok (.iadd, 1) := by decide +kernel
theorem dX7_writeProof_146 : decode cX7_writeProof 146 = .ok (.istore 6, 2) := by decide +kernel
theorem dX7_writeProof_148 : decode cX7_writeProof 148 = .ok (.aload_n 0, 1) := by decide +kernel
theorem dX7_writeProof_149 : decode cX7_writeProof 149 = .ok (.getfield 34, 3) := by decide +kernel
theorem dX7_writeProof_152 : decode cX7_writeProof 152 = .ok (.invokevirtual 132, 3) := by decide +kernel
theorem dX7_writeProof_155 : decode cX7_writeProof 155 = .ok (.istore 7, 2) := by decide +kernel
theorem dX7_writeProof_157 : decode cX7_writeProof 157 = .ok (.iinc 8 1, 3) := by decide +kernel
theorem dX7_writeProof_160 : decode cX7_writeProof 160 = .ok (.goto (-131), 3) := by decide +kernel
theorem dX7_writeProof_163 : decode cX7_writeProof 163 = .ok (.return_, 1) := by decide +kernel
theorem dX8_init_0 : decode cX8_init 0 = .ok (.aload_n 0, 1) := by decide +kernel
theorem dX8_init_1 : decode cX8_init 1 = .ok (.invokespecial 3, 3) := by decide +kernel
theorem dX8_init_4 : decode cX8_init 4 = .ok (.aload_n 0, 1) := by decide +kernel
theorem dX8_init_5 : decode cX8_init 5 = .ok (.new 9, 3) := by decide +kernel
theorem dX8_init_8 : decode cX8_init 8 = .ok (.dup, 1) := by decide +kernel
theorem dX8_init_9 : decode cX8_init 9 = .ok (.invokespecial 11, 3) := by decide +kernel
theorem dX8_init_12 : decode cX8_init 12 = .ok (.putfield 12, 3) := by decide +kernel
theorem dX8_init_15 : decode cX8_init 15 = .ok (.aload_n 0, 1) := by decide +kernel
theorem dX8_init_16 : decode cX8_init 16 = .ok (.new 16, 3) := by decide +kernel
theorem dX8_init_19 : decode cX8_init 19 = .ok (.dup, 1) := by decide +kernel
theorem dX8_init_20 : decode cX8_init 20 = .ok (.invokespecial 18, 3) := by decide +kernel
theorem dX8_init_23 : decode cX8_init 23 = .ok (.putfield 19, 3) := by decide +kernel
theorem dX8_init_26 : decode cX8_init 26 = .ok (.aload_n 0, 1) := by decide +kernel
theorem dX8_init_27 : decode cX8_init 27 = .ok (.new 23, 3) := by decide +kernel
theorem dX8_init_30 : decode cX8_init 30 = .ok (.dup, 1) := by decide +kernel
theorem dX8_init_31 : decode cX8_init 31 = .ok (.invokespecial 25, 3) := by decide +kernel
theorem dX8_init_34 : decode cX8_init 34 = .ok (.putfield 26, 3) := by decide +kernel
theorem dX8_init_37 : decode cX8_init 37 = .ok (.aload_n 0, 1) := by decide +kernel
theorem dX8_init_38 : decode cX8_init 38 = .ok (.new 30, 3) := by decide +kernel
theorem dX8_init_41 : decode cX8_init 41 = .ok (.dup, 1) := by decide +kernel
theorem dX8_init_42 : decode cX8_init 42 = .ok (.invokespecial 32, 3) := by decide +kernel
theorem dX8_init_45 : decode cX8_init 45 = .ok (.putfield 33, 3) := by decide +kernel
theorem dX8_init_48 : decode cX8_init 48 = .ok (.aload_n 0, 1) := by decide +kernel
theorem dX8_init_49 : decode cX8_init 49 = .ok (.iconst 2, 1) := by decide +kernel
theorem dX8_init_50 : decode cX8_init 50 = .ok (.anewarray 37, 3) := by decide +kernel
theorem dX8_init_53 : decode cX8_init 53 = .ok (.putfield 39, 3) := by decide +kernel
theorem dX8_init_56 : decode cX8_init 56 = .ok (.aload_n 0, 1) := by decide +kernel
theorem dX8_init_57 : decode cX8_init 57 = .ok (.new 9, 3) := by decide +kernel
theorem dX8_init_60 : decode cX8_init 60 = .ok (.dup, 1) := by decide +kernel
theorem dX8_init_61 : decode cX8_init 61 = .ok (.invokespecial 11, 3) := by decide +kernel
theorem dX8_init_64 : decode cX8_init 64 = .ok (.putfield 43, 3) := by decide +kernel
theorem dX8_init_67 : decode cX8_init 67 = .ok (.aload_n 0, 1) := by decide +kernel
theorem dX8_init_68 : decode cX8_init 68 = .ok (.new 16, 3) := by decide +kernel
theorem dX8_init_71 : decode cX8_init 71 = .ok (.dup, 1) := by decide +kernel
theorem dX8_init_72 : decode cX8_init 72 = .ok (.invokespecial 18, 3) := by decide +kernel
theorem dX8_init_75 : decode cX8_init 75 = .ok (.putfield 46, 3) := by decide +kernel
theorem dX8_init_78 : decode cX8_init 78 = .ok (.aload_n 0, 1) := by decide +kernel
theorem dX8_init_79 : decode cX8_init 79 = .ok (.new 49, 3) := by decide +kernel
theorem dX8_init_82 : decode cX8_init 82 = .ok (.dup, 1) := by decide +kernel
theorem dX8_init_83 : decode cX8_init 83 = .ok (.invokespecial 51, 3) := by decide +kernel
theorem dX8_init_86 : decode cX8_init 86 = .ok (.putfield 52, 3) := by decide +kernel
theorem dX8_init_89 : decode cX8_init 89 = .ok (.iconst 0, 1) := by decide +kernel
theorem dX8_init_90 : decode cX8_init 90 = .ok (.istore_n 1, 1) := by decide +kernel
theorem dX8_init_91 : decode cX8_init 91 = .ok (.iload_n 1, 1) := by decide +kernel
theorem dX8_init_92 : decode cX8_init 92 = .ok (.iconst 2, 1) := by decide +kernel
theorem dX8_init_93 : decode cX8_init 93 = .ok (.if_icmp .ge 22, 3) := by decide +kernel
theorem dX8_init_96 : decode cX8_init 96 = .ok (.aload_n 0, 1) := by decide +kernel
theorem dX8_init_97 : decode cX8_init 97 = .ok (.getfield 39, 3) := by decide +kernel
theorem dX8_init_100 : decode cX8_init 100 = .ok (.iload_n 1, 1) := by decide +kernel
theorem dX8_init_101 : decode cX8_init 101 = .ok (.new 37, 3) := by decide +kernel
theorem dX8_init_104 : decode cX8_init 104 = .ok (.dup, 1) := by decide +kernel
theorem dX8_init_105 : decode cX8_init 105 = .ok (.invokespecial 56, 3) := by decide +kernel
theorem dX8_init_108 : decode cX8_init 108 = .ok (.aastore, 1) := by decide +kernel
theorem dX8_init_109 : decode cX8_init 109 = .ok (.iinc 1 1, 3) := by decide +kernel
theorem dX8_init_112 : decode cX8_init 112 = .ok (.goto (-21), 3) := by decide +kernel
theorem dX8_init_115 : decode cX8_init 115 = .ok (.return_, 1) := by decide +kernel
theorem dX8_put_0 : decode cX8_put 0 = .ok (.iload_n 1, 1) := by decide +kernel
theorem dX8_put_1 : decode cX8_put 1 = .ok (.invokestatic 57, 3) := by decide +kernel
theorem dX8_put_4 : decode cX8_put 4 = .ok (.ifCond .eq 10, 3) := by decide +kernel
theorem dX8_put_7 : decode cX8_put 7 = .ok (.iload_n 2, 1) := by decide +kernel
theorem dX8_put_8 : decode cX8_put 8 = .ok (.invokestatic 57, 3) := by decide +kernel
theorem dX8_put_11 : decode cX8_put 11 = .ok (.ifCond .ne 6, 3) := by decide +kernel
theorem dX8_put_14 : decode cX8_put 14 = .ok (.bipush (-2), 2) := by decide +kernel
theorem dX8_put_16 : decode cX8_put 16 = .ok (.ireturn, 1) := by decide +kernel
theorem dX8_put_17 : decode cX8_put 17 = .ok (.aload_n 0, 1) := by decide +kernel
theorem dX8_put_18 : decode cX8_put 18 = .ok (.getfield 12, 3) := by decide +kernel
theorem dX8_put_21 : decode cX8_put 21 = .ok (.iload_n 1, 1) := by decide +kernel
theorem dX8_put_22 : decode cX8_put 22 = .ok (.invokevirtual 61, 3) := by decide +kernel
theorem dX8_put_25 : decode cX8_put 25 = .ok (.ifCond .ne 6, 3) := by decide +kernel
theorem dX8_put_28 : decode cX8_put 28 = .ok (.bipush (-4), 2) := by decide +kernel
theorem dX8_put_30 : decode cX8_put 30 = .ok (.ireturn, 1) := by decide +kernel
theorem dX8_put_31 : decode cX8_put 31 = .ok (.aload_n 0, 1) := by decide +kernel
theorem dX8_put_32 : decode cX8_put 32 = .ok (.getfield 12, 3) := by decide +kernel
theorem dX8_put_35 : decode cX8_put 35 = .ok (.iload_n 1, 1) := by decide +kernel
theorem dX8_put_36 : decode cX8_put 36 = .ok (.invokevirtual 64, 3) := by decide +kernel
theorem dX8_put_39 : decode cX8_put 39 = .ok (.istore_n 3, 1) := by decide +kernel
theorem dX8_put_40 : decode cX8_put 40 = .ok (.aload_n 0, 1) := by decide +kernel
theorem dX8_put_41 : decode cX8_put 41 = .ok (.getfield 26, 3) := by decide +kernel
theorem dX8_put_44 : decode cX8_put 44 = .ok (.aload_n 0, 1) := by decide +kernel
theorem dX8_put_45 : decode cX8_put 45 = .ok (.getfield 12, 3) := by decide +kernel
theorem dX8_put_48 : decode cX8_put 48 = .ok (.invokevirtual 68, 3) := by decide +kernel
theorem dX8_put_51 : decode cX8_put 51 = .ok (.aload_n 0, 1) := by decide +kernel
theorem dX8_put_52 : decode cX8_put 52 = .ok (.getfield 12, 3) := by decide +kernel
theorem dX8_put_55 : decode cX8_put 55 = .ok (.iload_n 1, 1) := by decide +kernel
theorem dX8_put_56 : decode cX8_put 56 = .ok (.iload_n 2, 1) := by decide +kernel
theorem dX8_put_57 : decode cX8_put 57 = .ok (.invokevirtual 72, 3) := by decide +kernel
theorem dX8_put_60 : decode cX8_put 60 = .ok (.aload_n 0, 1) := by decide +kernel
theorem dX8_put_61 : decode cX8_put 61 = .ok (.getfield 19, 3) := by decide +kernel
theorem dX8_put_64 : decode cX8_put 64 = .ok (.aload_n 0, 1) := by decide +kernel
theorem dX8_put_65 : decode cX8_put 65 = .ok (.getfield 12, 3) := by decide +kernel
theorem dX8_put_68 : decode cX8_put 68 = .ok (.invokevirtual 76, 3) := by decide +kernel
theorem dX8_put_71 : decode cX8_put 71 = .ok (.iload_n 3, 1) := by decide +kernel
theorem dX8_put_72 : decode cX8_put 72 = .ok (.ireturn, 1) := by decide +kernel
theorem dX8_remove_0 : decode cX8_remove 0 = .ok (.iload_n 1, 1) := by decide +kernel
theorem dX8_remove_1 : decode cX8_remove 1 = .ok (.invokestatic 57, 3) := by decide +kernel
theorem dX8_remove_4 : decode cX8_remove 4 = .ok (.ifCond .ne 6, 3) := by decide +kernel
theorem dX8_remove_7 : decode cX8_remove 7 = .ok (.bipush (-2), 2) := by decide +kernel
theorem dX8_remove_9 : decode cX8_remove 9 = .ok (.ireturn, 1) := by decide +kernel
theorem dX8_remove_10 : decode cX8_remove 10 = .ok (.aload_n 0, 1) := by decide +kernel
theorem dX8_remove_11 : decode cX8_remove 11 = .ok (.getfield 12, 3) := by decide +kernel
theorem dX8_remove_14 : decode cX8_remove 14 = .ok (.iload_n 1, 1) := by decide +kernel
theorem dX8_remove_15 : decode cX8_remove 15 = .ok (.invokevirtual 79, 3) := by decide +kernel
theorem dX8_remove_18 : decode cX8_remove 18 = .ok (.ifCond .ne 5, 3) := by decide +kernel
theorem dX8_remove_21 : decode cX8_remove 21 = .ok (.iconst (-1), 1) := by decide +kernel
theorem dX8_remove_22 : decode cX8_remove 22 = .ok (.ireturn, 1) := by decide +kernel
theorem dX8_remove_23 : decode cX8_remove 23 = .ok (.aload_n 0, 1) := by decide +kernel
theorem dX8_remove_24 : decode cX8_remove 24 = .ok (.getfield 12, 3) := by decide +kernel
theorem dX8_remove_27 : decode cX8_remove 27 = .ok (.iload_n 1, 1) := by decide +kernel
theorem dX8_remove_28 : decode cX8_remove 28 = .ok (.invokevirtual 64, 3) := by decide +kernel
theorem dX8_remove_31 : decode cX8_remove 31 = .ok (.istore_n 2, 1) := by decide +kernel
theorem dX8_remove_32 : decode cX8_remove 32 = .ok (.aload_n 0, 1) := by decide +kernel
theorem dX8_remove_33 : decode cX8_remove 33 = .ok (.getfield 26, 3) := by decide +kernel
theorem dX8_remove_36 : decode cX8_remove 36 = .ok (.aload_n 0, 1) := by decide +kernel
theorem dX8_remove_37 : decode cX8_remove 37 = .ok (.getfield 12, 3) := by decide +kernel
theorem dX8_remove_40 : decode cX8_remove 40 = .ok (.invokevirtual 68, 3) := by decide +kernel
theorem dX8_remove_43 : decode cX8_remove 43 = .ok (.aload_n 0, 1) := by decide +kernel
theorem dX8_remove_44 : decode cX8_remove 44 = .ok (.getfield 12, 3) := by decide +kernel
theorem dX8_remove_47 : decode cX8_remove 47 = .ok (.iload_n 1, 1) := by decide +kernel
theorem dX8_remove_48 : decode cX8_remove 48 = .ok (.invokevirtual 82, 3) := by decide +kernel
theorem dX8_remove_51 : decode cX8_remove 51 = .ok (.aload_n 0, 1) := by decide +kernel
theorem dX8_remove_52 : decode cX8_remove 52 = .ok (.getfield 19, 3) := by decide +kernel
theorem dX8_remove_55 : decode cX8_remove 55 = .ok (.aload_n 0, 1) := by decide +kernel
theorem dX8_remove_56 : decode cX8_remove 56 = .ok (.getfield 12, 3) := by decide +kernel
theorem dX8_remove_59 : decode cX8_remove 59 = .ok (.invokevirtual 76, 3) := by decide +kernel
theorem dX8_remove_62 : decode cX8_remove 62 = .ok (.iload_n 2, 1) := by decide +kernel
theorem dX8_remove_63 : decode cX8_remove 63 = .ok (.ireturn, 1) := by decide +kernel
theorem dX8_get_0 : decode cX8_get 0 = .ok (.iload_n 1, 1) := by decide +kernel
theorem dX8_get_1 : decode cX8_get 1 = .ok (.invokestatic 57, 3) := by decide +kernel
theorem dX8_get_4 : decode cX8_get 4 = .ok (.ifCond .eq 14, 3) := by decide +kernel
theorem dX8_get_7 : decode cX8_get 7 = .ok (.aload_n 0, 1) := by decide +kernel
theorem dX8_get_8 : decode cX8_get 8 = .ok (.getfield 12, 3) := by decide +kernel
theorem dX8_get_11 : decode cX8_get 11 = .ok (.iload_n 1, 1) := by decide +kernel
theorem dX8_get_12 : decode cX8_get 12 = .ok (.invokevirtual 64, 3) := by decide +kernel
theorem dX8_get_15 : decode cX8_get 15 = .ok (.goto 5, 3) := by decide +kernel
theorem dX8_get_18 : decode cX8_get 18 = .ok (.bipush (-2), 2) := by decide +kernel
theorem dX8_get_20 : decode cX8_get 20 = .ok (.ireturn, 1) := by decide +kernel
