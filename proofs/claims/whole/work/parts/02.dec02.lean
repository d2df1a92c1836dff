theorem dX8_scatter_0 : decode cX8_scatter 0 = .ok (.iload_n 1, 1) := by decide +kernel
theorem dX8_scatter_1 : decode cX8_scatter 1 = .ok (.iconst 1, 1) := by decide +kernel
theorem dX8_scatter_2 : decode cX8_scatter 2 = .ok (.if_icmp .lt 9, 3) := by decide +kernel
theorem dX8_scatter_5 : decode cX8_scatter 5 = .ok (.iload_n 1, 1) := by decide +kernel
theorem dX8_scatter_6 : decode cX8_scatter 6 = .ok (.bipush 20, 2) := by decide +kernel
theorem dX8_scatter_8 : decode cX8_scatter 8 = .ok (.if_icmp .le 6, 3) := by decide +kernel
theorem dX8_scatter_11 : decode cX8_scatter 11 = .ok (.bipush (-2), 2) := by decide +kernel
theorem dX8_scatter_13 : decode cX8_scatter 13 = .ok (.ireturn, 1) := by decide +kernel
theorem dX8_scatter_14 : decode cX8_scatter 14 = .ok (.aload_n 0, 1) := by decide +kernel
theorem dX8_scatter_15 : decode cX8_scatter 15 = .ok (.getfield 26, 3) := by decide +kernel
theorem dX8_scatter_18 : decode cX8_scatter 18 = .ok (.aload_n 0, 1) := by decide +kernel
theorem dX8_scatter_19 : decode cX8_scatter 19 = .ok (.getfield 12, 3) := by decide +kernel
theorem dX8_scatter_22 : decode cX8_scatter 22 = .ok (.invokevirtual 68, 3) := by decide +kernel
theorem dX8_scatter_25 : decode cX8_scatter 25 = .ok (.lload_n 2, 1) := by decide +kernel
theorem dX8_scatter_26 : decode cX8_scatter 26 = .ok (.lstore 4, 2) := by decide +kernel
theorem dX8_scatter_28 : decode cX8_scatter 28 = .ok (.iconst 0, 1) := by decide +kernel
theorem dX8_scatter_29 : decode cX8_scatter 29 = .ok (.istore 6, 2) := by decide +kernel
theorem dX8_scatter_31 : decode cX8_scatter 31 = .ok (.iload 6, 2) := by decide +kernel
theorem dX8_scatter_33 : decode cX8_scatter 33 = .ok (.iload_n 1, 1) := by decide +kernel
theorem dX8_scatter_34 : decode cX8_scatter 34 = .ok (.if_icmp .ge 66, 3) := by decide +kernel
theorem dX8_scatter_37 : decode cX8_scatter 37 = .ok (.lload 4, 2) := by decide +kernel
theorem dX8_scatter_39 : decode cX8_scatter 39 = .ok (.ldc2_w 86, 3) := by decide +kernel
theorem dX8_scatter_42 : decode cX8_scatter 42 = .ok (.lmul, 1) := by decide +kernel
theorem dX8_scatter_43 : decode cX8_scatter 43 = .ok (.ldc2_w 88, 3) := by decide +kernel
theorem dX8_scatter_46 : decode cX8_scatter 46 = .ok (.ladd, 1) := by decide +kernel
theorem dX8_scatter_47 : decode cX8_scatter 47 = .ok (.lstore 4, 2) := by decide +kernel
theorem dX8_scatter_49 : decode cX8_scatter 49 = .ok (.lload 4, 2) := by decide +kernel
theorem dX8_scatter_51 : decode cX8_scatter 51 = .ok (.bipush 33, 2) := by decide +kernel
theorem dX8_scatter_53 : decode cX8_scatter 53 = .ok (.lushr, 1) := by decide +kernel
theorem dX8_scatter_54 : decode cX8_scatter 54 = .ok (.l2i, 1) := by decide +kernel
theorem dX8_scatter_55 : decode cX8_scatter 55 = .ok (.istore 7, 2) := by decide +kernel
theorem dX8_scatter_57 : decode cX8_scatter 57 = .ok (.iload 7, 2) := by decide +kernel
theorem dX8_scatter_59 : decode cX8_scatter 59 = .ok (.bipush 100, 2) := by decide +kernel
theorem dX8_scatter_61 : decode cX8_scatter 61 = .ok (.irem, 1) := by decide +kernel
theorem dX8_scatter_62 : decode cX8_scatter 62 = .ok (.istore 8, 2) := by decide +kernel
theorem dX8_scatter_64 : decode cX8_scatter 64 = .ok (.aload_n 0, 1) := by decide +kernel
theorem dX8_scatter_65 : decode cX8_scatter 65 = .ok (.getfield 12, 3) := by decide +kernel
theorem dX8_scatter_68 : decode cX8_scatter 68 = .ok (.iload 8, 2) := by decide +kernel
theorem dX8_scatter_70 : decode cX8_scatter 70 = .ok (.invokevirtual 61, 3) := by decide +kernel
theorem dX8_scatter_73 : decode cX8_scatter 73 = .ok (.ifCond .eq 21, 3) := by decide +kernel
theorem dX8_scatter_76 : decode cX8_scatter 76 = .ok (.aload_n 0, 1) := by decide +kernel
theorem dX8_scatter_77 : decode cX8_scatter 77 = .ok (.getfield 12, 3) := by decide +kernel
theorem dX8_scatter_80 : decode cX8_scatter 80 = .ok (.iload 8, 2) := by decide +kernel
theorem dX8_scatter_82 : decode cX8_scatter 82 = .ok (.iload 7, 2) := by decide +kernel
theorem dX8_scatter_84 : decode cX8_scatter 84 = .ok (.sipush 128, 3) := by decide +kernel
theorem dX8_scatter_87 : decode cX8_scatter 87 = .ok (.idiv, 1) := by decide +kernel
theorem dX8_scatter_88 : decode cX8_scatter 88 = .ok (.bipush 100, 2) := by decide +kernel
theorem dX8_scatter_90 : decode cX8_scatter 90 = .ok (.irem, 1) := by decide +kernel
theorem dX8_scatter_91 : decode cX8_scatter 91 = .ok (.invokevirtual 72, 3) := by decide +kernel
theorem dX8_scatter_94 : decode cX8_scatter 94 = .ok (.iinc 6 1, 3) := by decide +kernel
theorem dX8_scatter_97 : decode cX8_scatter 97 = .ok (.goto (-66), 3) := by decide +kernel
theorem dX8_scatter_100 : decode cX8_scatter 100 = .ok (.aload_n 0, 1) := by decide +kernel
theorem dX8_scatter_101 : decode cX8_scatter 101 = .ok (.getfield 19, 3) := by decide +kernel
theorem dX8_scatter_104 : decode cX8_scatter 104 = .ok (.aload_n 0, 1) := by decide +kernel
theorem dX8_scatter_105 : decode cX8_scatter 105 = .ok (.getfield 12, 3) := by decide +kernel
theorem dX8_scatter_108 : decode cX8_scatter 108 = .ok (.invokevirtual 76, 3) := by decide +kernel
theorem dX8_scatter_111 : decode cX8_scatter 111 = .ok (.aload_n 0, 1) := by decide +kernel
theorem dX8_scatter_112 : decode cX8_scatter 112 = .ok (.getfield 12, 3) := by decide +kernel
theorem dX8_scatter_115 : decode cX8_scatter 115 = .ok (.invokevirtual 90, 3) := by decide +kernel
theorem dX8_scatter_118 : decode cX8_scatter 118 = .ok (.ireturn, 1) := by decide +kernel
theorem dX8_undo_0 : decode cX8_undo 0 = .ok (.aload_n 0, 1) := by decide +kernel
theorem dX8_undo_1 : decode cX8_undo 1 = .ok (.getfield 26, 3) := by decide +kernel
theorem dX8_undo_4 : decode cX8_undo 4 = .ok (.invokevirtual 94, 3) := by decide +kernel
theorem dX8_undo_7 : decode cX8_undo 7 = .ok (.ifCond .ne 6, 3) := by decide +kernel
theorem dX8_undo_10 : decode cX8_undo 10 = .ok (.bipush (-3), 2) := by decide +kernel
theorem dX8_undo_12 : decode cX8_undo 12 = .ok (.ireturn, 1) := by decide +kernel
theorem dX8_undo_13 : decode cX8_undo 13 = .ok (.aload_n 0, 1) := by decide +kernel
theorem dX8_undo_14 : decode cX8_undo 14 = .ok (.getfield 26, 3) := by decide +kernel
theorem dX8_undo_17 : decode cX8_undo 17 = .ok (.aload_n 0, 1) := by decide +kernel
theorem dX8_undo_18 : decode cX8_undo 18 = .ok (.getfield 12, 3) := by decide +kernel
theorem dX8_undo_21 : decode cX8_undo 21 = .ok (.invokevirtual 95, 3) := by decide +kernel
theorem dX8_undo_24 : decode cX8_undo 24 = .ok (.aload_n 0, 1) := by decide +kernel
theorem dX8_undo_25 : decode cX8_undo 25 = .ok (.getfield 19, 3) := by decide +kernel
theorem dX8_undo_28 : decode cX8_undo 28 = .ok (.aload_n 0, 1) := by decide +kernel
theorem dX8_undo_29 : decode cX8_undo 29 = .ok (.getfield 12, 3) := by decide +kernel
theorem dX8_undo_32 : decode cX8_undo 32 = .ok (.invokevirtual 76, 3) := by decide +kernel
theorem dX8_undo_35 : decode cX8_undo 35 = .ok (.aload_n 0, 1) := by decide +kernel
theorem dX8_undo_36 : decode cX8_undo 36 = .ok (.getfield 26, 3) := by decide +kernel
theorem dX8_undo_39 : decode cX8_undo 39 = .ok (.invokevirtual 94, 3) := by decide +kernel
theorem dX8_undo_42 : decode cX8_undo 42 = .ok (.ireturn, 1) := by decide +kernel
theorem dX8_about_0 : decode cX8_about 0 = .ok (.iload_n 1, 1) := by decide +kernel
theorem dX8_about_1 : decode cX8_about 1 = .ok (.tableswitch 117 0 7 #[47, 55, 63, 71, 82, 90, 101, 109], 47) := by decide +kernel
theorem dX8_about_48 : decode cX8_about 48 = .ok (.aload_n 0, 1) := by decide +kernel
theorem dX8_about_49 : decode cX8_about 49 = .ok (.getfield 12, 3) := by decide +kernel
theorem dX8_about_52 : decode cX8_about 52 = .ok (.invokevirtual 90, 3) := by decide +kernel
theorem dX8_about_55 : decode cX8_about 55 = .ok (.ireturn, 1) := by decide +kernel
theorem dX8_about_56 : decode cX8_about 56 = .ok (.aload_n 0, 1) := by decide +kernel
theorem dX8_about_57 : decode cX8_about 57 = .ok (.getfield 19, 3) := by decide +kernel
theorem dX8_about_60 : decode cX8_about 60 = .ok (.invokevirtual 98, 3) := by decide +kernel
theorem dX8_about_63 : decode cX8_about 63 = .ok (.ireturn, 1) := by decide +kernel
theorem dX8_about_64 : decode cX8_about 64 = .ok (.aload_n 0, 1) := by decide +kernel
theorem dX8_about_65 : decode cX8_about 65 = .ok (.getfield 19, 3) := by decide +kernel
theorem dX8_about_68 : decode cX8_about 68 = .ok (.invokevirtual 101, 3) := by decide +kernel
theorem dX8_about_71 : decode cX8_about 71 = .ok (.ireturn, 1) := by decide +kernel
theorem dX8_about_72 : decode cX8_about 72 = .ok (.aload_n 0, 1) := by decide +kernel
theorem dX8_about_73 : decode cX8_about 73 = .ok (.getfield 12, 3) := by decide +kernel
theorem dX8_about_76 : decode cX8_about 76 = .ok (.iconst 0, 1) := by decide +kernel
theorem dX8_about_77 : decode cX8_about 77 = .ok (.bipush 99, 2) := by decide +kernel
theorem dX8_about_79 : decode cX8_about 79 = .ok (.invokevirtual 104, 3) := by decide +kernel
theorem dX8_about_82 : decode cX8_about 82 = .ok (.ireturn, 1) := by decide +kernel
theorem dX8_about_83 : decode cX8_about 83 = .ok (.aload_n 0, 1) := by decide +kernel
theorem dX8_about_84 : decode cX8_about 84 = .ok (.getfield 26, 3) := by decide +kernel
theorem dX8_about_87 : decode cX8_about 87 = .ok (.invokevirtual 94, 3) := by decide +kernel
theorem dX8_about_90 : decode cX8_about 90 = .ok (.ireturn, 1) := by decide +kernel
theorem dX8_about_91 : decode cX8_about 91 = .ok (.aload_n 0, 1) := by decide +kernel
theorem dX8_about_92 : decode cX8_about 92 = .ok (.getfield 33, 3) := by decide +kernel
theorem dX8_about_95 : decode cX8_about 95 = .ok (.invokevirtual 108, 3) := by decide +kernel
theorem dX8_about_98 : decode cX8_about 98 = .ok (.invokevirtual 112, 3) := by decide +kernel
theorem dX8_about_101 : decode cX8_about 101 = .ok (.ireturn, 1) := by decide +kernel
theorem dX8_about_102 : decode cX8_about 102 = .ok (.aload_n 0, 1) := by decide +kernel
theorem dX8_about_103 : decode cX8_about 103 = .ok (.getfield 33, 3) := by decide +kernel
theorem dX8_about_106 : decode cX8_about 106 = .ok (.invokevirtual 113, 3) := by decide +kernel
theorem dX8_about_109 : decode cX8_about 109 = .ok (.ireturn, 1) := by decide +kernel
theorem dX8_about_110 : decode cX8_about 110 = .ok (.aload_n 0, 1) := by decide +kernel
theorem dX8_about_111 : decode cX8_about 111 = .ok (.getfield 33, 3) := by decide +kernel
theorem dX8_about_114 : decode cX8_about 114 = .ok (.invokevirtual 116, 3) := by decide +kernel
theorem dX8_about_117 : decode cX8_about 117 = .ok (.ireturn, 1) := by decide +kernel
theorem dX8_about_118 : decode cX8_about 118 = .ok (.bipush (-2), 2) := by decide +kernel
theorem dX8_about_120 : decode cX8_about 120 = .ok (.ireturn, 1) := by decide +kernel
theorem dX8_node_0 : decode cX8_node 0 = .ok (.aload_n 0, 1) := by decide +kernel
theorem dX8_node_1 : decode cX8_node 1 = .ok (.getfield 12, 3) := by decide +kernel
theorem dX8_node_4 : decode cX8_node 4 = .ok (.iload_n 1, 1) := by decide +kernel
theorem dX8_node_5 : decode cX8_node 5 = .ok (.invokevirtual 79, 3) := by decide +kernel
theorem dX8_node_8 : decode cX8_node 8 = .ok (.ifCond .ne 5, 3) := by decide +kernel
theorem dX8_node_11 : decode cX8_node 11 = .ok (.iconst (-1), 1) := by decide +kernel
theorem dX8_node_12 : decode cX8_node 12 = .ok (.ireturn, 1) := by decide +kernel
theorem dX8_node_13 : decode cX8_node 13 = .ok (.aload_n 0, 1) := by decide +kernel
theorem dX8_node_14 : decode cX8_node 14 = .ok (.getfield 19, 3) := by decide +kernel
theorem dX8_node_17 : decode cX8_node 17 = .ok (.iload_n 1, 1) := by decide +kernel
theorem dX8_node_18 : decode cX8_node 18 = .ok (.invokevirtual 119, 3) := by decide +kernel
theorem dX8_node_21 : decode cX8_node 21 = .ok (.astore_n 3, 1) := by decide +kernel
theorem dX8_node_22 : decode cX8_node 22 = .ok (.iload_n 2, 1) := by decide +kernel
theorem dX8_node_23 : decode cX8_node 23 = .ok (.tableswitch 108 0 7 #[45, 50, 55, 64, 73, 89, 98, 103], 45) := by decide +kernel
theorem dX8_node_68 : decode cX8_node 68 = .ok (.aload_n 3, 1) := by decide +kernel
theorem dX8_node_69 : decode cX8_node 69 = .ok (.getfield 123, 3) := by decide +kernel
theorem dX8_node_72 : decode cX8_node 72 = .ok (.ireturn, 1) := by decide +kernel
theorem dX8_node_73 : decode cX8_node 73 = .ok (.aload_n 3, 1) := by decide +kernel
theorem dX8_node_74 : decode cX8_node 74 = .ok (.getfield 129, 3) := by decide +kernel
theorem dX8_node_77 : decode cX8_node 77 = .ok (.ireturn, 1) := by decide +kernel
theorem dX8_node_78 : decode cX8_node 78 = .ok (.aload_n 0, 1) := by decide +kernel
theorem dX8_node_79 : decode cX8_node 79 = .ok (.getfield 19, 3) := by decide +kernel
theorem dX8_node_82 : decode cX8_node 82 = .ok (.iload_n 1, 1) := by decide +kernel
theorem dX8_node_83 : decode cX8_node 83 = .ok (.invokevirtual 132, 3) := by decide +kernel
theorem dX8_node_86 : decode cX8_node 86 = .ok (.ireturn, 1) := by decide +kernel
theorem dX8_node_87 : decode cX8_node 87 = .ok (.aload_n 0, 1) := by decide +kernel
theorem dX8_node_88 : decode cX8_node 88 = .ok (.getfield 19, 3) := by decide +kernel
theorem dX8_node_91 : decode cX8_node 91 = .ok (.iload_n 1, 1) := by decide +kernel
theorem dX8_node_92 : decode cX8_node 92 = .ok (.invokevirtual 135, 3) := by decide +kernel
theorem dX8_node_95 : decode cX8_node 95 = .ok (.ireturn, 1) := by decide +kernel
theorem dX8_node_96 : decode cX8_node 96 = .ok (.aload_n 0, 1) := by decide +kernel
theorem dX8_node_97 : decode cX8_node 97 = .ok (.getfield 12, 3) := by decide +kernel
theorem dX8_node_100 : decode cX8_node 100 = .ok (.aload_n 3, 1) := by decide +kernel
theorem dX8_node_101 : decode cX8_node 101 = .ok (.getfield 138, 3) := by decide +kernel
theorem dX8_node_104 : decode cX8_node 104 = .ok (.aload_n 3, 1) := by decide +kernel
theorem dX8_node_105 : decode cX8_node 105 = .ok (.getfield 141, 3) := by decide +kernel
theorem dX8_node_108 : decode cX8_node 108 = .ok (.invokevirtual 144, 3) := by decide +kernel
theorem dX8_node_111 : decode cX8_node 111 = .ok (.ireturn, 1) := by decide +kernel
theorem dX8_node_112 : decode cX8_node 112 = .ok (.aload_n 0, 1) := by decide +kernel
theorem dX8_node_113 : decode cX8_node 113 = .ok (.getfield 19, 3) := by decide +kernel
theorem dX8_node_116 : decode cX8_node 116 = .ok (.iload_n 1, 1) := by decide +kernel
theorem dX8_node_117 : decode cX8_node 117 = .ok (.invokevirtual 147, 3) := by decide +kernel
theorem dX8_node_120 : decode cX8_node 120 = .ok (.ireturn, 1) := by decide +kernel
theorem dX8_node_121 : decode cX8_node 121 = .ok (.aload_n 3, 1) := by decide +kernel
theorem dX8_node_122 : decode cX8_node 122 = .ok (.getfield 138, 3) := by decide +kernel
theorem dX8_node_125 : decode cX8_node 125 = .ok (.ireturn, 1) := by decide +kernel
theorem dX8_node_126 : decode cX8_node 126 = .ok (.aload_n 3, 1) := by decide +kernel
theorem dX8_node_127 : decode cX8_node 127 = .ok (.getfield 141, 3) := by decide +kernel
theorem dX8_node_130 : decode cX8_node 130 = .ok (.ireturn, 1) := by decide +kernel
theorem dX8_node_131 : decode cX8_node 131 = .ok (.bipush (-2), 2) := by decide +kernel
theorem dX8_node_133 : decode cX8_node 133 = .ok (.ireturn, 1) := by decide +kernel
theorem dX8_rank_0 : decode cX8_rank 0 = .ok (.iload_n 1, 1) := by decide +kernel
theorem dX8_rank_1 : decode cX8_rank 1 = .ok (.invokestatic 57, 3) := by decide +kernel
theorem dX8_rank_4 : decode cX8_rank 4 = .ok (.ifCond .eq 10, 3) := by decide +kernel
theorem dX8_rank_7 : decode cX8_rank 7 = .ok (.iload_n 1, 1) := by decide +kernel
theorem dX8_rank_8 : decode cX8_rank 8 = .ok (.invokestatic 150, 3) := by decide +kernel
theorem dX8_rank_11 : decode cX8_rank 11 = .ok (.goto 5, 3) := by decide +kernel
theorem dX8_rank_14 : decode cX8_rank 14 = .ok (.bipush (-2), 2) := by decide +kernel
theorem dX8_rank_16 : decode cX8_rank 16 = .ok (.ireturn, 1) := by decide +kernel
theorem dX8_proof_0 : decode cX8_proof 0 = .ok (.iload_n 1, 1) := by decide +kernel
theorem dX8_proof_1 : decode cX8_proof 1 = .ok (.iload_n 2, 1) := by decide +kernel
theorem dX8_proof_2 : decode cX8_proof 2 = .ok (.invokestatic 153, 3) := by decide +kernel
theorem dX8_proof_5 : decode cX8_proof 5 = .ok (.ifCond .eq 12, 3) := by decide +kernel
theorem dX8_proof_8 : decode cX8_proof 8 = .ok (.iload_n 3, 1) := by decide +kernel
theorem dX8_proof_9 : decode cX8_proof 9 = .ok (.ifCond .lt 8, 3) := by decide +kernel
theorem dX8_proof_12 : decode cX8_proof 12 = .ok (.iload_n 3, 1) := by decide +kernel
theorem dX8_proof_13 : decode cX8_proof 13 = .ok (.iconst 2, 1) := by decide +kernel
theorem dX8_proof_14 : decode cX8_proof 14 = .ok (.if_icmp .le 6, 3) := by decide +kernel
theorem dX8_proof_17 : decode cX8_proof 17 = .ok (.bipush (-2), 2) := by decide +kernel
theorem dX8_proof_19 : decode cX8_proof 19 = .ok (.ireturn, 1) := by decide +kernel
theorem dX8_proof_20 : decode cX8_proof 20 = .ok (.aload_n 0, 1) := by decide +kernel
theorem dX8_proof_21 : decode cX8_proof 21 = .ok (.getfield 19, 3) := by decide +kernel
theorem dX8_proof_24 : decode cX8_proof 24 = .ok (.aload_n 0, 1) := by decide +kernel
theorem dX8_proof_25 : decode cX8_proof 25 = .ok (.getfield 12, 3) := by decide +kernel
theorem dX8_proof_28 : decode cX8_proof 28 = .ok (.iload_n 1, 1) := by decide +kernel
theorem dX8_proof_29 : decode cX8_proof 29 = .ok (.iload_n 2, 1) := by decide +kernel
theorem dX8_proof_30 : decode cX8_proof 30 = .ok (.aload_n 0, 1) := by decide +kernel
theorem dX8_proof_31 : decode cX8_proof 31 = .ok (.getfield 52, 3) := by decide +kernel
theorem dX8_proof_34 : decode cX8_proof 34 = .ok (.invokevirtual 157, 3) := by decide +kernel
theorem dX8_proof_37 : decode cX8_proof 37 = .ok (.iload_n 3, 1) := by decide +kernel
theorem dX8_proof_38 : decode cX8_proof 38 = .ok (.ifCond .ne 11, 3) := by decide +kernel
theorem dX8_proof_41 : decode cX8_proof 41 = .ok (.aload_n 0, 1) := by decide +kernel
theorem dX8_proof_42 : decode cX8_proof 42 = .ok (.getfield 52, 3) := by decide +kernel
theorem dX8_proof_45 : decode cX8_proof 45 = .ok (.invokevirtual 112, 3) := by decide +kernel
theorem dX8_proof_48 : decode cX8_proof 48 = .ok (.ireturn, 1) := by decide +kernel
theorem dX8_proof_49 : decode cX8_proof 49 = .ok (.iload_n 3, 1) := by decide +kernel
theorem dX8_proof_50 : decode cX8_proof 50 = .ok (.iconst 1, 1) := by decide +kernel
theorem dX8_proof_51 : decode cX8_proof 51 = .ok (.if_icmp .ne 13, 3) := by decide +kernel
theorem dX8_proof_54 : decode cX8_proof 54 = .ok (.aload_n 0, 1) := by decide +kernel
theorem dX8_proof_55 : decode cX8_proof 55 = .ok (.getfield 52, 3) := by decide +kernel
theorem dX8_proof_58 : decode cX8_proof 58 = .ok (.invokevirtual 161, 3) := by decide +kernel
theorem dX8_proof_61 : decode cX8_proof 61 = .ok (.goto 10, 3) := by decide +kernel
theorem dX8_proof_64 : decode cX8_proof 64 = .ok (.aload_n 0, 1) := by decide +kernel
theorem dX8_proof_65 : decode cX8_proof 65 = .ok (.getfield 52, 3) := by decide +kernel
theorem dX8_proof_68 : decode cX8_proof 68 = .ok (.invokevirtual 164, 3) := by decide +kernel
theorem dX8_proof_71 : decode cX8_proof 71 = .ok (.ireturn, 1) := by decide +kernel
theorem dX8_item_0 : decode cX8_item 0 = .ok (.iload_n 1, 1) := by decide +kernel
theorem dX8_item_1 : decode cX8_item 1 = .ok (.iload_n 2, 1) := by decide +kernel
theorem dX8_item_2 : decode cX8_item 2 = .ok (.invokestatic 153, 3) := by decide +kernel
theorem dX8_item_5 : decode cX8_item 5 = .ok (.ifCond .ne 6, 3) := by decide +kernel
theorem dX8_item_8 : decode cX8_item 8 = .ok (.bipush (-2), 2) := by decide +kernel
theorem dX8_item_10 : decode cX8_item 10 = .ok (.ireturn, 1) := by decide +kernel
theorem dX8_item_11 : decode cX8_item 11 = .ok (.aload_n 0, 1) := by decide +kernel
theorem dX8_item_12 : decode cX8_item 12 = .ok (.getfield 19, 3) := by decide +kernel
theorem dX8_item_15 : decode cX8_item 15 = .ok (.aload_n 0, 1) := by decide +kernel
theorem dX8_item_16 : decode cX8_item 16 = .ok (.getfield 12, 3) := by decide +kernel
theorem dX8_item_19 : decode cX8_item 19 = .ok (.iload_n 1, 1) := by decide +kernel
theorem dX8_item_20 : decode cX8_item 20 = .ok (.iload_n 2, 1) := by decide +kernel
theorem dX8_item_21 : decode cX8_item 21 = .ok (.aload_n 0, 1) := by decide +kernel
theorem dX8_item_22 : decode cX8_item 22 = .ok (.getfield 52, 3) := by decide +kernel
theorem dX8_item_25 : decode cX8_item 25 = .ok (.invokevirtual 157, 3) := by decide +kernel
theorem dX8_item_28 : decode cX8_item 28 = .ok (.aload_n 0, 1) := by decide +kernel
theorem dX8_item_29 : decode cX8_item 29 = .ok (.getfield 52, 3) := by decide +kernel
theorem dX8_item_32 : decode cX8_item 32 = .ok (.iload_n 3, 1) := by decide +kernel
theorem dX8_item_33 : decode cX8_item 33 = .ok (.invokevirtual 167, 3) := by decide +kernel
theorem dX8_item_36 : decode cX8_item 36 = .ok (.ifCond .eq 14, 3) := by decide +kernel
theorem dX8_item_39 : decode cX8_item 39 = .ok (.aload_n 0, 1) := by decide +kernel
theorem dX8_item_40 : decode cX8_item 40 = .ok (.getfield 52, 3) := by decide +kernel
theorem dX8_item_43 : decode cX8_item 43 = .ok (.iload_n 3, 1) := by decide +kernel
theorem dX8_item_44 : decode cX8_item 44 = .ok (.invokevirtual 170, 3) := by decide +kernel
theorem dX8_item_47 : decode cX8_item 47 = .ok (.goto 4, 3) := by decide +kernel
theorem dX8_item_50 : decode cX8_item 50 = .ok (.iconst (-1), 1) := by decide +kernel
theorem dX8_item_51 : decode cX8_item 51 = .ok (.ireturn, 1) := by decide +kernel
theorem dX8_lengths_0 : decode cX8_lengths 0 = .ok (.iload_n 2, 1) := by decide +kernel
theorem dX8_lengths_1 : decode cX8_lengths 1 = .ok (.ifCond .eq 11, 3) := by decide +kernel
theorem dX8_lengths_4 : decode cX8_lengths 4 = .ok (.iload_n 2, 1) := by decide +kernel
theorem dX8_lengths_5 : decode cX8_lengths 5 = .ok (.iconst 1, 1) := by decide +kernel
theorem dX8_lengths_6 : decode cX8_lengths 6 = .ok (.if_icmp .eq 6, 3) := by decide +kernel
theorem dX8_lengths_9 : decode cX8_lengths 9 = .ok (.bipush (-2), 2) := by decide +kernel
theorem dX8_lengths_11 : decode cX8_lengths 11 = .ok (.ireturn, 1) := by decide +kernel
theorem dX8_lengths_12 : decode cX8_lengths 12 = .ok (.iconst 0, 1) := by decide +kernel
theorem dX8_lengths_13 : decode cX8_lengths 13 = .ok (.istore_n 3, 1) := by decide +kernel
theorem dX8_lengths_14 : decode cX8_lengths 14 = .ok (.bipush (-9), 2) := by decide +kernel
theorem dX8_lengths_16 : decode cX8_lengths 16 = .ok (.istore 4, 2) := by decide +kernel
theorem dX8_lengths_18 : decode cX8_lengths 18 = .ok (.bipush 99, 2) := by decide +kernel
theorem dX8_lengths_20 : decode cX8_lengths 20 = .ok (.istore 5, 2) := by decide +kernel
theorem dX8_lengths_22 : decode cX8_lengths 22 = .ok (.iload 5, 2) := by decide +kernel
theorem dX8_lengths_24 : decode cX8_lengths 24 = .ok (.ifCond .lt 29, 3) := by decide +kernel
theorem dX8_lengths_27 : decode cX8_lengths 27 = .ok (.aload_n 0, 1) := by decide +kernel
theorem dX8_lengths_28 : decode cX8_lengths 28 = .ok (.getfield 19, 3) := by decide +kernel
theorem dX8_lengths_31 : decode cX8_lengths 31 = .ok (.iload 5, 2) := by decide +kernel
theorem dX8_lengths_33 : decode cX8_lengths 33 = .ok (.invokevirtual 173, 3) := by decide +kernel
theorem dX8_lengths_36 : decode cX8_lengths 36 = .ok (.iload_n 1, 1) := by decide +kernel
theorem dX8_lengths_37 : decode cX8_lengths 37 = .ok (.if_icmp .ne 10, 3) := by decide +kernel
theorem dX8_lengths_40 : decode cX8_lengths 40 = .ok (.iinc 3 1, 3) := by decide +kernel
theorem dX8_lengths_43 : decode cX8_lengths 43 = .ok (.iload 5, 2) := by decide +kernel
theorem dX8_lengths_45 : decode cX8_lengths 45 = .ok (.istore 4, 2) := by decide +kernel
theorem dX8_lengths_47 : decode cX8_lengths 47 = .ok (.iinc 5 (-1), 3) := by decide +kernel
theorem dX8_lengths_50 : decode cX8_lengths 50 = .ok (.goto (-28), 3) := by decide +kernel
theorem dX8_lengths_53 : decode cX8_lengths 53 = .ok (.iload_n 2, 1) := by decide +kernel
theorem dX8_lengths_54 : decode cX8_lengths 54 = .ok (.ifCond .ne 7, 3) := by decide +kernel
theorem dX8_lengths_57 : decode cX8_lengths 57 = .ok (.iload_n 3, 1) := by decide +kernel
theorem dX8_lengths_58 : decode cX8_lengths 58 = .ok (.goto 5, 3) := by decide +kernel
theorem dX8_lengths_61 : decode cX8_lengths 61 = .ok (.iload 4, 2) := by decide +kernel
theorem dX8_lengths_63 : decode cX8_lengths 63 = .ok (.ireturn, 1) := by decide +kernel
theorem dX8_send_0 : decode cX8_send 0 = .ok (.iload_n 1, 1) := by decide +kernel
theorem dX8_send_1 : decode cX8_send 1 = .ok (.iload_n 2, 1) := by decide +kernel
theorem dX8_send_2 : decode cX8_send 2 = .ok (.invokestatic 153, 3) := by decide +kernel
theorem dX8_send_5 : decode cX8_send 5 = .ok (.ifCond .ne 6, 3) := by decide +kernel
theorem dX8_send_8 : decode cX8_send 8 = .ok (.bipush (-2), 2) := by decide +kernel
theorem dX8_send_10 : decode cX8_send 10 = .ok (.ireturn, 1) := by decide +kernel
theorem dX8_send_11 : decode cX8_send 11 = .ok (.aload_n 0, 1) := by decide +kernel
theorem dX8_send_12 : decode cX8_send 12 = .ok (.getfield 19, 3) := by decide +kernel
theorem dX8_send_15 : decode cX8_send 15 = .ok (.aload_n 0, 1) := by decide +kernel
theorem dX8_send_16 : decode cX8_send 16 = .ok (.getfield 12, 3) := by decide +kernel
theorem dX8_send_19 : decode cX8_send 19 = .ok (.iload_n 1, 1) := by decide +kernel
theorem dX8_send_20 : decode cX8_send 20 = .ok (.iload_n 2, 1) := by decide +kernel
theorem dX8_send_21 : decode cX8_send 21 = .ok (.aload_n 0, 1) := by decide +kernel
theorem dX8_send_22 : decode cX8_send 22 = .ok (.getfield 33, 3) := by decide +kernel
theorem dX8_send_25 : decode cX8_send 25 = .ok (.invokevirtual 108, 3) := by decide +kernel
theorem dX8_send_28 : decode cX8_send 28 = .ok (.invokevirtual 157, 3) := by decide +kernel
theorem dX8_send_31 : decode cX8_send 31 = .ok (.aload_n 0, 1) := by decide +kernel
theorem dX8_send_32 : decode cX8_send 32 = .ok (.getfield 33, 3) := by decide +kernel
theorem dX8_send_35 : decode cX8_send 35 = .ok (.invokevirtual 108, 3) := by decide +kernel
theorem dX8_send_38 : decode cX8_send 38 = .ok (.invokevirtual 112, 3) := by decide +kernel
theorem dX8_send_41 : decode cX8_send 41 = .ok (.ireturn, 1) := by decide +kernel
theorem dX8_tell_0 : decode cX8_tell 0 = .ok (.iload_n 1, 1) := by decide +kernel
theorem dX8_tell_1 : decode cX8_tell 1 = .ok (.invokestatic 176, 3) := by decide +kernel
theorem dX8_tell_4 : decode cX8_tell 4 = .ok (.ifCond .ne 6, 3) := by decide +kernel
theorem dX8_tell_7 : decode cX8_tell 7 = .ok (.bipush (-2), 2) := by decide +kernel
theorem dX8_tell_9 : decode cX8_tell 9 = .ok (.ireturn, 1) := by decide +kernel
theorem dX8_tell_10 : decode cX8_tell 10 = .ok (.aload_n 0, 1) := by decide +kernel
theorem dX8_tell_11 : decode cX8_tell 11 = .ok (.getfield 33, 3) := by decide +kernel
theorem dX8_tell_14 : decode cX8_tell 14 = .ok (.invokevirtual 108, 3) := by decide +kernel
theorem dX8_tell_17 : decode cX8_tell 17 = .ok (.invokevirtual 179, 3) := by decide +kernel
theorem dX8_tell_20 : decode cX8_tell 20 = .ok (.ifCond .eq 6, 3) := by decide +kernel
theorem dX8_tell_23 : decode cX8_tell 23 = .ok (.bipush (-4), 2) := by decide +kernel
theorem dX8_tell_25 : decode cX8_tell 25 = .ok (.ireturn, 1) := by decide +kernel
theorem dX8_tell_26 : decode cX8_tell 26 = .ok (.aload_n 0, 1) := by decide +kernel
theorem dX8_tell_27 : decode cX8_tell 27 = .ok (.getfield 33, 3) := by decide +kernel
theorem dX8_tell_30 : decode cX8_tell 30 = .ok (.invokevirtual 108, 3) := by decide +kernel
theorem dX8_tell_33 : decode cX8_tell 33 = .ok (.iload_n 1, 1) := by decide +kernel
theorem dX8_tell_34 : decode cX8_tell 34 = .ok (.invokevirtual 183, 3) := by decide +kernel
theorem dX8_tell_37 : decode cX8_tell 37 = .ok (.aload_n 0, 1) := by decide +kernel
theorem dX8_tell_38 : decode cX8_tell 38 = .ok (.getfield 33, 3) := by decide +kernel
theorem dX8_tell_41 : decode cX8_tell 41 = .ok (.invokevirtual 108, 3) := by decide +kernel
theorem dX8_tell_44 : decode cX8_tell 44 = .ok (.invokevirtual 112, 3) := by decide +kernel
theorem dX8_tell_47 : decode cX8_tell 47 = .ok (.ireturn, 1) := by decide +kernel
theorem dX8_alter_0 : decode cX8_alter 0 = .ok (.aload_n 0, 1) := by decide +kernel
theorem dX8_alter_1 : decode cX8_alter 1 = .ok (.getfield 33, 3) := by decide +kernel
theorem dX8_alter_4 : decode cX8_alter 4 = .ok (.invokevirtual 108, 3) := by decide +kernel
theorem dX8_alter_7 : decode cX8_alter 7 = .ok (.iload_n 1, 1) := by decide +kernel
theorem dX8_alter_8 : decode cX8_alter 8 = .ok (.invokevirtual 167, 3) := by decide +kernel
theorem dX8_alter_11 : decode cX8_alter 11 = .ok (.ifCond .ne 5, 3) := by decide +kernel
theorem dX8_alter_14 : decode cX8_alter 14 = .ok (.iconst (-1), 1) := by decide +kernel
theorem dX8_alter_15 : decode cX8_alter 15 = .ok (.ireturn, 1) := by decide +kernel
theorem dX8_alter_16 : decode cX8_alter 16 = .ok (.iload_n 2, 1) := by decide +kernel
theorem dX8_alter_17 : decode cX8_alter 17 = .ok (.invokestatic 176, 3) := by decide +kernel
theorem dX8_alter_20 : decode cX8_alter 20 = .ok (.ifCond .ne 6, 3) := by decide +kernel
theorem dX8_alter_23 : decode cX8_alter 23 = .ok (.bipush (-2), 2) := by decide +kernel
theorem dX8_alter_25 : decode cX8_alter 25 = .ok (.ireturn, 1) := by decide +kernel
theorem dX8_alter_26 : decode cX8_alter 26 = .ok (.aload_n 0, 1) := by decide +kernel
theorem dX8_alter_27 : decode cX8_alter 27 = .ok (.getfield 33, 3) := by decide +kernel
theorem dX8_alter_30 : decode cX8_alter 30 = .ok (.invokevirtual 108, 3) := by decide +kernel
theorem dX8_alter_33 : decode cX8_alter 33 = .ok (.iload_n 1, 1) := by decide +kernel
theorem dX8_alter_34 : decode cX8_alter 34 = .ok (.invokevirtual 170, 3) := by decide +kernel
theorem dX8_alter_37 : decode cX8_alter 37 = .ok (.istore_n 3, 1) := by decide +kernel
theorem dX8_alter_38 : decode cX8_alter 38 = .ok (.aload_n 0, 1) := by decide +kernel
theorem dX8_alter_39 : decode cX8_alter 39 = .ok (.getfield 33, 3) := by decide +kernel
theorem dX8_alter_42 : decode cX8_alter 42 = .ok (.invokevirtual 108, 3) := by decide +kernel
theorem dX8_alter_45 : decode cX8_alter 45 = .ok (.iload_n 1, 1) := by decide +kernel
theorem dX8_alter_46 : decode cX8_alter 46 = .ok (.iload_n 2, 1) := by decide +kernel
theorem dX8_alter_47 : decode cX8_alter 47 = .ok (.invokevirtual 186, 3) := by decide +kernel
theorem dX8_alter_50 : decode cX8_alter 50 = .ok (.iload_n 3, 1) := by decide +kernel
theorem dX8_alter_51 : decode cX8_alter 51 = .ok (.ireturn, 1) := by decide +kernel
theorem dX8_cut_0 : decode cX8_cut 0 = .ok (.aload_n 0, 1) := by decide +kernel
theorem dX8_cut_1 : decode cX8_cut 1 = .ok (.getfield 33, 3) := by decide +kernel
theorem dX8_cut_4 : decode cX8_cut 4 = .ok (.invokevirtual 108, 3) := by decide +kernel
theorem dX8_cut_7 : decode cX8_cut 7 = .ok (.invokevirtual 112, 3) := by decide +kernel
theorem dX8_cut_10 : decode cX8_cut 10 = .ok (.istore_n 2, 1) := by decide +kernel
theorem dX8_cut_11 : decode cX8_cut 11 = .ok (.iload_n 1, 1) := by decide +kernel
theorem dX8_cut_12 : decode cX8_cut 12 = .ok (.ifCond .lt 8, 3) := by decide +kernel
theorem dX8_cut_15 : decode cX8_cut 15 = .ok (.iload_n 1, 1) := by decide +kernel
theorem dX8_cut_16 : decode cX8_cut 16 = .ok (.iload_n 2, 1) := by decide +kernel
theorem dX8_cut_17 : decode cX8_cut 17 = .ok (.if_icmp .le 6, 3) := by decide +kernel
theorem dX8_cut_20 : decode cX8_cut 20 = .ok (.bipush (-2), 2) := by decide +kernel
theorem dX8_cut_22 : decode cX8_cut 22 = .ok (.ireturn, 1) := by decide +kernel
theorem dX8_cut_23 : decode cX8_cut 23 = .ok (.aload_n 0, 1) := by decide +kernel
theorem dX8_cut_24 : decode cX8_cut 24 = .ok (.getfield 33, 3) := by decide +kernel
theorem dX8_cut_27 : decode cX8_cut 27 = .ok (.invokevirtual 108, 3) := by decide +kernel
theorem dX8_cut_30 : decode cX8_cut 30 = .ok (.iload_n 1, 1) := by decide +kernel
theorem dX8_cut_31 : decode cX8_cut 31 = .ok (.invokevirtual 189, 3) := by decide +kernel
theorem dX8_cut_34 : decode cX8_cut 34 = .ok (.iload_n 2, 1) := by decide +kernel
theorem dX8_cut_35 : decode cX8_cut 35 = .ok (.ireturn, 1) := by decide +kernel
theorem dX8_trust_0 : decode cX8_trust 0 = .ok (.aload_n 0, 1) := by decide +kernel
theorem dX8_trust_1 : decode cX8_trust 1 = .ok (.getfield 33, 3) := by decide +kernel
theorem dX8_trust_4 : decode cX8_trust 4 = .ok (.aload_n 0, 1) := by decide +kernel
theorem dX8_trust_5 : decode cX8_trust 5 = .ok (.getfield 19, 3) := by decide +kernel
theorem dX8_trust_8 : decode cX8_trust 8 = .ok (.invokevirtual 98, 3) := by decide +kernel
theorem dX8_trust_11 : decode cX8_trust 11 = .ok (.invokevirtual 192, 3) := by decide +kernel
theorem dX8_trust_14 : decode cX8_trust 14 = .ok (.ireturn, 1) := by decide +kernel
theorem dX8_believe_0 : decode cX8_believe 0 = .ok (.iload_n 1, 1) := by decide +kernel
theorem dX8_believe_1 : decode cX8_believe 1 = .ok (.ifCond .ge 8, 3) := by decide +kernel
theorem dX8_believe_4 : decode cX8_believe 4 = .ok (.bipush (-2), 2) := by decide +kernel
theorem dX8_believe_6 : decode cX8_believe 6 = .ok (.goto 11, 3) := by decide +kernel
theorem dX8_believe_9 : decode cX8_believe 9 = .ok (.aload_n 0, 1) := by decide +kernel
theorem dX8_believe_10 : decode cX8_believe 10 = .ok (.getfield 33, 3) := by decide +kernel
theorem dX8_believe_13 : decode cX8_believe 13 = .ok (.iload_n 1, 1) := by decide +kernel
theorem dX8_believe_14 : decode cX8_believe 14 = .ok (.invokevirtual 192, 3) := by decide +kernel
theorem dX8_believe_17 : decode cX8_believe 17 = .ok (.ireturn, 1) := by decide +kernel
theorem dX8_read_0 : decode cX8_read 0 = .ok (.iload_n 1, 1) := by decide +kernel
theorem dX8_read_1 : decode cX8_read 1 = .ok (.iload_n 2, 1) := by decide +kernel
theorem dX8_read_2 : decode cX8_read 2 = .ok (.invokestatic 153, 3) := by decide +kernel
theorem dX8_read_5 : decode cX8_read 5 = .ok (.ifCond .eq 15, 3) := by decide +kernel
theorem dX8_read_8 : decode cX8_read 8 = .ok (.aload_n 0, 1) := by decide +kernel
theorem dX8_read_9 : decode cX8_read 9 = .ok (.getfield 33, 3) := by decide +kernel
theorem dX8_read_12 : decode cX8_read 12 = .ok (.iload_n 1, 1) := by decide +kernel
theorem dX8_read_13 : decode cX8_read 13 = .ok (.iload_n 2, 1) := by decide +kernel
theorem dX8_read_14 : decode cX8_read 14 = .ok (.invokevirtual 195, 3) := by decide +kernel
theorem dX8_read_17 : decode cX8_read 17 = .ok (.goto 5, 3) := by decide +kernel
theorem dX8_read_20 : decode cX8_read 20 = .ok (.bipush (-2), 2) := by decide +kernel
theorem dX8_read_22 : decode cX8_read 22 = .ok (.ireturn, 1) := by decide +kernel
theorem dX8_learnt_0 : decode cX8_learnt 0 = .ok (.iload_n 1, 1) := by decide +kernel
theorem dX8_learnt_1 : decode cX8_learnt 1 = .ok (.iload_n 2, 1) := by decide +kernel
theorem dX8_learnt_2 : decode cX8_learnt 2 = .ok (.invokestatic 153, 3) := by decide +kernel
theorem dX8_learnt_5 : decode cX8_learnt 5 = .ok (.ifCond .eq 12, 3) := by decide +kernel
theorem dX8_learnt_8 : decode cX8_learnt 8 = .ok (.iload_n 3, 1) := by decide +kernel
theorem dX8_learnt_9 : decode cX8_learnt 9 = .ok (.ifCond .lt 8, 3) := by decide +kernel
theorem dX8_learnt_12 : decode cX8_learnt 12 = .ok (.iload_n 3, 1) := by decide +kernel
theorem dX8_learnt_13 : decode cX8_learnt 13 = .ok (.iconst 4, 1) := by decide +kernel
theorem dX8_learnt_14 : decode cX8_learnt 14 = .ok (.if_icmp .le 6, 3) := by decide +kernel
theorem dX8_learnt_17 : decode cX8_learnt 17 = .ok (.bipush (-2), 2) := by decide +kernel
theorem dX8_learnt_19 : decode cX8_learnt 19 = .ok (.ireturn, 1) := by decide +kernel
theorem dX8_learnt_20 : decode cX8_learnt 20 = .ok (.aload_n 0, 1) := by decide +kernel
theorem dX8_learnt_21 : decode cX8_learnt 21 = .ok (.getfield 33, 3) := by decide +kernel
theorem dX8_learnt_24 : decode cX8_learnt 24 = .ok (.iload_n 1, 1) := by decide +kernel
theorem dX8_learnt_25 : decode cX8_learnt 25 = .ok (.iload_n 2, 1) := by decide +kernel
theorem dX8_learnt_26 : decode cX8_learnt 26 = .ok (.invokevirtual 195, 3) := by decide +kernel
theorem dX8_learnt_29 : decode cX8_learnt 29 = .ok (.ifCond .eq 6, 3) := by decide +kernel
theorem dX8_learnt_32 : decode cX8_learnt 32 = .ok (.bipush (-3), 2) := by decide +kernel
theorem dX8_learnt_34 : decode cX8_learnt 34 = .ok (.ireturn, 1) := by decide +kernel
theorem dX8_learnt_35 : decode cX8_learnt 35 = .ok (.aload_n 0, 1) := by decide +kernel
theorem dX8_learnt_36 : decode cX8_learnt 36 = .ok (.getfield 33, 3) := by decide +kernel
theorem dX8_learnt_39 : decode cX8_learnt 39 = .ok (.invokevirtual 198, 3) := by decide +kernel
theorem dX8_learnt_42 : decode cX8_learnt 42 = .ok (.astore 4, 2) := by decide +kernel
theorem dX8_learnt_44 : decode cX8_learnt 44 = .ok (.iload_n 3, 1) := by decide +kernel
theorem dX8_learnt_45 : decode cX8_learnt 45 = .ok (.tableswitch 61 0 3 #[31, 39, 47, 54], 31) := by decide +kernel
theorem dX8_learnt_76 : decode cX8_learnt 76 = .ok (.aload 4, 2) := by decide +kernel
theorem dX8_learnt_78 : decode cX8_learnt 78 = .ok (.iload_n 1, 1) := by decide +kernel
theorem dX8_learnt_79 : decode cX8_learnt 79 = .ok (.iload_n 2, 1) := by decide +kernel
theorem dX8_learnt_80 : decode cX8_learnt 80 = .ok (.invokevirtual 144, 3) := by decide +kernel
theorem dX8_learnt_83 : decode cX8_learnt 83 = .ok (.ireturn, 1) := by decide +kernel
theorem dX8_learnt_84 : decode cX8_learnt 84 = .ok (.aload 4, 2) := by decide +kernel
theorem dX8_learnt_86 : decode cX8_learnt 86 = .ok (.iload_n 1, 1) := by decide +kernel
theorem dX8_learnt_87 : decode cX8_learnt 87 = .ok (.iload_n 2, 1) := by decide +kernel
theorem dX8_learnt_88 : decode cX8_learnt 88 = .ok (.invokevirtual 104, 3) := by decide +kernel
theorem dX8_learnt_91 : decode cX8_learnt 91 = .ok (.ireturn, 1) := by decide +kernel
theorem dX8_learnt_92 : decode cX8_learnt 92 = .ok (.aload 4, 2) := by decide +kernel
theorem dX8_learnt_94 : decode cX8_learnt 94 = .ok (.iload_n 1, 1) := by decide +kernel
theorem dX8_learnt_95 : decode cX8_learnt 95 = .ok (.invokevirtual 202, 3) := by decide +kernel
theorem dX8_learnt_98 : decode cX8_learnt 98 = .ok (.ireturn, 1) := by decide +kernel
theorem dX8_learnt_99 : decode cX8_learnt 99 = .ok (.aload 4, 2) := by decide +kernel
theorem dX8_learnt_101 : decode cX8_learnt 101 = .ok (.iload_n 2, 1) := by decide +kernel
theorem dX8_learnt_102 : decode cX8_learnt 102 = .ok (.invokevirtual 205, 3) := by decide +kernel
theorem dX8_learnt_105 : decode cX8_learnt 105 = .ok (.ireturn, 1) := by decide +kernel
theorem dX8_learnt_106 : decode cX8_learnt 106 = .ok (.aload 4, 2) := by decide +kernel
theorem dX8_learnt_108 : decode cX8_learnt 108 = .ok (.invokevirtual 90, 3) := by decide +kernel
theorem dX8_learnt_111 : decode cX8_learnt 111 = .ok (.ireturn, 1) := by decide +kernel
theorem dX8_found_0 : decode cX8_found 0 = .ok (.iload_n 1, 1) := by decide +kernel
theorem dX8_found_1 : decode cX8_found 1 = .ok (.iload_n 2, 1) := by decide +kernel
theorem dX8_found_2 : decode cX8_found 2 = .ok (.invokestatic 153, 3) := by decide +kernel
theorem dX8_found_5 : decode cX8_found 5 = .ok (.ifCond .ne 6, 3) := by decide +kernel
theorem dX8_found_8 : decode cX8_found 8 = .ok (.bipush (-2), 2) := by decide +kernel
theorem dX8_found_10 : decode cX8_found 10 = .ok (.ireturn, 1) := by decide +kernel
theorem dX8_found_11 : decode cX8_found 11 = .ok (.aload_n 0, 1) := by decide +kernel
theorem dX8_found_12 : decode cX8_found 12 = .ok (.getfield 33, 3) := by decide +kernel
theorem dX8_found_15 : decode cX8_found 15 = .ok (.iload_n 1, 1) := by decide +kernel
theorem dX8_found_16 : decode cX8_found 16 = .ok (.iload_n 2, 1) := by decide +kernel
theorem dX8_found_17 : decode cX8_found 17 = .ok (.invokevirtual 195, 3) := by decide +kernel
theorem dX8_found_20 : decode cX8_found 20 = .ok (.ifCond .eq 6, 3) := by decide +kernel
theorem dX8_found_23 : decode cX8_found 23 = .ok (.bipush (-3), 2) := by decide +kernel
theorem dX8_found_25 : decode cX8_found 25 = .ok (.ireturn, 1) := by decide +kernel
theorem dX8_found_26 : decode cX8_found 26 = .ok (.aload_n 0, 1) := by decide +kernel
theorem dX8_found_27 : decode cX8_found 27 = .ok (.getfield 33, 3) := by decide +kernel
theorem dX8_found_30 : decode cX8_found 30 = .ok (.invokevirtual 198, 3) := by decide +kernel
theorem dX8_found_33 : decode cX8_found 33 = .ok (.astore 4, 2) := by decide +kernel
theorem dX8_found_35 : decode cX8_found 35 = .ok (.aload 4, 2) := by decide +kernel
theorem dX8_found_37 : decode cX8_found 37 = .ok (.iload_n 1, 1) := by decide +kernel
theorem dX8_found_38 : decode cX8_found 38 = .ok (.iload_n 2, 1) := by decide +kernel
theorem dX8_found_39 : decode cX8_found 39 = .ok (.iload_n 3, 1) := by decide +kernel
theorem dX8_found_40 : decode cX8_found 40 = .ok (.invokevirtual 208, 3) := by decide +kernel
theorem dX8_found_43 : decode cX8_found 43 = .ok (.istore 5, 2) := by decide +kernel
theorem dX8_found_45 : decode cX8_found 45 = .ok (.iload 5, 2) := by decide +kernel
theorem dX8_found_47 : decode cX8_found 47 = .ok (.bipush (-9), 2) := by decide +kernel
theorem dX8_found_49 : decode cX8_found 49 = .ok (.if_icmp .ne 8, 3) := by decide +kernel
theorem dX8_found_52 : decode cX8_found 52 = .ok (.bipush (-9), 2) := by decide +kernel
theorem dX8_found_54 : decode cX8_found 54 = .ok (.goto 16, 3) := by decide +kernel
theorem dX8_found_57 : decode cX8_found 57 = .ok (.bipush 100, 2) := by decide +kernel
theorem dX8_found_59 : decode cX8_found 59 = .ok (.iload 5, 2) := by decide +kernel
theorem dX8_found_61 : decode cX8_found 61 = .ok (.imul, 1) := by decide +kernel
theorem dX8_found_62 : decode cX8_found 62 = .ok (.aload 4, 2) := by decide +kernel
theorem dX8_found_64 : decode cX8_found 64 = .ok (.iload 5, 2) := by decide +kernel
theorem dX8_found_66 : decode cX8_found 66 = .ok (.invokevirtual 64, 3) := by decide +kernel
theorem dX8_found_69 : decode cX8_found 69 = .ok (.iadd, 1) := by decide +kernel
theorem dX8_found_70 : decode cX8_found 70 = .ok (.ireturn, 1) := by decide +kernel
theorem dX8_step_0 : decode cX8_step 0 = .ok (.iload_n 1, 1) := by decide +kernel
theorem dX8_step_1 : decode cX8_step 1 = .ok (.iload_n 2, 1) := by decide +kernel
theorem dX8_step_2 : decode cX8_step 2 = .ok (.invokestatic 212, 3) := by decide +kernel
theorem dX8_step_5 : decode cX8_step 5 = .ok (.ifCond .eq 15, 3) := by decide +kernel
theorem dX8_step_8 : decode cX8_step 8 = .ok (.aload_n 0, 1) := by decide +kernel
theorem dX8_step_9 : decode cX8_step 9 = .ok (.getfield 33, 3) := by decide +kernel
theorem dX8_step_12 : decode cX8_step 12 = .ok (.iload_n 1, 1) := by decide +kernel
theorem dX8_step_13 : decode cX8_step 13 = .ok (.iload_n 2, 1) := by decide +kernel
theorem dX8_step_14 : decode cX8_step 14 = .ok (.invokevirtual 215, 3) := by decide +kernel
theorem dX8_step_17 : decode cX8_step 17 = .ok (.goto 5, 3) := by decide +kernel
theorem dX8_step_20 : decode cX8_step 20 = .ok (.bipush (-2), 2) := by decide +kernel
theorem dX8_step_22 : decode cX8_step 22 = .ok (.ireturn, 1) := by decide +kernel
theorem dX8_follow_0 : decode cX8_follow 0 = .ok (.iload_n 1, 1) := by decide +kernel
theorem dX8_follow_1 : decode cX8_follow 1 = .ok (.iload_n 2, 1) := by decide +kernel
theorem dX8_follow_2 : decode cX8_follow 2 = .ok (.invokestatic 212, 3) := by decide +kernel
theorem dX8_follow_5 : decode cX8_follow 5 = .ok (.ifCond .ne 6, 3) := by decide +kernel
theorem dX8_follow_8 : decode cX8_follow 8 = .ok (.bipush (-2), 2) := by decide +kernel
theorem dX8_follow_10 : decode cX8_follow 10 = .ok (.ireturn, 1) := by decide +kernel
theorem dX8_follow_11 : decode cX8_follow 11 = .ok (.aload_n 0, 1) := by decide +kernel
theorem dX8_follow_12 : decode cX8_follow 12 = .ok (.getfield 33, 3) := by decide +kernel
theorem dX8_follow_15 : decode cX8_follow 15 = .ok (.iload_n 1, 1) := by decide +kernel
theorem dX8_follow_16 : decode cX8_follow 16 = .ok (.iload_n 2, 1) := by decide +kernel
theorem dX8_follow_17 : decode cX8_follow 17 = .ok (.invokevirtual 215, 3) := by decide +kernel
theorem dX8_follow_20 : decode cX8_follow 20 = .ok (.istore_n 3, 1) := by decide +kernel
theorem dX8_follow_21 : decode cX8_follow 21 = .ok (.iload_n 3, 1) := by decide +kernel
theorem dX8_follow_22 : decode cX8_follow 22 = .ok (.ifCond .ge 7, 3) := by decide +kernel
theorem dX8_follow_25 : decode cX8_follow 25 = .ok (.iload_n 3, 1) := by decide +kernel
theorem dX8_follow_26 : decode cX8_follow 26 = .ok (.goto 11, 3) := by decide +kernel
theorem dX8_follow_29 : decode cX8_follow 29 = .ok (.aload_n 0, 1) := by decide +kernel
theorem dX8_follow_30 : decode cX8_follow 30 = .ok (.getfield 33, 3) := by decide +kernel
theorem dX8_follow_33 : decode cX8_follow 33 = .ok (.iload_n 3, 1) := by decide +kernel
theorem dX8_follow_34 : decode cX8_follow 34 = .ok (.invokevirtual 192, 3) := by decide +kernel
theorem dX8_follow_37 : decode cX8_follow 37 = .ok (.ireturn, 1) := by decide +kernel
theorem dX8_former_0 : decode cX8_former 0 = .ok (.iload_n 1, 1) := by decide +kernel
theorem dX8_former_1 : decode cX8_former 1 = .ok (.ifCond .lt 14, 3) := by decide +kernel
theorem dX8_former_4 : decode cX8_former 4 = .ok (.iload_n 1, 1) := by decide +kernel
theorem dX8_former_5 : decode cX8_former 5 = .ok (.aload_n 0, 1) := by decide +kernel
theorem dX8_former_6 : decode cX8_former 6 = .ok (.getfield 33, 3) := by decide +kernel
theorem dX8_former_9 : decode cX8_former 9 = .ok (.invokevirtual 116, 3) := by decide +kernel
theorem dX8_former_12 : decode cX8_former 12 = .ok (.if_icmp .lt 7, 3) := by decide +kernel
theorem dX8_former_15 : decode cX8_former 15 = .ok (.iconst (-1), 1) := by decide +kernel
theorem dX8_former_16 : decode cX8_former 16 = .ok (.goto 11, 3) := by decide +kernel
theorem dX8_former_19 : decode cX8_former 19 = .ok (.aload_n 0, 1) := by decide +kernel
theorem dX8_former_20 : decode cX8_former 20 = .ok (.getfield 33, 3) := by decide +kernel
theorem dX8_former_23 : decode cX8_former 23 = .ok (.iload_n 1, 1) := by decide +kernel
theorem dX8_former_24 : decode cX8_former 24 = .ok (.invokevirtual 218, 3) := by decide +kernel
theorem dX8_former_27 : decode cX8_former 27 = .ok (.ireturn, 1) := by decide +kernel
theorem dX8_judge_0 : decode cX8_judge 0 = .ok (.iload_n 1, 1) := by decide +kernel
theorem dX8_judge_1 : decode cX8_judge 1 = .ok (.iconst 1, 1) := by decide +kernel
theorem dX8_judge_2 : decode cX8_judge 2 = .ok (.if_icmp .lt 24, 3) := by decide +kernel
theorem dX8_judge_5 : decode cX8_judge 5 = .ok (.iload_n 1, 1) := by decide +kernel
theorem dX8_judge_6 : decode cX8_judge 6 = .ok (.iconst 3, 1) := by decide +kernel
theorem dX8_judge_7 : decode cX8_judge 7 = .ok (.if_icmp .gt 19, 3) := by decide +kernel
theorem dX8_judge_10 : decode cX8_judge 10 = .ok (.lload_n 2, 1) := by decide +kernel
theorem dX8_judge_11 : decode cX8_judge 11 = .ok (.lconst 0, 1) := by decide +kernel
theorem dX8_judge_12 : decode cX8_judge 12 = .ok (.lcmp, 1) := by decide +kernel
theorem dX8_judge_13 : decode cX8_judge 13 = .ok (.ifCond .lt 13, 3) := by decide +kernel
theorem dX8_judge_16 : decode cX8_judge 16 = .ok (.iload_n 1, 1) := by decide +kernel
theorem dX8_judge_17 : decode cX8_judge 17 = .ok (.lload_n 2, 1) := by decide +kernel
theorem dX8_judge_18 : decode cX8_judge 18 = .ok (.invokestatic 221, 3) := by decide +kernel
theorem dX8_judge_21 : decode cX8_judge 21 = .ok (.lconst 0, 1) := by decide +kernel
theorem dX8_judge_22 : decode cX8_judge 22 = .ok (.lcmp, 1) := by decide +kernel
theorem dX8_judge_23 : decode cX8_judge 23 = .ok (.ifCond .eq 6, 3) := by decide +kernel
theorem dX8_judge_26 : decode cX8_judge 26 = .ok (.bipush (-2), 2) := by decide +kernel
theorem dX8_judge_28 : decode cX8_judge 28 = .ok (.ireturn, 1) := by decide +kernel
theorem dX8_judge_29 : decode cX8_judge 29 = .ok (.aload_n 0, 1) := by decide +kernel
theorem dX8_judge_30 : decode cX8_judge 30 = .ok (.getfield 43, 3) := by decide +kernel
theorem dX8_judge_33 : decode cX8_judge 33 = .ok (.aload_n 0, 1) := by decide +kernel
theorem dX8_judge_34 : decode cX8_judge 34 = .ok (.getfield 12, 3) := by decide +kernel
theorem dX8_judge_37 : decode cX8_judge 37 = .ok (.invokevirtual 225, 3) := by decide +kernel
theorem dX8_judge_40 : decode cX8_judge 40 = .ok (.iconst 0, 1) := by decide +kernel
theorem dX8_judge_41 : decode cX8_judge 41 = .ok (.istore 4, 2) := by decide +kernel
theorem dX8_judge_43 : decode cX8_judge 43 = .ok (.iload 4, 2) := by decide +kernel
theorem dX8_judge_45 : decode cX8_judge 45 = .ok (.iload_n 1, 1) := by decide +kernel
theorem dX8_judge_46 : decode cX8_judge 46 = .ok (.if_icmp .ge 34, 3) := by decide +kernel
theorem dX8_judge_49 : decode cX8_judge 49 = .ok (.aload_n 0, 1) := by decide +kernel
theorem dX8_judge_50 : decode cX8_judge 50 = .ok (.iload_n 1, 1) := by decide +kernel
theorem dX8_judge_51 : decode cX8_judge 51 = .ok (.iconst 1, 1) := by decide +kernel
theorem dX8_judge_52 : decode cX8_judge 52 = .ok (.isub, 1) := by decide +kernel
theorem dX8_judge_53 : decode cX8_judge 53 = .ok (.iload 4, 2) := by decide +kernel
theorem dX8_judge_55 : decode cX8_judge 55 = .ok (.isub, 1) := by decide +kernel
theorem dX8_judge_56 : decode cX8_judge 56 = .ok (.lload_n 2, 1) := by decide +kernel
theorem dX8_judge_57 : decode cX8_judge 57 = .ok (.invokestatic 221, 3) := by decide +kernel
theorem dX8_judge_60 : decode cX8_judge 60 = .ok (.ldc2_w 228, 3) := by decide +kernel
theorem dX8_judge_63 : decode cX8_judge 63 = .ok (.lrem, 1) := by decide +kernel
theorem dX8_judge_64 : decode cX8_judge 64 = .ok (.l2i, 1) := by decide +kernel
theorem dX8_judge_65 : decode cX8_judge 65 = .ok (.invokevirtual 230, 3) := by decide +kernel
theorem dX8_judge_68 : decode cX8_judge 68 = .ok (.ifCond .ne 6, 3) := by decide +kernel
theorem dX8_judge_71 : decode cX8_judge 71 = .ok (.iload 4, 2) := by decide +kernel
theorem dX8_judge_73 : decode cX8_judge 73 = .ok (.ireturn, 1) := by decide +kernel
theorem dX8_judge_74 : decode cX8_judge 74 = .ok (.iinc 4 1, 3) := by decide +kernel
theorem dX8_judge_77 : decode cX8_judge 77 = .ok (.goto (-34), 3) := by decide +kernel
theorem dX8_judge_80 : decode cX8_judge 80 = .ok (.bipush (-9), 2) := by decide +kernel
theorem dX8_judge_82 : decode cX8_judge 82 = .ok (.ireturn, 1) := by decide +kernel
theorem dX8_keep_0 : decode cX8_keep 0 = .ok (.iload_n 1, 1) := by decide +kernel
theorem dX8_keep_1 : decode cX8_keep 1 = .ok (.invokestatic 233, 3) := by decide +kernel
theorem dX8_keep_4 : decode cX8_keep 4 = .ok (.ifCond .ne 5, 3) := by decide +kernel
theorem dX8_keep_7 : decode cX8_keep 7 = .ok (.iconst (-1), 1) := by decide +kernel
theorem dX8_keep_8 : decode cX8_keep 8 = .ok (.ireturn, 1) := by decide +kernel
theorem dX8_keep_9 : decode cX8_keep 9 = .ok (.aload_n 0, 1) := by decide +kernel
theorem dX8_keep_10 : decode cX8_keep 10 = .ok (.getfield 39, 3) := by decide +kernel
theorem dX8_keep_13 : decode cX8_keep 13 = .ok (.iload_n 1, 1) := by decide +kernel
theorem dX8_keep_14 : decode cX8_keep 14 = .ok (.aaload, 1) := by decide +kernel
theorem dX8_keep_15 : decode cX8_keep 15 = .ok (.aload_n 0, 1) := by decide +kernel
theorem dX8_keep_16 : decode cX8_keep 16 = .ok (.getfield 12, 3) := by decide +kernel
theorem dX8_keep_19 : decode cX8_keep 19 = .ok (.invokevirtual 236, 3) := by decide +kernel
theorem dX8_keep_22 : decode cX8_keep 22 = .ok (.aload_n 0, 1) := by decide +kernel
theorem dX8_keep_23 : decode cX8_keep 23 = .ok (.getfield 12, 3) := by decide +kernel
theorem dX8_keep_26 : decode cX8_keep 26 = .ok (.invokevirtual 90, 3) := by decide +kernel
theorem dX8_keep_29 : decode cX8_keep 29 = .ok (.ireturn, 1) := by decide +kernel
theorem dX8_again_0 : decode cX8_again 0 = .ok (.iload_n 1, 1) := by decide +kernel
theorem dX8_again_1 : decode cX8_again 1 = .ok (.invokestatic 233, 3) := by decide +kernel
theorem dX8_again_4 : decode cX8_again 4 = .ok (.ifCond .ne 5, 3) := by decide +kernel
theorem dX8_again_7 : decode cX8_again 7 = .ok (.iconst (-1), 1) := by decide +kernel
theorem dX8_again_8 : decode cX8_again 8 = .ok (.ireturn, 1) := by decide +kernel
theorem dX8_again_9 : decode cX8_again 9 = .ok (.aload_n 0, 1) := by decide +kernel
theorem dX8_again_10 : decode cX8_again 10 = .ok (.getfield 39, 3) := by decide +kernel
theorem dX8_again_13 : decode cX8_again 13 = .ok (.iload_n 1, 1) := by decide +kernel
theorem dX8_again_14 : decode cX8_again 14 = .ok (.aaload, 1) := by decide +kernel
theorem dX8_again_15 : decode cX8_again 15 = .ok (.invokevirtual 239, 3) := by decide +kernel
theorem dX8_again_18 : decode cX8_again 18 = .ok (.ifCond .ne 6, 3) := by decide +kernel
theorem dX8_again_21 : decode cX8_again 21 = .ok (.bipush (-3), 2) := by decide +kernel
theorem dX8_again_23 : decode cX8_again 23 = .ok (.ireturn, 1) := by decide +kernel
theorem dX8_again_24 : decode cX8_again 24 = .ok (.aload_n 0, 1) := by decide +kernel
theorem dX8_again_25 : decode cX8_again 25 = .ok (.getfield 12, 3) := by decide +kernel
theorem dX8_again_28 : decode cX8_again 28 = .ok (.aload_n 0, 1) := by decide +kernel
theorem dX8_again_29 : decode cX8_again 29 = .ok (.getfield 39, 3) := by decide +kernel
theorem dX8_again_32 : decode cX8_again 32 = .ok (.iload_n 1, 1) := by decide +kernel
theorem dX8_again_33 : decode cX8_again 33 = .ok (.aaload, 1) := by decide +kernel
theorem dX8_again_34 : decode cX8_again 34 = .ok (.invokevirtual 242, 3) := by decide +kernel
theorem dX8_again_37 : decode cX8_again 37 = .ok (.invokevirtual 225, 3) := by decide +kernel
theorem dX8_again_40 : decode cX8_again 40 = .ok (.aload_n 0, 1) := by decide +kernel
theorem dX8_again_41 : decode cX8_again 41 = .ok (.getfield 26, 3) := by decide +kernel
theorem dX8_again_44 : decode cX8_again 44 = .ok (.invokevirtual 245, 3) := by decide +kernel
theorem dX8_again_47 : decode cX8_again 47 = .ok (.aload_n 0, 1) := by decide +kernel
theorem dX8_again_48 : decode cX8_again 48 = .ok (.getfield 19, 3) := by decide +kernel
theorem dX8_again_51 : decode cX8_again 51 = .ok (.aload_n 0, 1) := by decide +kernel
theorem dX8_again_52 : decode cX8_again 52 = .ok (.getfield 12, 3) := by decide +kernel
theorem dX8_again_55 : decode cX8_again 55 = .ok (.invokevirtual 76, 3) := by decide +kernel
theorem dX8_again_58 : decode cX8_again 58 = .ok (.aload_n 0, 1) := by decide +kernel
theorem dX8_again_59 : decode cX8_again 59 = .ok (.getfield 12, 3) := by decide +kernel
theorem dX8_again_62 : decode cX8_again 62 = .ok (.invokevirtual 90, 3) := by decide +kernel
theorem dX8_again_65 : decode cX8_again 65 = .ok (.ireturn, 1) := by decide +kernel
theorem dX8_differ_0 : decode cX8_differ 0 = .ok (.iload_n 1, 1) := by decide +kernel
theorem dX8_differ_1 : decode cX8_differ 1 = .ok (.invokestatic 233, 3) := by decide +kernel
theorem dX8_differ_4 : decode cX8_differ 4 = .ok (.ifCond .ne 5, 3) := by decide +kernel
theorem dX8_differ_7 : decode cX8_differ 7 = .ok (.iconst (-1), 1) := by decide +kernel
theorem dX8_differ_8 : decode cX8_differ 8 = .ok (.ireturn, 1) := by decide +kernel
theorem dX8_differ_9 : decode cX8_differ 9 = .ok (.aload_n 0, 1) := by decide +kernel
theorem dX8_differ_10 : decode cX8_differ 10 = .ok (.getfield 39, 3) := by decide +kernel
theorem dX8_differ_13 : decode cX8_differ 13 = .ok (.iload_n 1, 1) := by decide +kernel
theorem dX8_differ_14 : decode cX8_differ 14 = .ok (.aaload, 1) := by decide +kernel
theorem dX8_differ_15 : decode cX8_differ 15 = .ok (.invokevirtual 239, 3) := by decide +kernel
theorem dX8_differ_18 : decode cX8_differ 18 = .ok (.ifCond .ne 6, 3) := by decide +kernel
theorem dX8_differ_21 : decode cX8_differ 21 = .ok (.bipush (-3), 2) := by decide +kernel
theorem dX8_differ_23 : decode cX8_differ 23 = .ok (.ireturn, 1) := by decide +kernel
theorem dX8_differ_24 : decode cX8_differ 24 = .ok (.aload_n 0, 1) := by decide +kernel
theorem dX8_differ_25 : decode cX8_differ 25 = .ok (.getfield 39, 3) := by decide +kernel
theorem dX8_differ_28 : decode cX8_differ 28 = .ok (.iload_n 1, 1) := by decide +kernel
theorem dX8_differ_29 : decode cX8_differ 29 = .ok (.aaload, 1) := by decide +kernel
theorem dX8_differ_30 : decode cX8_differ 30 = .ok (.invokevirtual 242, 3) := by decide +kernel
theorem dX8_differ_33 : decode cX8_differ 33 = .ok (.astore_n 3, 1) := by decide +kernel
theorem dX8_differ_34 : decode cX8_differ 34 = .ok (.iload_n 2, 1) := by decide +kernel
theorem dX8_differ_35 : decode cX8_differ 35 = .ok (.tableswitch 53 0 3 #[29, 35, 41, 47], 29) := by decide +kernel
theorem dX8_differ_64 : decode cX8_differ 64 = .ok (.aload_n 0, 1) := by decide +kernel
theorem dX8_differ_65 : decode cX8_differ 65 = .ok (.aload_n 3, 1) := by decide +kernel
theorem dX8_differ_66 : decode cX8_differ 66 = .ok (.invokevirtual 248, 3) := by decide +kernel
theorem dX8_differ_69 : decode cX8_differ 69 = .ok (.ireturn, 1) := by decide +kernel
theorem dX8_differ_70 : decode cX8_differ 70 = .ok (.aload_n 0, 1) := by decide +kernel
theorem dX8_differ_71 : decode cX8_differ 71 = .ok (.aload_n 3, 1) := by decide +kernel
theorem dX8_differ_72 : decode cX8_differ 72 = .ok (.invokevirtual 252, 3) := by decide +kernel
theorem dX8_differ_75 : decode cX8_differ 75 = .ok (.ireturn, 1) := by decide +kernel
theorem dX8_differ_76 : decode cX8_differ 76 = .ok (.aload_n 0, 1) := by decide +kernel
theorem dX8_differ_77 : decode cX8_differ 77 = .ok (.aload_n 3, 1) := by decide +kernel
theorem dX8_differ_78 : decode cX8_differ 78 = .ok (.invokevirtual 255, 3) := by decide +kernel
theorem dX8_differ_81 : decode cX8_differ 81 = .ok (.ireturn, 1) := by decide +kernel
theorem dX8_differ_82 : decode cX8_differ 82 = .ok (.aload_n 0, 1) := by decide +kernel
theorem dX8_differ_83 : decode cX8_differ 83 = .ok (.aload_n 3, 1) := by decide +kernel
theorem dX8_differ_84 : decode cX8_differ 84 = .ok (.invokevirtual 258, 3) := by decide +kernel
theorem dX8_differ_87 : decode cX8_differ 87 = .ok (.ireturn, 1) := by decide +kernel
theorem dX8_differ_88 : decode cX8_differ 88 = .ok (.bipush (-2), 2) := by decide +kernel
theorem dX8_differ_90 : decode cX8_differ 90 = .ok (.ireturn, 1) := by decide +kernel
theorem dX8_withoutLast_0 : decode cX8_withoutLast 0 = .ok (.lload_n 1, 1) := by decide +kernel
theorem dX8_withoutLast_1 : decode cX8_withoutLast 1 = .ok (.lstore_n 3, 1) := by decide +kernel
theorem dX8_withoutLast_2 : decode cX8_withoutLast 2 = .ok (.iconst 0, 1) := by decide +kernel
theorem dX8_withoutLast_3 : decode cX8_withoutLast 3 = .ok (.istore 5, 2) := by decide +kernel
theorem dX8_withoutLast_5 : decode cX8_withoutLast 5 = .ok (.iload 5, 2) := by decide +kernel
theorem dX8_withoutLast_7 : decode cX8_withoutLast 7 = .ok (.iload_n 0, 1) := by decide +kernel
theorem dX8_withoutLast_8 : decode cX8_withoutLast 8 = .ok (.if_icmp .ge 15, 3) := by decide +kernel
theorem dX8_withoutLast_11 : decode cX8_withoutLast 11 = .ok (.lload_n 3, 1) := by decide +kernel
theorem dX8_withoutLast_12 : decode cX8_withoutLast 12 = .ok (.ldc2_w 228, 3) := by decide +kernel
theorem dX8_withoutLast_15 : decode cX8_withoutLast 15 = .ok (.ldiv, 1) := by decide +kernel
theorem dX8_withoutLast_16 : decode cX8_withoutLast 16 = .ok (.lstore_n 3, 1) := by decide +kernel
theorem dX8_withoutLast_17 : decode cX8_withoutLast 17 = .ok (.iinc 5 1, 3) := by decide +kernel
theorem dX8_withoutLast_20 : decode cX8_withoutLast 20 = .ok (.goto (-15), 3) := by decide +kernel
theorem dX8_withoutLast_23 : decode cX8_withoutLast 23 = .ok (.lload_n 3, 1) := by decide +kernel
theorem dX8_withoutLast_24 : decode cX8_withoutLast 24 = .ok (.lreturn, 1) := by decide +kernel
theorem dX8_canBe_0 : decode cX8_canBe 0 = .ok (.iload_n 1, 1) := by decide +kernel
theorem dX8_canBe_1 : decode cX8_canBe 1 = .ok (.bipush 100, 2) := by decide +kernel
theorem dX8_canBe_3 : decode cX8_canBe 3 = .ok (.idiv, 1) := by decide +kernel
theorem dX8_canBe_4 : decode cX8_canBe 4 = .ok (.bipush 100, 2) := by decide +kernel
theorem dX8_canBe_6 : decode cX8_canBe 6 = .ok (.irem, 1) := by decide +kernel
theorem dX8_canBe_7 : decode cX8_canBe 7 = .ok (.istore_n 2, 1) := by decide +kernel
theorem dX8_canBe_8 : decode cX8_canBe 8 = .ok (.iload_n 1, 1) := by decide +kernel
theorem dX8_canBe_9 : decode cX8_canBe 9 = .ok (.bipush 100, 2) := by decide +kernel
theorem dX8_canBe_11 : decode cX8_canBe 11 = .ok (.irem, 1) := by decide +kernel
theorem dX8_canBe_12 : decode cX8_canBe 12 = .ok (.istore_n 3, 1) := by decide +kernel
theorem dX8_canBe_13 : decode cX8_canBe 13 = .ok (.iload_n 1, 1) := by decide +kernel
theorem dX8_canBe_14 : decode cX8_canBe 14 = .ok (.sipush 10000, 3) := by decide +kernel
theorem dX8_canBe_17 : decode cX8_canBe 17 = .ok (.idiv, 1) := by decide +kernel
theorem dX8_canBe_18 : decode cX8_canBe 18 = .ok (.tableswitch 138 1 5 #[34, 41, 59, 88, 120], 34) := by decide +kernel
theorem dX8_canBe_52 : decode cX8_canBe 52 = .ok (.aload_n 0, 1) := by decide +kernel
theorem dX8_canBe_53 : decode cX8_canBe 53 = .ok (.iload_n 2, 1) := by decide +kernel
theorem dX8_canBe_54 : decode cX8_canBe 54 = .ok (.iload_n 3, 1) := by decide +kernel
theorem dX8_canBe_55 : decode cX8_canBe 55 = .ok (.invokevirtual 261, 3) := by decide +kernel
theorem dX8_canBe_58 : decode cX8_canBe 58 = .ok (.ireturn, 1) := by decide +kernel
theorem dX8_canBe_59 : decode cX8_canBe 59 = .ok (.iload_n 3, 1) := by decide +kernel
theorem dX8_canBe_60 : decode cX8_canBe 60 = .ok (.ifCond .ne 15, 3) := by decide +kernel
theorem dX8_canBe_63 : decode cX8_canBe 63 = .ok (.aload_n 0, 1) := by decide +kernel
theorem dX8_canBe_64 : decode cX8_canBe 64 = .ok (.iload_n 2, 1) := by decide +kernel
theorem dX8_canBe_65 : decode cX8_canBe 65 = .ok (.invokevirtual 264, 3) := by decide +kernel
theorem dX8_canBe_68 : decode cX8_canBe 68 = .ok (.ifCond .eq 7, 3) := by decide +kernel
theorem dX8_canBe_71 : decode cX8_canBe 71 = .ok (.iconst 1, 1) := by decide +kernel
theorem dX8_canBe_72 : decode cX8_canBe 72 = .ok (.goto 4, 3) := by decide +kernel
theorem dX8_canBe_75 : decode cX8_canBe 75 = .ok (.iconst 0, 1) := by decide +kernel
theorem dX8_canBe_76 : decode cX8_canBe 76 = .ok (.ireturn, 1) := by decide +kernel
theorem dX8_canBe_77 : decode cX8_canBe 77 = .ok (.aload_n 0, 1) := by decide +kernel
theorem dX8_canBe_78 : decode cX8_canBe 78 = .ok (.getfield 43, 3) := by decide +kernel
theorem dX8_canBe_81 : decode cX8_canBe 81 = .ok (.iload_n 2, 1) := by decide +kernel
theorem dX8_canBe_82 : decode cX8_canBe 82 = .ok (.invokevirtual 79, 3) := by decide +kernel
theorem dX8_canBe_85 : decode cX8_canBe 85 = .ok (.ifCond .eq 19, 3) := by decide +kernel
theorem dX8_canBe_88 : decode cX8_canBe 88 = .ok (.aload_n 0, 1) := by decide +kernel
theorem dX8_canBe_89 : decode cX8_canBe 89 = .ok (.getfield 43, 3) := by decide +kernel
theorem dX8_canBe_92 : decode cX8_canBe 92 = .ok (.iload_n 2, 1) := by decide +kernel
theorem dX8_canBe_93 : decode cX8_canBe 93 = .ok (.invokevirtual 64, 3) := by decide +kernel
theorem dX8_canBe_96 : decode cX8_canBe 96 = .ok (.iload_n 3, 1) := by decide +kernel
theorem dX8_canBe_97 : decode cX8_canBe 97 = .ok (.if_icmp .ne 7, 3) := by decide +kernel
theorem dX8_canBe_100 : decode cX8_canBe 100 = .ok (.iconst 1, 1) := by decide +kernel
theorem dX8_canBe_101 : decode cX8_canBe 101 = .ok (.goto 4, 3) := by decide +kernel
theorem dX8_canBe_104 : decode cX8_canBe 104 = .ok (.iconst 0, 1) := by decide +kernel
theorem dX8_canBe_105 : decode cX8_canBe 105 = .ok (.ireturn, 1) := by decide +kernel
theorem dX8_canBe_106 : decode cX8_canBe 106 = .ok (.aload_n 0, 1) := by decide +kernel
theorem dX8_canBe_107 : decode cX8_canBe 107 = .ok (.getfield 43, 3) := by decide +kernel
theorem dX8_canBe_110 : decode cX8_canBe 110 = .ok (.iload_n 2, 1) := by decide +kernel
theorem dX8_canBe_111 : decode cX8_canBe 111 = .ok (.invokevirtual 79, 3) := by decide +kernel
theorem dX8_canBe_114 : decode cX8_canBe 114 = .ok (.ifCond .eq 22, 3) := by decide +kernel
theorem dX8_canBe_117 : decode cX8_canBe 117 = .ok (.aload_n 0, 1) := by decide +kernel
theorem dX8_canBe_118 : decode cX8_canBe 118 = .ok (.invokevirtual 267, 3) := by decide +kernel
theorem dX8_canBe_121 : decode cX8_canBe 121 = .ok (.iload_n 2, 1) := by decide +kernel
theorem dX8_canBe_122 : decode cX8_canBe 122 = .ok (.invokevirtual 119, 3) := by decide +kernel
theorem dX8_canBe_125 : decode cX8_canBe 125 = .ok (.getfield 123, 3) := by decide +kernel
theorem dX8_canBe_128 : decode cX8_canBe 128 = .ok (.iload_n 3, 1) := by decide +kernel
theorem dX8_canBe_129 : decode cX8_canBe 129 = .ok (.if_icmp .ne 7, 3) := by decide +kernel
theorem dX8_canBe_132 : decode cX8_canBe 132 = .ok (.iconst 1, 1) := by decide +kernel
theorem dX8_canBe_133 : decode cX8_canBe 133 = .ok (.goto 4, 3) := by decide +kernel
theorem dX8_canBe_136 : decode cX8_canBe 136 = .ok (.iconst 0, 1) := by decide +kernel
theorem dX8_canBe_137 : decode cX8_canBe 137 = .ok (.ireturn, 1) := by decide +kernel
theorem dX8_canBe_138 : decode cX8_canBe 138 = .ok (.aload_n 0, 1) := by decide +kernel
theorem dX8_canBe_139 : decode cX8_canBe 139 = .ok (.invokevirtual 267, 3) := by decide +kernel
theorem dX8_canBe_142 : decode cX8_canBe 142 = .ok (.iload_n 2, 1) := by decide +kernel
theorem dX8_canBe_143 : decode cX8_canBe 143 = .ok (.invokevirtual 173, 3) := by decide +kernel
theorem dX8_canBe_146 : decode cX8_canBe 146 = .ok (.iload_n 3, 1) := by decide +kernel
theorem dX8_canBe_147 : decode cX8_canBe 147 = .ok (.if_icmp .ne 7, 3) := by decide +kernel
theorem dX8_canBe_150 : decode cX8_canBe 150 = .ok (.iconst 1, 1) := by decide +kernel
theorem dX8_canBe_151 : decode cX8_canBe 151 = .ok (.goto 4, 3) := by decide +kernel
theorem dX8_canBe_154 : decode cX8_canBe 154 = .ok (.iconst 0, 1) := by decide +kernel
theorem dX8_canBe_155 : decode cX8_canBe 155 = .ok (.ireturn, 1) := by decide +kernel
theorem dX8_canBe_156 : decode cX8_canBe 156 = .ok (.iconst 0, 1) := by decide +kernel
theorem dX8_canBe_157 : decode cX8_canBe 157 = .ok (.ireturn, 1) := by decide +kernel
