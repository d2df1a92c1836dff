theorem dX9_rootOf_0 : decode cX9_rootOf 0 = .ok (.aload_n 0, 1) := by decide +kernel
theorem dX9_rootOf_1 : decode cX9_rootOf 1 = .ok (.aload_n 1, 1) := by decide +kernel
theorem dX9_rootOf_2 : decode cX9_rootOf 2 = .ok (.iconst 0, 1) := by decide +kernel
theorem dX9_rootOf_3 : decode cX9_rootOf 3 = .ok (.invokevirtual 165, 3) := by decide +kernel
theorem dX9_rootOf_6 : decode cX9_rootOf 6 = .ok (.aload_n 0, 1) := by decide +kernel
theorem dX9_rootOf_7 : decode cX9_rootOf 7 = .ok (.getfield 50, 3) := by decide +kernel
theorem dX9_rootOf_10 : decode cX9_rootOf 10 = .ok (.iconst 0, 1) := by decide +kernel
theorem dX9_rootOf_11 : decode cX9_rootOf 11 = .ok (.iaload, 1) := by decide +kernel
theorem dX9_rootOf_12 : decode cX9_rootOf 12 = .ok (.bipush (-9), 2) := by decide +kernel
theorem dX9_rootOf_14 : decode cX9_rootOf 14 = .ok (.if_icmp .ne 7, 3) := by decide +kernel
theorem dX9_rootOf_17 : decode cX9_rootOf 17 = .ok (.iconst 0, 1) := by decide +kernel
theorem dX9_rootOf_18 : decode cX9_rootOf 18 = .ok (.goto 14, 3) := by decide +kernel
theorem dX9_rootOf_21 : decode cX9_rootOf 21 = .ok (.aload_n 0, 1) := by decide +kernel
theorem dX9_rootOf_22 : decode cX9_rootOf 22 = .ok (.getfield 47, 3) := by decide +kernel
theorem dX9_rootOf_25 : decode cX9_rootOf 25 = .ok (.aload_n 0, 1) := by decide +kernel
theorem dX9_rootOf_26 : decode cX9_rootOf 26 = .ok (.getfield 50, 3) := by decide +kernel
theorem dX9_rootOf_29 : decode cX9_rootOf 29 = .ok (.iconst 0, 1) := by decide +kernel
theorem dX9_rootOf_30 : decode cX9_rootOf 30 = .ok (.iaload, 1) := by decide +kernel
theorem dX9_rootOf_31 : decode cX9_rootOf 31 = .ok (.iaload, 1) := by decide +kernel
theorem dX9_rootOf_32 : decode cX9_rootOf 32 = .ok (.ireturn, 1) := by decide +kernel
theorem dX9_note_0 : decode cX9_note 0 = .ok (.iconst 0, 1) := by decide +kernel
theorem dX9_note_1 : decode cX9_note 1 = .ok (.istore_n 1, 1) := by decide +kernel
theorem dX9_note_2 : decode cX9_note 2 = .ok (.iload_n 1, 1) := by decide +kernel
theorem dX9_note_3 : decode cX9_note 3 = .ok (.bipush 100, 2) := by decide +kernel
theorem dX9_note_5 : decode cX9_note 5 = .ok (.if_icmp .ge 29, 3) := by decide +kernel
theorem dX9_note_8 : decode cX9_note 8 = .ok (.aload_n 0, 1) := by decide +kernel
theorem dX9_note_9 : decode cX9_note 9 = .ok (.getfield 16, 3) := by decide +kernel
theorem dX9_note_12 : decode cX9_note 12 = .ok (.bipush 100, 2) := by decide +kernel
theorem dX9_note_14 : decode cX9_note 14 = .ok (.aload_n 0, 1) := by decide +kernel
theorem dX9_note_15 : decode cX9_note 15 = .ok (.getfield 169, 3) := by decide +kernel
theorem dX9_note_18 : decode cX9_note 18 = .ok (.imul, 1) := by decide +kernel
theorem dX9_note_19 : decode cX9_note 19 = .ok (.iload_n 1, 1) := by decide +kernel
theorem dX9_note_20 : decode cX9_note 20 = .ok (.iadd, 1) := by decide +kernel
theorem dX9_note_21 : decode cX9_note 21 = .ok (.aload_n 0, 1) := by decide +kernel
theorem dX9_note_22 : decode cX9_note 22 = .ok (.getfield 7, 3) := by decide +kernel
theorem dX9_note_25 : decode cX9_note 25 = .ok (.iload_n 1, 1) := by decide +kernel
theorem dX9_note_26 : decode cX9_note 26 = .ok (.iaload, 1) := by decide +kernel
theorem dX9_note_27 : decode cX9_note 27 = .ok (.iastore, 1) := by decide +kernel
theorem dX9_note_28 : decode cX9_note 28 = .ok (.iinc 1 1, 3) := by decide +kernel
theorem dX9_note_31 : decode cX9_note 31 = .ok (.goto (-29), 3) := by decide +kernel
theorem dX9_note_34 : decode cX9_note 34 = .ok (.aload_n 0, 1) := by decide +kernel
theorem dX9_note_35 : decode cX9_note 35 = .ok (.aload_n 0, 1) := by decide +kernel
theorem dX9_note_36 : decode cX9_note 36 = .ok (.getfield 169, 3) := by decide +kernel
theorem dX9_note_39 : decode cX9_note 39 = .ok (.iconst 1, 1) := by decide +kernel
theorem dX9_note_40 : decode cX9_note 40 = .ok (.iadd, 1) := by decide +kernel
theorem dX9_note_41 : decode cX9_note 41 = .ok (.bipush 14, 2) := by decide +kernel
theorem dX9_note_43 : decode cX9_note 43 = .ok (.irem, 1) := by decide +kernel
theorem dX9_note_44 : decode cX9_note 44 = .ok (.putfield 169, 3) := by decide +kernel
theorem dX9_note_47 : decode cX9_note 47 = .ok (.aload_n 0, 1) := by decide +kernel
theorem dX9_note_48 : decode cX9_note 48 = .ok (.aload_n 0, 1) := by decide +kernel
theorem dX9_note_49 : decode cX9_note 49 = .ok (.getfield 172, 3) := by decide +kernel
theorem dX9_note_52 : decode cX9_note 52 = .ok (.bipush 14, 2) := by decide +kernel
theorem dX9_note_54 : decode cX9_note 54 = .ok (.if_icmp .ge 12, 3) := by decide +kernel
theorem dX9_note_57 : decode cX9_note 57 = .ok (.aload_n 0, 1) := by decide +kernel
theorem dX9_note_58 : decode cX9_note 58 = .ok (.getfield 172, 3) := by decide +kernel
theorem dX9_note_61 : decode cX9_note 61 = .ok (.iconst 1, 1) := by decide +kernel
theorem dX9_note_62 : decode cX9_note 62 = .ok (.iadd, 1) := by decide +kernel
theorem dX9_note_63 : decode cX9_note 63 = .ok (.goto 5, 3) := by decide +kernel
theorem dX9_note_66 : decode cX9_note 66 = .ok (.bipush 14, 2) := by decide +kernel
theorem dX9_note_68 : decode cX9_note 68 = .ok (.putfield 172, 3) := by decide +kernel
theorem dX9_note_71 : decode cX9_note 71 = .ok (.return_, 1) := by decide +kernel
theorem dX9_mayPut_0 : decode cX9_mayPut 0 = .ok (.aload_n 0, 1) := by decide +kernel
theorem dX9_mayPut_1 : decode cX9_mayPut 1 = .ok (.iload_n 1, 1) := by decide +kernel
theorem dX9_mayPut_2 : decode cX9_mayPut 2 = .ok (.iaload, 1) := by decide +kernel
theorem dX9_mayPut_3 : decode cX9_mayPut 3 = .ok (.bipush (-9), 2) := by decide +kernel
theorem dX9_mayPut_5 : decode cX9_mayPut 5 = .ok (.if_icmp .ne 12, 3) := by decide +kernel
theorem dX9_mayPut_8 : decode cX9_mayPut 8 = .ok (.aload_n 0, 1) := by decide +kernel
theorem dX9_mayPut_9 : decode cX9_mayPut 9 = .ok (.invokestatic 175, 3) := by decide +kernel
theorem dX9_mayPut_12 : decode cX9_mayPut 12 = .ok (.bipush 40, 2) := by decide +kernel
theorem dX9_mayPut_14 : decode cX9_mayPut 14 = .ok (.if_icmp .ge 7, 3) := by decide +kernel
theorem dX9_mayPut_17 : decode cX9_mayPut 17 = .ok (.iconst 1, 1) := by decide +kernel
theorem dX9_mayPut_18 : decode cX9_mayPut 18 = .ok (.goto 4, 3) := by decide +kernel
theorem dX9_mayPut_21 : decode cX9_mayPut 21 = .ok (.iconst 0, 1) := by decide +kernel
theorem dX9_mayPut_22 : decode cX9_mayPut 22 = .ok (.ireturn, 1) := by decide +kernel
theorem dX9_put_0 : decode cX9_put 0 = .ok (.iload_n 1, 1) := by decide +kernel
theorem dX9_put_1 : decode cX9_put 1 = .ok (.invokestatic 125, 3) := by decide +kernel
theorem dX9_put_4 : decode cX9_put 4 = .ok (.ifCond .eq 10, 3) := by decide +kernel
theorem dX9_put_7 : decode cX9_put 7 = .ok (.iload_n 2, 1) := by decide +kernel
theorem dX9_put_8 : decode cX9_put 8 = .ok (.invokestatic 125, 3) := by decide +kernel
theorem dX9_put_11 : decode cX9_put 11 = .ok (.ifCond .ne 6, 3) := by decide +kernel
theorem dX9_put_14 : decode cX9_put 14 = .ok (.bipush (-2), 2) := by decide +kernel
theorem dX9_put_16 : decode cX9_put 16 = .ok (.ireturn, 1) := by decide +kernel
theorem dX9_put_17 : decode cX9_put 17 = .ok (.aload_n 0, 1) := by decide +kernel
theorem dX9_put_18 : decode cX9_put 18 = .ok (.getfield 7, 3) := by decide +kernel
theorem dX9_put_21 : decode cX9_put 21 = .ok (.iload_n 1, 1) := by decide +kernel
theorem dX9_put_22 : decode cX9_put 22 = .ok (.invokestatic 179, 3) := by decide +kernel
theorem dX9_put_25 : decode cX9_put 25 = .ok (.ifCond .ne 6, 3) := by decide +kernel
theorem dX9_put_28 : decode cX9_put 28 = .ok (.bipush (-4), 2) := by decide +kernel
theorem dX9_put_30 : decode cX9_put 30 = .ok (.ireturn, 1) := by decide +kernel
theorem dX9_put_31 : decode cX9_put 31 = .ok (.aload_n 0, 1) := by decide +kernel
theorem dX9_put_32 : decode cX9_put 32 = .ok (.invokevirtual 183, 3) := by decide +kernel
theorem dX9_put_35 : decode cX9_put 35 = .ok (.aload_n 0, 1) := by decide +kernel
theorem dX9_put_36 : decode cX9_put 36 = .ok (.getfield 7, 3) := by decide +kernel
theorem dX9_put_39 : decode cX9_put 39 = .ok (.iload_n 1, 1) := by decide +kernel
theorem dX9_put_40 : decode cX9_put 40 = .ok (.iaload, 1) := by decide +kernel
theorem dX9_put_41 : decode cX9_put 41 = .ok (.istore_n 3, 1) := by decide +kernel
theorem dX9_put_42 : decode cX9_put 42 = .ok (.aload_n 0, 1) := by decide +kernel
theorem dX9_put_43 : decode cX9_put 43 = .ok (.getfield 7, 3) := by decide +kernel
theorem dX9_put_46 : decode cX9_put 46 = .ok (.iload_n 1, 1) := by decide +kernel
theorem dX9_put_47 : decode cX9_put 47 = .ok (.iload_n 2, 1) := by decide +kernel
theorem dX9_put_48 : decode cX9_put 48 = .ok (.iastore, 1) := by decide +kernel
theorem dX9_put_49 : decode cX9_put 49 = .ok (.iload_n 3, 1) := by decide +kernel
theorem dX9_put_50 : decode cX9_put 50 = .ok (.ireturn, 1) := by decide +kernel
theorem dX9_remove_0 : decode cX9_remove 0 = .ok (.iload_n 1, 1) := by decide +kernel
theorem dX9_remove_1 : decode cX9_remove 1 = .ok (.invokestatic 125, 3) := by decide +kernel
theorem dX9_remove_4 : decode cX9_remove 4 = .ok (.ifCond .ne 6, 3) := by decide +kernel
theorem dX9_remove_7 : decode cX9_remove 7 = .ok (.bipush (-2), 2) := by decide +kernel
theorem dX9_remove_9 : decode cX9_remove 9 = .ok (.ireturn, 1) := by decide +kernel
theorem dX9_remove_10 : decode cX9_remove 10 = .ok (.aload_n 0, 1) := by decide +kernel
theorem dX9_remove_11 : decode cX9_remove 11 = .ok (.getfield 7, 3) := by decide +kernel
theorem dX9_remove_14 : decode cX9_remove 14 = .ok (.iload_n 1, 1) := by decide +kernel
theorem dX9_remove_15 : decode cX9_remove 15 = .ok (.iaload, 1) := by decide +kernel
theorem dX9_remove_16 : decode cX9_remove 16 = .ok (.bipush (-9), 2) := by decide +kernel
theorem dX9_remove_18 : decode cX9_remove 18 = .ok (.if_icmp .ne 5, 3) := by decide +kernel
theorem dX9_remove_21 : decode cX9_remove 21 = .ok (.iconst (-1), 1) := by decide +kernel
theorem dX9_remove_22 : decode cX9_remove 22 = .ok (.ireturn, 1) := by decide +kernel
theorem dX9_remove_23 : decode cX9_remove 23 = .ok (.aload_n 0, 1) := by decide +kernel
theorem dX9_remove_24 : decode cX9_remove 24 = .ok (.invokevirtual 183, 3) := by decide +kernel
theorem dX9_remove_27 : decode cX9_remove 27 = .ok (.aload_n 0, 1) := by decide +kernel
theorem dX9_remove_28 : decode cX9_remove 28 = .ok (.getfield 7, 3) := by decide +kernel
theorem dX9_remove_31 : decode cX9_remove 31 = .ok (.iload_n 1, 1) := by decide +kernel
theorem dX9_remove_32 : decode cX9_remove 32 = .ok (.iaload, 1) := by decide +kernel
theorem dX9_remove_33 : decode cX9_remove 33 = .ok (.istore_n 2, 1) := by decide +kernel
theorem dX9_remove_34 : decode cX9_remove 34 = .ok (.aload_n 0, 1) := by decide +kernel
theorem dX9_remove_35 : decode cX9_remove 35 = .ok (.getfield 7, 3) := by decide +kernel
theorem dX9_remove_38 : decode cX9_remove 38 = .ok (.iload_n 1, 1) := by decide +kernel
theorem dX9_remove_39 : decode cX9_remove 39 = .ok (.bipush (-9), 2) := by decide +kernel
theorem dX9_remove_41 : decode cX9_remove 41 = .ok (.iastore, 1) := by decide +kernel
theorem dX9_remove_42 : decode cX9_remove 42 = .ok (.iload_n 2, 1) := by decide +kernel
theorem dX9_remove_43 : decode cX9_remove 43 = .ok (.ireturn, 1) := by decide +kernel
theorem dX9_get_0 : decode cX9_get 0 = .ok (.iload_n 1, 1) := by decide +kernel
theorem dX9_get_1 : decode cX9_get 1 = .ok (.invokestatic 125, 3) := by decide +kernel
theorem dX9_get_4 : decode cX9_get 4 = .ok (.ifCond .eq 12, 3) := by decide +kernel
theorem dX9_get_7 : decode cX9_get 7 = .ok (.aload_n 0, 1) := by decide +kernel
theorem dX9_get_8 : decode cX9_get 8 = .ok (.getfield 7, 3) := by decide +kernel
theorem dX9_get_11 : decode cX9_get 11 = .ok (.iload_n 1, 1) := by decide +kernel
theorem dX9_get_12 : decode cX9_get 12 = .ok (.iaload, 1) := by decide +kernel
theorem dX9_get_13 : decode cX9_get 13 = .ok (.goto 5, 3) := by decide +kernel
theorem dX9_get_16 : decode cX9_get 16 = .ok (.bipush (-2), 2) := by decide +kernel
theorem dX9_get_18 : decode cX9_get 18 = .ok (.ireturn, 1) := by decide +kernel
theorem dX9_scatter_0 : decode cX9_scatter 0 = .ok (.iload_n 1, 1) := by decide +kernel
theorem dX9_scatter_1 : decode cX9_scatter 1 = .ok (.i2l, 1) := by decide +kernel
theorem dX9_scatter_2 : decode cX9_scatter 2 = .ok (.lconst 1, 1) := by decide +kernel
theorem dX9_scatter_3 : decode cX9_scatter 3 = .ok (.ldc2_w 186, 3) := by decide +kernel
theorem dX9_scatter_6 : decode cX9_scatter 6 = .ok (.invokestatic 121, 3) := by decide +kernel
theorem dX9_scatter_9 : decode cX9_scatter 9 = .ok (.ifCond .ne 6, 3) := by decide +kernel
theorem dX9_scatter_12 : decode cX9_scatter 12 = .ok (.bipush (-2), 2) := by decide +kernel
theorem dX9_scatter_14 : decode cX9_scatter 14 = .ok (.ireturn, 1) := by decide +kernel
theorem dX9_scatter_15 : decode cX9_scatter 15 = .ok (.aload_n 0, 1) := by decide +kernel
theorem dX9_scatter_16 : decode cX9_scatter 16 = .ok (.invokevirtual 183, 3) := by decide +kernel
theorem dX9_scatter_19 : decode cX9_scatter 19 = .ok (.lload_n 2, 1) := by decide +kernel
theorem dX9_scatter_20 : decode cX9_scatter 20 = .ok (.lstore 4, 2) := by decide +kernel
theorem dX9_scatter_22 : decode cX9_scatter 22 = .ok (.iconst 0, 1) := by decide +kernel
theorem dX9_scatter_23 : decode cX9_scatter 23 = .ok (.istore 6, 2) := by decide +kernel
theorem dX9_scatter_25 : decode cX9_scatter 25 = .ok (.iload 6, 2) := by decide +kernel
theorem dX9_scatter_27 : decode cX9_scatter 27 = .ok (.iload_n 1, 1) := by decide +kernel
theorem dX9_scatter_28 : decode cX9_scatter 28 = .ok (.if_icmp .ge 63, 3) := by decide +kernel
theorem dX9_scatter_31 : decode cX9_scatter 31 = .ok (.lload 4, 2) := by decide +kernel
theorem dX9_scatter_33 : decode cX9_scatter 33 = .ok (.ldc2_w 188, 3) := by decide +kernel
theorem dX9_scatter_36 : decode cX9_scatter 36 = .ok (.lmul, 1) := by decide +kernel
theorem dX9_scatter_37 : decode cX9_scatter 37 = .ok (.ldc2_w 190, 3) := by decide +kernel
theorem dX9_scatter_40 : decode cX9_scatter 40 = .ok (.ladd, 1) := by decide +kernel
theorem dX9_scatter_41 : decode cX9_scatter 41 = .ok (.lstore 4, 2) := by decide +kernel
theorem dX9_scatter_43 : decode cX9_scatter 43 = .ok (.lload 4, 2) := by decide +kernel
theorem dX9_scatter_45 : decode cX9_scatter 45 = .ok (.bipush 33, 2) := by decide +kernel
theorem dX9_scatter_47 : decode cX9_scatter 47 = .ok (.lushr, 1) := by decide +kernel
theorem dX9_scatter_48 : decode cX9_scatter 48 = .ok (.l2i, 1) := by decide +kernel
theorem dX9_scatter_49 : decode cX9_scatter 49 = .ok (.istore 7, 2) := by decide +kernel
theorem dX9_scatter_51 : decode cX9_scatter 51 = .ok (.aload_n 0, 1) := by decide +kernel
theorem dX9_scatter_52 : decode cX9_scatter 52 = .ok (.getfield 7, 3) := by decide +kernel
theorem dX9_scatter_55 : decode cX9_scatter 55 = .ok (.iload 7, 2) := by decide +kernel
theorem dX9_scatter_57 : decode cX9_scatter 57 = .ok (.bipush 100, 2) := by decide +kernel
theorem dX9_scatter_59 : decode cX9_scatter 59 = .ok (.irem, 1) := by decide +kernel
theorem dX9_scatter_60 : decode cX9_scatter 60 = .ok (.invokestatic 179, 3) := by decide +kernel
theorem dX9_scatter_63 : decode cX9_scatter 63 = .ok (.ifCond .eq 22, 3) := by decide +kernel
theorem dX9_scatter_66 : decode cX9_scatter 66 = .ok (.aload_n 0, 1) := by decide +kernel
theorem dX9_scatter_67 : decode cX9_scatter 67 = .ok (.getfield 7, 3) := by decide +kernel
theorem dX9_scatter_70 : decode cX9_scatter 70 = .ok (.iload 7, 2) := by decide +kernel
theorem dX9_scatter_72 : decode cX9_scatter 72 = .ok (.bipush 100, 2) := by decide +kernel
theorem dX9_scatter_74 : decode cX9_scatter 74 = .ok (.irem, 1) := by decide +kernel
theorem dX9_scatter_75 : decode cX9_scatter 75 = .ok (.iload 7, 2) := by decide +kernel
theorem dX9_scatter_77 : decode cX9_scatter 77 = .ok (.sipush 128, 3) := by decide +kernel
theorem dX9_scatter_80 : decode cX9_scatter 80 = .ok (.idiv, 1) := by decide +kernel
theorem dX9_scatter_81 : decode cX9_scatter 81 = .ok (.bipush 100, 2) := by decide +kernel
theorem dX9_scatter_83 : decode cX9_scatter 83 = .ok (.irem, 1) := by decide +kernel
theorem dX9_scatter_84 : decode cX9_scatter 84 = .ok (.iastore, 1) := by decide +kernel
theorem dX9_scatter_85 : decode cX9_scatter 85 = .ok (.iinc 6 1, 3) := by decide +kernel
theorem dX9_scatter_88 : decode cX9_scatter 88 = .ok (.goto (-63), 3) := by decide +kernel
theorem dX9_scatter_91 : decode cX9_scatter 91 = .ok (.aload_n 0, 1) := by decide +kernel
theorem dX9_scatter_92 : decode cX9_scatter 92 = .ok (.getfield 7, 3) := by decide +kernel
theorem dX9_scatter_95 : decode cX9_scatter 95 = .ok (.invokestatic 175, 3) := by decide +kernel
theorem dX9_scatter_98 : decode cX9_scatter 98 = .ok (.ireturn, 1) := by decide +kernel
theorem dX9_undo_0 : decode cX9_undo 0 = .ok (.aload_n 0, 1) := by decide +kernel
theorem dX9_undo_1 : decode cX9_undo 1 = .ok (.getfield 172, 3) := by decide +kernel
theorem dX9_undo_4 : decode cX9_undo 4 = .ok (.ifCond .ne 6, 3) := by decide +kernel
theorem dX9_undo_7 : decode cX9_undo 7 = .ok (.bipush (-3), 2) := by decide +kernel
theorem dX9_undo_9 : decode cX9_undo 9 = .ok (.ireturn, 1) := by decide +kernel
theorem dX9_undo_10 : decode cX9_undo 10 = .ok (.aload_n 0, 1) := by decide +kernel
theorem dX9_undo_11 : decode cX9_undo 11 = .ok (.dup, 1) := by decide +kernel
theorem dX9_undo_12 : decode cX9_undo 12 = .ok (.getfield 172, 3) := by decide +kernel
theorem dX9_undo_15 : decode cX9_undo 15 = .ok (.iconst 1, 1) := by decide +kernel
theorem dX9_undo_16 : decode cX9_undo 16 = .ok (.isub, 1) := by decide +kernel
theorem dX9_undo_17 : decode cX9_undo 17 = .ok (.putfield 172, 3) := by decide +kernel
theorem dX9_undo_20 : decode cX9_undo 20 = .ok (.aload_n 0, 1) := by decide +kernel
theorem dX9_undo_21 : decode cX9_undo 21 = .ok (.aload_n 0, 1) := by decide +kernel
theorem dX9_undo_22 : decode cX9_undo 22 = .ok (.getfield 169, 3) := by decide +kernel
theorem dX9_undo_25 : decode cX9_undo 25 = .ok (.bipush 14, 2) := by decide +kernel
theorem dX9_undo_27 : decode cX9_undo 27 = .ok (.iadd, 1) := by decide +kernel
theorem dX9_undo_28 : decode cX9_undo 28 = .ok (.iconst 1, 1) := by decide +kernel
theorem dX9_undo_29 : decode cX9_undo 29 = .ok (.isub, 1) := by decide +kernel
theorem dX9_undo_30 : decode cX9_undo 30 = .ok (.bipush 14, 2) := by decide +kernel
theorem dX9_undo_32 : decode cX9_undo 32 = .ok (.irem, 1) := by decide +kernel
theorem dX9_undo_33 : decode cX9_undo 33 = .ok (.putfield 169, 3) := by decide +kernel
theorem dX9_undo_36 : decode cX9_undo 36 = .ok (.iconst 0, 1) := by decide +kernel
theorem dX9_undo_37 : decode cX9_undo 37 = .ok (.istore_n 1, 1) := by decide +kernel
theorem dX9_undo_38 : decode cX9_undo 38 = .ok (.iload_n 1, 1) := by decide +kernel
theorem dX9_undo_39 : decode cX9_undo 39 = .ok (.bipush 100, 2) := by decide +kernel
theorem dX9_undo_41 : decode cX9_undo 41 = .ok (.if_icmp .ge 29, 3) := by decide +kernel
theorem dX9_undo_44 : decode cX9_undo 44 = .ok (.aload_n 0, 1) := by decide +kernel
theorem dX9_undo_45 : decode cX9_undo 45 = .ok (.getfield 7, 3) := by decide +kernel
theorem dX9_undo_48 : decode cX9_undo 48 = .ok (.iload_n 1, 1) := by decide +kernel
theorem dX9_undo_49 : decode cX9_undo 49 = .ok (.aload_n 0, 1) := by decide +kernel
theorem dX9_undo_50 : decode cX9_undo 50 = .ok (.getfield 16, 3) := by decide +kernel
theorem dX9_undo_53 : decode cX9_undo 53 = .ok (.bipush 100, 2) := by decide +kernel
theorem dX9_undo_55 : decode cX9_undo 55 = .ok (.aload_n 0, 1) := by decide +kernel
theorem dX9_undo_56 : decode cX9_undo 56 = .ok (.getfield 169, 3) := by decide +kernel
theorem dX9_undo_59 : decode cX9_undo 59 = .ok (.imul, 1) := by decide +kernel
theorem dX9_undo_60 : decode cX9_undo 60 = .ok (.iload_n 1, 1) := by decide +kernel
theorem dX9_undo_61 : decode cX9_undo 61 = .ok (.iadd, 1) := by decide +kernel
theorem dX9_undo_62 : decode cX9_undo 62 = .ok (.iaload, 1) := by decide +kernel
theorem dX9_undo_63 : decode cX9_undo 63 = .ok (.iastore, 1) := by decide +kernel
theorem dX9_undo_64 : decode cX9_undo 64 = .ok (.iinc 1 1, 3) := by decide +kernel
theorem dX9_undo_67 : decode cX9_undo 67 = .ok (.goto (-29), 3) := by decide +kernel
theorem dX9_undo_70 : decode cX9_undo 70 = .ok (.aload_n 0, 1) := by decide +kernel
theorem dX9_undo_71 : decode cX9_undo 71 = .ok (.getfield 172, 3) := by decide +kernel
theorem dX9_undo_74 : decode cX9_undo 74 = .ok (.ireturn, 1) := by decide +kernel
theorem dX9_height_0 : decode cX9_height 0 = .ok (.aload_n 0, 1) := by decide +kernel
theorem dX9_height_1 : decode cX9_height 1 = .ok (.aload_n 0, 1) := by decide +kernel
theorem dX9_height_2 : decode cX9_height 2 = .ok (.getfield 7, 3) := by decide +kernel
theorem dX9_height_5 : decode cX9_height 5 = .ok (.iconst 0, 1) := by decide +kernel
theorem dX9_height_6 : decode cX9_height 6 = .ok (.invokevirtual 165, 3) := by decide +kernel
theorem dX9_height_9 : decode cX9_height 9 = .ok (.iconst 0, 1) := by decide +kernel
theorem dX9_height_10 : decode cX9_height 10 = .ok (.istore_n 1, 1) := by decide +kernel
theorem dX9_height_11 : decode cX9_height 11 = .ok (.iconst 0, 1) := by decide +kernel
theorem dX9_height_12 : decode cX9_height 12 = .ok (.istore_n 2, 1) := by decide +kernel
theorem dX9_height_13 : decode cX9_height 13 = .ok (.iload_n 2, 1) := by decide +kernel
theorem dX9_height_14 : decode cX9_height 14 = .ok (.bipush 100, 2) := by decide +kernel
theorem dX9_height_16 : decode cX9_height 16 = .ok (.if_icmp .ge 45, 3) := by decide +kernel
theorem dX9_height_19 : decode cX9_height 19 = .ok (.aload_n 0, 1) := by decide +kernel
theorem dX9_height_20 : decode cX9_height 20 = .ok (.getfield 7, 3) := by decide +kernel
theorem dX9_height_23 : decode cX9_height 23 = .ok (.iload_n 2, 1) := by decide +kernel
theorem dX9_height_24 : decode cX9_height 24 = .ok (.iaload, 1) := by decide +kernel
theorem dX9_height_25 : decode cX9_height 25 = .ok (.bipush (-9), 2) := by decide +kernel
theorem dX9_height_27 : decode cX9_height 27 = .ok (.if_icmp .eq 26, 3) := by decide +kernel
theorem dX9_height_30 : decode cX9_height 30 = .ok (.aload_n 0, 1) := by decide +kernel
theorem dX9_height_31 : decode cX9_height 31 = .ok (.getfield 35, 3) := by decide +kernel
theorem dX9_height_34 : decode cX9_height 34 = .ok (.iload_n 2, 1) := by decide +kernel
theorem dX9_height_35 : decode cX9_height 35 = .ok (.iaload, 1) := by decide +kernel
theorem dX9_height_36 : decode cX9_height 36 = .ok (.iconst 1, 1) := by decide +kernel
theorem dX9_height_37 : decode cX9_height 37 = .ok (.iadd, 1) := by decide +kernel
theorem dX9_height_38 : decode cX9_height 38 = .ok (.iload_n 1, 1) := by decide +kernel
theorem dX9_height_39 : decode cX9_height 39 = .ok (.if_icmp .le 14, 3) := by decide +kernel
theorem dX9_height_42 : decode cX9_height 42 = .ok (.aload_n 0, 1) := by decide +kernel
theorem dX9_height_43 : decode cX9_height 43 = .ok (.getfield 35, 3) := by decide +kernel
theorem dX9_height_46 : decode cX9_height 46 = .ok (.iload_n 2, 1) := by decide +kernel
theorem dX9_height_47 : decode cX9_height 47 = .ok (.iaload, 1) := by decide +kernel
theorem dX9_height_48 : decode cX9_height 48 = .ok (.iconst 1, 1) := by decide +kernel
theorem dX9_height_49 : decode cX9_height 49 = .ok (.iadd, 1) := by decide +kernel
theorem dX9_height_50 : decode cX9_height 50 = .ok (.goto 4, 3) := by decide +kernel
theorem dX9_height_53 : decode cX9_height 53 = .ok (.iload_n 1, 1) := by decide +kernel
theorem dX9_height_54 : decode cX9_height 54 = .ok (.istore_n 1, 1) := by decide +kernel
theorem dX9_height_55 : decode cX9_height 55 = .ok (.iinc 2 1, 3) := by decide +kernel
theorem dX9_height_58 : decode cX9_height 58 = .ok (.goto (-45), 3) := by decide +kernel
theorem dX9_height_61 : decode cX9_height 61 = .ok (.iload_n 1, 1) := by decide +kernel
theorem dX9_height_62 : decode cX9_height 62 = .ok (.ireturn, 1) := by decide +kernel
theorem dX9_values_0 : decode cX9_values 0 = .ok (.iconst 0, 1) := by decide +kernel
theorem dX9_values_1 : decode cX9_values 1 = .ok (.istore_n 1, 1) := by decide +kernel
theorem dX9_values_2 : decode cX9_values 2 = .ok (.iconst 0, 1) := by decide +kernel
theorem dX9_values_3 : decode cX9_values 3 = .ok (.istore_n 2, 1) := by decide +kernel
theorem dX9_values_4 : decode cX9_values 4 = .ok (.iload_n 2, 1) := by decide +kernel
theorem dX9_values_5 : decode cX9_values 5 = .ok (.bipush 100, 2) := by decide +kernel
theorem dX9_values_7 : decode cX9_values 7 = .ok (.if_icmp .ge 33, 3) := by decide +kernel
theorem dX9_values_10 : decode cX9_values 10 = .ok (.iload_n 1, 1) := by decide +kernel
theorem dX9_values_11 : decode cX9_values 11 = .ok (.aload_n 0, 1) := by decide +kernel
theorem dX9_values_12 : decode cX9_values 12 = .ok (.getfield 7, 3) := by decide +kernel
theorem dX9_values_15 : decode cX9_values 15 = .ok (.iload_n 2, 1) := by decide +kernel
theorem dX9_values_16 : decode cX9_values 16 = .ok (.iaload, 1) := by decide +kernel
theorem dX9_values_17 : decode cX9_values 17 = .ok (.bipush (-9), 2) := by decide +kernel
theorem dX9_values_19 : decode cX9_values 19 = .ok (.if_icmp .ne 7, 3) := by decide +kernel
theorem dX9_values_22 : decode cX9_values 22 = .ok (.iconst 0, 1) := by decide +kernel
theorem dX9_values_23 : decode cX9_values 23 = .ok (.goto 9, 3) := by decide +kernel
theorem dX9_values_26 : decode cX9_values 26 = .ok (.aload_n 0, 1) := by decide +kernel
theorem dX9_values_27 : decode cX9_values 27 = .ok (.getfield 7, 3) := by decide +kernel
theorem dX9_values_30 : decode cX9_values 30 = .ok (.iload_n 2, 1) := by decide +kernel
theorem dX9_values_31 : decode cX9_values 31 = .ok (.iaload, 1) := by decide +kernel
theorem dX9_values_32 : decode cX9_values 32 = .ok (.iadd, 1) := by decide +kernel
theorem dX9_values_33 : decode cX9_values 33 = .ok (.istore_n 1, 1) := by decide +kernel
theorem dX9_values_34 : decode cX9_values 34 = .ok (.iinc 2 1, 3) := by decide +kernel
theorem dX9_values_37 : decode cX9_values 37 = .ok (.goto (-33), 3) := by decide +kernel
theorem dX9_values_40 : decode cX9_values 40 = .ok (.iload_n 1, 1) := by decide +kernel
theorem dX9_values_41 : decode cX9_values 41 = .ok (.ireturn, 1) := by decide +kernel
theorem dX9_about_0 : decode cX9_about 0 = .ok (.iload_n 1, 1) := by decide +kernel
theorem dX9_about_1 : decode cX9_about 1 = .ok (.tableswitch 94 0 7 #[47, 55, 64, 69, 74, 79, 84, 89], 47) := by decide +kernel
theorem dX9_about_48 : decode cX9_about 48 = .ok (.aload_n 0, 1) := by decide +kernel
theorem dX9_about_49 : decode cX9_about 49 = .ok (.getfield 7, 3) := by decide +kernel
theorem dX9_about_52 : decode cX9_about 52 = .ok (.invokestatic 175, 3) := by decide +kernel
theorem dX9_about_55 : decode cX9_about 55 = .ok (.ireturn, 1) := by decide +kernel
theorem dX9_about_56 : decode cX9_about 56 = .ok (.aload_n 0, 1) := by decide +kernel
theorem dX9_about_57 : decode cX9_about 57 = .ok (.aload_n 0, 1) := by decide +kernel
theorem dX9_about_58 : decode cX9_about 58 = .ok (.getfield 7, 3) := by decide +kernel
theorem dX9_about_61 : decode cX9_about 61 = .ok (.invokevirtual 192, 3) := by decide +kernel
theorem dX9_about_64 : decode cX9_about 64 = .ok (.ireturn, 1) := by decide +kernel
theorem dX9_about_65 : decode cX9_about 65 = .ok (.aload_n 0, 1) := by decide +kernel
theorem dX9_about_66 : decode cX9_about 66 = .ok (.invokevirtual 195, 3) := by decide +kernel
theorem dX9_about_69 : decode cX9_about 69 = .ok (.ireturn, 1) := by decide +kernel
theorem dX9_about_70 : decode cX9_about 70 = .ok (.aload_n 0, 1) := by decide +kernel
theorem dX9_about_71 : decode cX9_about 71 = .ok (.invokevirtual 199, 3) := by decide +kernel
theorem dX9_about_74 : decode cX9_about 74 = .ok (.ireturn, 1) := by decide +kernel
theorem dX9_about_75 : decode cX9_about 75 = .ok (.aload_n 0, 1) := by decide +kernel
theorem dX9_about_76 : decode cX9_about 76 = .ok (.getfield 172, 3) := by decide +kernel
theorem dX9_about_79 : decode cX9_about 79 = .ok (.ireturn, 1) := by decide +kernel
theorem dX9_about_80 : decode cX9_about 80 = .ok (.aload_n 0, 1) := by decide +kernel
theorem dX9_about_81 : decode cX9_about 81 = .ok (.getfield 202, 3) := by decide +kernel
theorem dX9_about_84 : decode cX9_about 84 = .ok (.ireturn, 1) := by decide +kernel
theorem dX9_about_85 : decode cX9_about 85 = .ok (.aload_n 0, 1) := by decide +kernel
theorem dX9_about_86 : decode cX9_about 86 = .ok (.getfield 205, 3) := by decide +kernel
theorem dX9_about_89 : decode cX9_about 89 = .ok (.ireturn, 1) := by decide +kernel
theorem dX9_about_90 : decode cX9_about 90 = .ok (.aload_n 0, 1) := by decide +kernel
theorem dX9_about_91 : decode cX9_about 91 = .ok (.getfield 208, 3) := by decide +kernel
theorem dX9_about_94 : decode cX9_about 94 = .ok (.ireturn, 1) := by decide +kernel
theorem dX9_about_95 : decode cX9_about 95 = .ok (.bipush (-2), 2) := by decide +kernel
theorem dX9_about_97 : decode cX9_about 97 = .ok (.ireturn, 1) := by decide +kernel
theorem dX9_node_0 : decode cX9_node 0 = .ok (.iload_n 1, 1) := by decide +kernel
theorem dX9_node_1 : decode cX9_node 1 = .ok (.invokestatic 125, 3) := by decide +kernel
theorem dX9_node_4 : decode cX9_node 4 = .ok (.ifCond .eq 14, 3) := by decide +kernel
theorem dX9_node_7 : decode cX9_node 7 = .ok (.aload_n 0, 1) := by decide +kernel
theorem dX9_node_8 : decode cX9_node 8 = .ok (.getfield 7, 3) := by decide +kernel
theorem dX9_node_11 : decode cX9_node 11 = .ok (.iload_n 1, 1) := by decide +kernel
theorem dX9_node_12 : decode cX9_node 12 = .ok (.iaload, 1) := by decide +kernel
theorem dX9_node_13 : decode cX9_node 13 = .ok (.bipush (-9), 2) := by decide +kernel
theorem dX9_node_15 : decode cX9_node 15 = .ok (.if_icmp .ne 5, 3) := by decide +kernel
theorem dX9_node_18 : decode cX9_node 18 = .ok (.iconst (-1), 1) := by decide +kernel
theorem dX9_node_19 : decode cX9_node 19 = .ok (.ireturn, 1) := by decide +kernel
theorem dX9_node_20 : decode cX9_node 20 = .ok (.aload_n 0, 1) := by decide +kernel
theorem dX9_node_21 : decode cX9_node 21 = .ok (.aload_n 0, 1) := by decide +kernel
theorem dX9_node_22 : decode cX9_node 22 = .ok (.getfield 7, 3) := by decide +kernel
theorem dX9_node_25 : decode cX9_node 25 = .ok (.iconst 0, 1) := by decide +kernel
theorem dX9_node_26 : decode cX9_node 26 = .ok (.invokevirtual 165, 3) := by decide +kernel
theorem dX9_node_29 : decode cX9_node 29 = .ok (.iload_n 2, 1) := by decide +kernel
theorem dX9_node_30 : decode cX9_node 30 = .ok (.tableswitch 102 0 7 #[46, 53, 60, 67, 74, 81, 88, 95], 46) := by decide +kernel
theorem dX9_node_76 : decode cX9_node 76 = .ok (.aload_n 0, 1) := by decide +kernel
theorem dX9_node_77 : decode cX9_node 77 = .ok (.getfield 35, 3) := by decide +kernel
theorem dX9_node_80 : decode cX9_node 80 = .ok (.iload_n 1, 1) := by decide +kernel
theorem dX9_node_81 : decode cX9_node 81 = .ok (.iaload, 1) := by decide +kernel
theorem dX9_node_82 : decode cX9_node 82 = .ok (.ireturn, 1) := by decide +kernel
theorem dX9_node_83 : decode cX9_node 83 = .ok (.aload_n 0, 1) := by decide +kernel
theorem dX9_node_84 : decode cX9_node 84 = .ok (.getfield 26, 3) := by decide +kernel
theorem dX9_node_87 : decode cX9_node 87 = .ok (.iload_n 1, 1) := by decide +kernel
theorem dX9_node_88 : decode cX9_node 88 = .ok (.iaload, 1) := by decide +kernel
theorem dX9_node_89 : decode cX9_node 89 = .ok (.ireturn, 1) := by decide +kernel
theorem dX9_node_90 : decode cX9_node 90 = .ok (.aload_n 0, 1) := by decide +kernel
theorem dX9_node_91 : decode cX9_node 91 = .ok (.getfield 29, 3) := by decide +kernel
theorem dX9_node_94 : decode cX9_node 94 = .ok (.iload_n 1, 1) := by decide +kernel
theorem dX9_node_95 : decode cX9_node 95 = .ok (.iaload, 1) := by decide +kernel
theorem dX9_node_96 : decode cX9_node 96 = .ok (.ireturn, 1) := by decide +kernel
theorem dX9_node_97 : decode cX9_node 97 = .ok (.aload_n 0, 1) := by decide +kernel
theorem dX9_node_98 : decode cX9_node 98 = .ok (.getfield 32, 3) := by decide +kernel
theorem dX9_node_101 : decode cX9_node 101 = .ok (.iload_n 1, 1) := by decide +kernel
theorem dX9_node_102 : decode cX9_node 102 = .ok (.iaload, 1) := by decide +kernel
theorem dX9_node_103 : decode cX9_node 103 = .ok (.ireturn, 1) := by decide +kernel
theorem dX9_node_104 : decode cX9_node 104 = .ok (.aload_n 0, 1) := by decide +kernel
theorem dX9_node_105 : decode cX9_node 105 = .ok (.getfield 44, 3) := by decide +kernel
theorem dX9_node_108 : decode cX9_node 108 = .ok (.iload_n 1, 1) := by decide +kernel
theorem dX9_node_109 : decode cX9_node 109 = .ok (.iaload, 1) := by decide +kernel
theorem dX9_node_110 : decode cX9_node 110 = .ok (.ireturn, 1) := by decide +kernel
theorem dX9_node_111 : decode cX9_node 111 = .ok (.aload_n 0, 1) := by decide +kernel
theorem dX9_node_112 : decode cX9_node 112 = .ok (.getfield 47, 3) := by decide +kernel
theorem dX9_node_115 : decode cX9_node 115 = .ok (.iload_n 1, 1) := by decide +kernel
theorem dX9_node_116 : decode cX9_node 116 = .ok (.iaload, 1) := by decide +kernel
theorem dX9_node_117 : decode cX9_node 117 = .ok (.ireturn, 1) := by decide +kernel
theorem dX9_node_118 : decode cX9_node 118 = .ok (.aload_n 0, 1) := by decide +kernel
theorem dX9_node_119 : decode cX9_node 119 = .ok (.getfield 38, 3) := by decide +kernel
theorem dX9_node_122 : decode cX9_node 122 = .ok (.iload_n 1, 1) := by decide +kernel
theorem dX9_node_123 : decode cX9_node 123 = .ok (.iaload, 1) := by decide +kernel
theorem dX9_node_124 : decode cX9_node 124 = .ok (.ireturn, 1) := by decide +kernel
theorem dX9_node_125 : decode cX9_node 125 = .ok (.aload_n 0, 1) := by decide +kernel
theorem dX9_node_126 : decode cX9_node 126 = .ok (.getfield 41, 3) := by decide +kernel
theorem dX9_node_129 : decode cX9_node 129 = .ok (.iload_n 1, 1) := by decide +kernel
theorem dX9_node_130 : decode cX9_node 130 = .ok (.iaload, 1) := by decide +kernel
theorem dX9_node_131 : decode cX9_node 131 = .ok (.ireturn, 1) := by decide +kernel
theorem dX9_node_132 : decode cX9_node 132 = .ok (.bipush (-2), 2) := by decide +kernel
theorem dX9_node_134 : decode cX9_node 134 = .ok (.ireturn, 1) := by decide +kernel
theorem dX9_rank_0 : decode cX9_rank 0 = .ok (.iload_n 1, 1) := by decide +kernel
theorem dX9_rank_1 : decode cX9_rank 1 = .ok (.invokestatic 125, 3) := by decide +kernel
theorem dX9_rank_4 : decode cX9_rank 4 = .ok (.ifCond .eq 10, 3) := by decide +kernel
theorem dX9_rank_7 : decode cX9_rank 7 = .ok (.iload_n 1, 1) := by decide +kernel
theorem dX9_rank_8 : decode cX9_rank 8 = .ok (.invokestatic 135, 3) := by decide +kernel
theorem dX9_rank_11 : decode cX9_rank 11 = .ok (.goto 5, 3) := by decide +kernel
theorem dX9_rank_14 : decode cX9_rank 14 = .ok (.bipush (-2), 2) := by decide +kernel
theorem dX9_rank_16 : decode cX9_rank 16 = .ok (.ireturn, 1) := by decide +kernel
theorem dX9_itemOf_0 : decode cX9_itemOf 0 = .ok (.bipush (-100), 2) := by decide +kernel
theorem dX9_itemOf_2 : decode cX9_itemOf 2 = .ok (.bipush 100, 2) := by decide +kernel
theorem dX9_itemOf_4 : decode cX9_itemOf 4 = .ok (.iload_n 0, 1) := by decide +kernel
theorem dX9_itemOf_5 : decode cX9_itemOf 5 = .ok (.imul, 1) := by decide +kernel
theorem dX9_itemOf_6 : decode cX9_itemOf 6 = .ok (.iload_n 1, 1) := by decide +kernel
theorem dX9_itemOf_7 : decode cX9_itemOf 7 = .ok (.iadd, 1) := by decide +kernel
theorem dX9_itemOf_8 : decode cX9_itemOf 8 = .ok (.isub, 1) := by decide +kernel
theorem dX9_itemOf_9 : decode cX9_itemOf 9 = .ok (.ireturn, 1) := by decide +kernel
theorem dX9_prove_0 : decode cX9_prove 0 = .ok (.aload_n 0, 1) := by decide +kernel
theorem dX9_prove_1 : decode cX9_prove 1 = .ok (.aload_n 1, 1) := by decide +kernel
theorem dX9_prove_2 : decode cX9_prove 2 = .ok (.iconst 0, 1) := by decide +kernel
theorem dX9_prove_3 : decode cX9_prove 3 = .ok (.invokevirtual 165, 3) := by decide +kernel
theorem dX9_prove_6 : decode cX9_prove 6 = .ok (.aload_n 0, 1) := by decide +kernel
theorem dX9_prove_7 : decode cX9_prove 7 = .ok (.iconst 0, 1) := by decide +kernel
theorem dX9_prove_8 : decode cX9_prove 8 = .ok (.putfield 211, 3) := by decide +kernel
theorem dX9_prove_11 : decode cX9_prove 11 = .ok (.aload_n 0, 1) := by decide +kernel
theorem dX9_prove_12 : decode cX9_prove 12 = .ok (.iconst 0, 1) := by decide +kernel
theorem dX9_prove_13 : decode cX9_prove 13 = .ok (.putfield 145, 3) := by decide +kernel
theorem dX9_prove_16 : decode cX9_prove 16 = .ok (.aload_n 0, 1) := by decide +kernel
theorem dX9_prove_17 : decode cX9_prove 17 = .ok (.iconst 0, 1) := by decide +kernel
theorem dX9_prove_18 : decode cX9_prove 18 = .ok (.bipush 99, 2) := by decide +kernel
theorem dX9_prove_20 : decode cX9_prove 20 = .ok (.aload_n 0, 1) := by decide +kernel
theorem dX9_prove_21 : decode cX9_prove 21 = .ok (.getfield 50, 3) := by decide +kernel
theorem dX9_prove_24 : decode cX9_prove 24 = .ok (.iconst 0, 1) := by decide +kernel
theorem dX9_prove_25 : decode cX9_prove 25 = .ok (.iaload, 1) := by decide +kernel
theorem dX9_prove_26 : decode cX9_prove 26 = .ok (.iconst 0, 1) := by decide +kernel
theorem dX9_prove_27 : decode cX9_prove 27 = .ok (.invokevirtual 153, 3) := by decide +kernel
theorem dX9_prove_30 : decode cX9_prove 30 = .ok (.aload_n 0, 1) := by decide +kernel
theorem dX9_prove_31 : decode cX9_prove 31 = .ok (.getfield 145, 3) := by decide +kernel
theorem dX9_prove_34 : decode cX9_prove 34 = .ok (.ifCond .le 185, 3) := by decide +kernel
theorem dX9_prove_37 : decode cX9_prove 37 = .ok (.aload_n 0, 1) := by decide +kernel
theorem dX9_prove_38 : decode cX9_prove 38 = .ok (.dup, 1) := by decide +kernel
theorem dX9_prove_39 : decode cX9_prove 39 = .ok (.getfield 145, 3) := by decide +kernel
theorem dX9_prove_42 : decode cX9_prove 42 = .ok (.iconst 1, 1) := by decide +kernel
theorem dX9_prove_43 : decode cX9_prove 43 = .ok (.isub, 1) := by decide +kernel
theorem dX9_prove_44 : decode cX9_prove 44 = .ok (.putfield 145, 3) := by decide +kernel
theorem dX9_prove_47 : decode cX9_prove 47 = .ok (.aload_n 0, 1) := by decide +kernel
theorem dX9_prove_48 : decode cX9_prove 48 = .ok (.getfield 56, 3) := by decide +kernel
theorem dX9_prove_51 : decode cX9_prove 51 = .ok (.aload_n 0, 1) := by decide +kernel
theorem dX9_prove_52 : decode cX9_prove 52 = .ok (.getfield 145, 3) := by decide +kernel
theorem dX9_prove_55 : decode cX9_prove 55 = .ok (.iaload, 1) := by decide +kernel
theorem dX9_prove_56 : decode cX9_prove 56 = .ok (.istore 4, 2) := by decide +kernel
theorem dX9_prove_58 : decode cX9_prove 58 = .ok (.aload_n 0, 1) := by decide +kernel
theorem dX9_prove_59 : decode cX9_prove 59 = .ok (.getfield 59, 3) := by decide +kernel
theorem dX9_prove_62 : decode cX9_prove 62 = .ok (.aload_n 0, 1) := by decide +kernel
theorem dX9_prove_63 : decode cX9_prove 63 = .ok (.getfield 145, 3) := by decide +kernel
theorem dX9_prove_66 : decode cX9_prove 66 = .ok (.iaload, 1) := by decide +kernel
theorem dX9_prove_67 : decode cX9_prove 67 = .ok (.istore 5, 2) := by decide +kernel
theorem dX9_prove_69 : decode cX9_prove 69 = .ok (.aload_n 0, 1) := by decide +kernel
theorem dX9_prove_70 : decode cX9_prove 70 = .ok (.getfield 62, 3) := by decide +kernel
theorem dX9_prove_73 : decode cX9_prove 73 = .ok (.aload_n 0, 1) := by decide +kernel
theorem dX9_prove_74 : decode cX9_prove 74 = .ok (.getfield 145, 3) := by decide +kernel
theorem dX9_prove_77 : decode cX9_prove 77 = .ok (.iaload, 1) := by decide +kernel
theorem dX9_prove_78 : decode cX9_prove 78 = .ok (.istore 6, 2) := by decide +kernel
theorem dX9_prove_80 : decode cX9_prove 80 = .ok (.iload 4, 2) := by decide +kernel
theorem dX9_prove_82 : decode cX9_prove 82 = .ok (.iload_n 2, 1) := by decide +kernel
theorem dX9_prove_83 : decode cX9_prove 83 = .ok (.if_icmp .le 8, 3) := by decide +kernel
theorem dX9_prove_86 : decode cX9_prove 86 = .ok (.iload 4, 2) := by decide +kernel
theorem dX9_prove_88 : decode cX9_prove 88 = .ok (.goto 4, 3) := by decide +kernel
theorem dX9_prove_91 : decode cX9_prove 91 = .ok (.iload_n 2, 1) := by decide +kernel
theorem dX9_prove_92 : decode cX9_prove 92 = .ok (.iload 5, 2) := by decide +kernel
theorem dX9_prove_94 : decode cX9_prove 94 = .ok (.iload_n 3, 1) := by decide +kernel
theorem dX9_prove_95 : decode cX9_prove 95 = .ok (.if_icmp .ge 8, 3) := by decide +kernel
theorem dX9_prove_98 : decode cX9_prove 98 = .ok (.iload 5, 2) := by decide +kernel
theorem dX9_prove_100 : decode cX9_prove 100 = .ok (.goto 4, 3) := by decide +kernel
theorem dX9_prove_103 : decode cX9_prove 103 = .ok (.iload_n 3, 1) := by decide +kernel
theorem dX9_prove_104 : decode cX9_prove 104 = .ok (.if_icmp .gt 7, 3) := by decide +kernel
theorem dX9_prove_107 : decode cX9_prove 107 = .ok (.iconst 1, 1) := by decide +kernel
theorem dX9_prove_108 : decode cX9_prove 108 = .ok (.goto 4, 3) := by decide +kernel
theorem dX9_prove_111 : decode cX9_prove 111 = .ok (.iconst 0, 1) := by decide +kernel
theorem dX9_prove_112 : decode cX9_prove 112 = .ok (.istore 7, 2) := by decide +kernel
theorem dX9_prove_114 : decode cX9_prove 114 = .ok (.aload_n 0, 1) := by decide +kernel
theorem dX9_prove_115 : decode cX9_prove 115 = .ok (.getfield 68, 3) := by decide +kernel
theorem dX9_prove_118 : decode cX9_prove 118 = .ok (.aload_n 0, 1) := by decide +kernel
theorem dX9_prove_119 : decode cX9_prove 119 = .ok (.getfield 211, 3) := by decide +kernel
theorem dX9_prove_122 : decode cX9_prove 122 = .ok (.iload 6, 2) := by decide +kernel
theorem dX9_prove_124 : decode cX9_prove 124 = .ok (.bipush (-9), 2) := by decide +kernel
theorem dX9_prove_126 : decode cX9_prove 126 = .ok (.if_icmp .ne 7, 3) := by decide +kernel
theorem dX9_prove_129 : decode cX9_prove 129 = .ok (.iconst 0, 1) := by decide +kernel
theorem dX9_prove_130 : decode cX9_prove 130 = .ok (.goto 27, 3) := by decide +kernel
theorem dX9_prove_133 : decode cX9_prove 133 = .ok (.iload 7, 2) := by decide +kernel
theorem dX9_prove_135 : decode cX9_prove 135 = .ok (.ifCond .eq 15, 3) := by decide +kernel
theorem dX9_prove_138 : decode cX9_prove 138 = .ok (.iload 6, 2) := by decide +kernel
theorem dX9_prove_140 : decode cX9_prove 140 = .ok (.aload_n 1, 1) := by decide +kernel
theorem dX9_prove_141 : decode cX9_prove 141 = .ok (.iload 6, 2) := by decide +kernel
theorem dX9_prove_143 : decode cX9_prove 143 = .ok (.iaload, 1) := by decide +kernel
theorem dX9_prove_144 : decode cX9_prove 144 = .ok (.invokestatic 214, 3) := by decide +kernel
theorem dX9_prove_147 : decode cX9_prove 147 = .ok (.goto 10, 3) := by decide +kernel
theorem dX9_prove_150 : decode cX9_prove 150 = .ok (.aload_n 0, 1) := by decide +kernel
theorem dX9_prove_151 : decode cX9_prove 151 = .ok (.getfield 47, 3) := by decide +kernel
theorem dX9_prove_154 : decode cX9_prove 154 = .ok (.iload 6, 2) := by decide +kernel
theorem dX9_prove_156 : decode cX9_prove 156 = .ok (.iaload, 1) := by decide +kernel
theorem dX9_prove_157 : decode cX9_prove 157 = .ok (.iastore, 1) := by decide +kernel
theorem dX9_prove_158 : decode cX9_prove 158 = .ok (.aload_n 0, 1) := by decide +kernel
theorem dX9_prove_159 : decode cX9_prove 159 = .ok (.dup, 1) := by decide +kernel
theorem dX9_prove_160 : decode cX9_prove 160 = .ok (.getfield 211, 3) := by decide +kernel
theorem dX9_prove_163 : decode cX9_prove 163 = .ok (.iconst 1, 1) := by decide +kernel
theorem dX9_prove_164 : decode cX9_prove 164 = .ok (.iadd, 1) := by decide +kernel
theorem dX9_prove_165 : decode cX9_prove 165 = .ok (.putfield 211, 3) := by decide +kernel
theorem dX9_prove_168 : decode cX9_prove 168 = .ok (.iload 6, 2) := by decide +kernel
theorem dX9_prove_170 : decode cX9_prove 170 = .ok (.bipush (-9), 2) := by decide +kernel
theorem dX9_prove_172 : decode cX9_prove 172 = .ok (.if_icmp .eq 44, 3) := by decide +kernel
theorem dX9_prove_175 : decode cX9_prove 175 = .ok (.iload 7, 2) := by decide +kernel
theorem dX9_prove_177 : decode cX9_prove 177 = .ok (.ifCond .eq 39, 3) := by decide +kernel
theorem dX9_prove_180 : decode cX9_prove 180 = .ok (.aload_n 0, 1) := by decide +kernel
theorem dX9_prove_181 : decode cX9_prove 181 = .ok (.iload 6, 2) := by decide +kernel
theorem dX9_prove_183 : decode cX9_prove 183 = .ok (.iconst 1, 1) := by decide +kernel
theorem dX9_prove_184 : decode cX9_prove 184 = .ok (.iadd, 1) := by decide +kernel
theorem dX9_prove_185 : decode cX9_prove 185 = .ok (.iload 5, 2) := by decide +kernel
theorem dX9_prove_187 : decode cX9_prove 187 = .ok (.aload_n 0, 1) := by decide +kernel
theorem dX9_prove_188 : decode cX9_prove 188 = .ok (.getfield 32, 3) := by decide +kernel
theorem dX9_prove_191 : decode cX9_prove 191 = .ok (.iload 6, 2) := by decide +kernel
theorem dX9_prove_193 : decode cX9_prove 193 = .ok (.iaload, 1) := by decide +kernel
theorem dX9_prove_194 : decode cX9_prove 194 = .ok (.iconst 0, 1) := by decide +kernel
theorem dX9_prove_195 : decode cX9_prove 195 = .ok (.invokevirtual 153, 3) := by decide +kernel
theorem dX9_prove_198 : decode cX9_prove 198 = .ok (.aload_n 0, 1) := by decide +kernel
theorem dX9_prove_199 : decode cX9_prove 199 = .ok (.iload 4, 2) := by decide +kernel
theorem dX9_prove_201 : decode cX9_prove 201 = .ok (.iload 6, 2) := by decide +kernel
theorem dX9_prove_203 : decode cX9_prove 203 = .ok (.iconst 1, 1) := by decide +kernel
theorem dX9_prove_204 : decode cX9_prove 204 = .ok (.isub, 1) := by decide +kernel
theorem dX9_prove_205 : decode cX9_prove 205 = .ok (.aload_n 0, 1) := by decide +kernel
theorem dX9_prove_206 : decode cX9_prove 206 = .ok (.getfield 29, 3) := by decide +kernel
theorem dX9_prove_209 : decode cX9_prove 209 = .ok (.iload 6, 2) := by decide +kernel
theorem dX9_prove_211 : decode cX9_prove 211 = .ok (.iaload, 1) := by decide +kernel
theorem dX9_prove_212 : decode cX9_prove 212 = .ok (.iconst 0, 1) := by decide +kernel
theorem dX9_prove_213 : decode cX9_prove 213 = .ok (.invokevirtual 153, 3) := by decide +kernel
theorem dX9_prove_216 : decode cX9_prove 216 = .ok (.goto (-186), 3) := by decide +kernel
theorem dX9_prove_219 : decode cX9_prove 219 = .ok (.return_, 1) := by decide +kernel
theorem dX9_proof_0 : decode cX9_proof 0 = .ok (.iload_n 1, 1) := by decide +kernel
theorem dX9_proof_1 : decode cX9_proof 1 = .ok (.iload_n 2, 1) := by decide +kernel
theorem dX9_proof_2 : decode cX9_proof 2 = .ok (.invokestatic 218, 3) := by decide +kernel
theorem dX9_proof_5 : decode cX9_proof 5 = .ok (.ifCond .eq 15, 3) := by decide +kernel
theorem dX9_proof_8 : decode cX9_proof 8 = .ok (.iload_n 3, 1) := by decide +kernel
theorem dX9_proof_9 : decode cX9_proof 9 = .ok (.i2l, 1) := by decide +kernel
theorem dX9_proof_10 : decode cX9_proof 10 = .ok (.lconst 0, 1) := by decide +kernel
theorem dX9_proof_11 : decode cX9_proof 11 = .ok (.ldc2_w 221, 3) := by decide +kernel
theorem dX9_proof_14 : decode cX9_proof 14 = .ok (.invokestatic 121, 3) := by decide +kernel
theorem dX9_proof_17 : decode cX9_proof 17 = .ok (.ifCond .ne 6, 3) := by decide +kernel
theorem dX9_proof_20 : decode cX9_proof 20 = .ok (.bipush (-2), 2) := by decide +kernel
theorem dX9_proof_22 : decode cX9_proof 22 = .ok (.ireturn, 1) := by decide +kernel
theorem dX9_proof_23 : decode cX9_proof 23 = .ok (.aload_n 0, 1) := by decide +kernel
theorem dX9_proof_24 : decode cX9_proof 24 = .ok (.aload_n 0, 1) := by decide +kernel
theorem dX9_proof_25 : decode cX9_proof 25 = .ok (.getfield 7, 3) := by decide +kernel
theorem dX9_proof_28 : decode cX9_proof 28 = .ok (.iload_n 1, 1) := by decide +kernel
theorem dX9_proof_29 : decode cX9_proof 29 = .ok (.iload_n 2, 1) := by decide +kernel
theorem dX9_proof_30 : decode cX9_proof 30 = .ok (.invokevirtual 223, 3) := by decide +kernel
theorem dX9_proof_33 : decode cX9_proof 33 = .ok (.iconst 0, 1) := by decide +kernel
theorem dX9_proof_34 : decode cX9_proof 34 = .ok (.istore 4, 2) := by decide +kernel
theorem dX9_proof_36 : decode cX9_proof 36 = .ok (.iconst 0, 1) := by decide +kernel
theorem dX9_proof_37 : decode cX9_proof 37 = .ok (.istore 5, 2) := by decide +kernel
theorem dX9_proof_39 : decode cX9_proof 39 = .ok (.iload 5, 2) := by decide +kernel
theorem dX9_proof_41 : decode cX9_proof 41 = .ok (.aload_n 0, 1) := by decide +kernel
theorem dX9_proof_42 : decode cX9_proof 42 = .ok (.getfield 211, 3) := by decide +kernel
theorem dX9_proof_45 : decode cX9_proof 45 = .ok (.if_icmp .ge 53, 3) := by decide +kernel
theorem dX9_proof_48 : decode cX9_proof 48 = .ok (.iload 4, 2) := by decide +kernel
theorem dX9_proof_50 : decode cX9_proof 50 = .ok (.iload_n 3, 1) := by decide +kernel
theorem dX9_proof_51 : decode cX9_proof 51 = .ok (.ifCond .eq 33, 3) := by decide +kernel
theorem dX9_proof_54 : decode cX9_proof 54 = .ok (.iload_n 3, 1) := by decide +kernel
theorem dX9_proof_55 : decode cX9_proof 55 = .ok (.iconst 1, 1) := by decide +kernel
theorem dX9_proof_56 : decode cX9_proof 56 = .ok (.if_icmp .ne 13, 3) := by decide +kernel
theorem dX9_proof_59 : decode cX9_proof 59 = .ok (.aload_n 0, 1) := by decide +kernel
theorem dX9_proof_60 : decode cX9_proof 60 = .ok (.getfield 68, 3) := by decide +kernel
theorem dX9_proof_63 : decode cX9_proof 63 = .ok (.iload 5, 2) := by decide +kernel
theorem dX9_proof_65 : decode cX9_proof 65 = .ok (.iaload, 1) := by decide +kernel
theorem dX9_proof_66 : decode cX9_proof 66 = .ok (.ifCond .gt 18, 3) := by decide +kernel
theorem dX9_proof_69 : decode cX9_proof 69 = .ok (.iload_n 3, 1) := by decide +kernel
theorem dX9_proof_70 : decode cX9_proof 70 = .ok (.iconst 2, 1) := by decide +kernel
theorem dX9_proof_71 : decode cX9_proof 71 = .ok (.if_icmp .ne 17, 3) := by decide +kernel
theorem dX9_proof_74 : decode cX9_proof 74 = .ok (.aload_n 0, 1) := by decide +kernel
theorem dX9_proof_75 : decode cX9_proof 75 = .ok (.getfield 68, 3) := by decide +kernel
theorem dX9_proof_78 : decode cX9_proof 78 = .ok (.iload 5, 2) := by decide +kernel
theorem dX9_proof_80 : decode cX9_proof 80 = .ok (.iaload, 1) := by decide +kernel
theorem dX9_proof_81 : decode cX9_proof 81 = .ok (.ifCond .ge 7, 3) := by decide +kernel
theorem dX9_proof_84 : decode cX9_proof 84 = .ok (.iconst 1, 1) := by decide +kernel
theorem dX9_proof_85 : decode cX9_proof 85 = .ok (.goto 4, 3) := by decide +kernel
theorem dX9_proof_88 : decode cX9_proof 88 = .ok (.iconst 0, 1) := by decide +kernel
theorem dX9_proof_89 : decode cX9_proof 89 = .ok (.iadd, 1) := by decide +kernel
theorem dX9_proof_90 : decode cX9_proof 90 = .ok (.istore 4, 2) := by decide +kernel
theorem dX9_proof_92 : decode cX9_proof 92 = .ok (.iinc 5 1, 3) := by decide +kernel
theorem dX9_proof_95 : decode cX9_proof 95 = .ok (.goto (-56), 3) := by decide +kernel
theorem dX9_proof_98 : decode cX9_proof 98 = .ok (.iload 4, 2) := by decide +kernel
theorem dX9_proof_100 : decode cX9_proof 100 = .ok (.ireturn, 1) := by decide +kernel
theorem dX9_item_0 : decode cX9_item 0 = .ok (.iload_n 1, 1) := by decide +kernel
theorem dX9_item_1 : decode cX9_item 1 = .ok (.iload_n 2, 1) := by decide +kernel
theorem dX9_item_2 : decode cX9_item 2 = .ok (.invokestatic 218, 3) := by decide +kernel
theorem dX9_item_5 : decode cX9_item 5 = .ok (.ifCond .ne 6, 3) := by decide +kernel
theorem dX9_item_8 : decode cX9_item 8 = .ok (.bipush (-2), 2) := by decide +kernel
theorem dX9_item_10 : decode cX9_item 10 = .ok (.ireturn, 1) := by decide +kernel
theorem dX9_item_11 : decode cX9_item 11 = .ok (.aload_n 0, 1) := by decide +kernel
theorem dX9_item_12 : decode cX9_item 12 = .ok (.aload_n 0, 1) := by decide +kernel
theorem dX9_item_13 : decode cX9_item 13 = .ok (.getfield 7, 3) := by decide +kernel
theorem dX9_item_16 : decode cX9_item 16 = .ok (.iload_n 1, 1) := by decide +kernel
theorem dX9_item_17 : decode cX9_item 17 = .ok (.iload_n 2, 1) := by decide +kernel
theorem dX9_item_18 : decode cX9_item 18 = .ok (.invokevirtual 223, 3) := by decide +kernel
theorem dX9_item_21 : decode cX9_item 21 = .ok (.iload_n 3, 1) := by decide +kernel
theorem dX9_item_22 : decode cX9_item 22 = .ok (.i2l, 1) := by decide +kernel
theorem dX9_item_23 : decode cX9_item 23 = .ok (.lconst 0, 1) := by decide +kernel
theorem dX9_item_24 : decode cX9_item 24 = .ok (.aload_n 0, 1) := by decide +kernel
theorem dX9_item_25 : decode cX9_item 25 = .ok (.getfield 211, 3) := by decide +kernel
theorem dX9_item_28 : decode cX9_item 28 = .ok (.iconst 1, 1) := by decide +kernel
theorem dX9_item_29 : decode cX9_item 29 = .ok (.isub, 1) := by decide +kernel
theorem dX9_item_30 : decode cX9_item 30 = .ok (.i2l, 1) := by decide +kernel
theorem dX9_item_31 : decode cX9_item 31 = .ok (.invokestatic 121, 3) := by decide +kernel
theorem dX9_item_34 : decode cX9_item 34 = .ok (.ifCond .eq 12, 3) := by decide +kernel
theorem dX9_item_37 : decode cX9_item 37 = .ok (.aload_n 0, 1) := by decide +kernel
theorem dX9_item_38 : decode cX9_item 38 = .ok (.getfield 68, 3) := by decide +kernel
theorem dX9_item_41 : decode cX9_item 41 = .ok (.iload_n 3, 1) := by decide +kernel
theorem dX9_item_42 : decode cX9_item 42 = .ok (.iaload, 1) := by decide +kernel
theorem dX9_item_43 : decode cX9_item 43 = .ok (.goto 4, 3) := by decide +kernel
theorem dX9_item_46 : decode cX9_item 46 = .ok (.iconst (-1), 1) := by decide +kernel
theorem dX9_item_47 : decode cX9_item 47 = .ok (.ireturn, 1) := by decide +kernel
theorem dX9_lengths_0 : decode cX9_lengths 0 = .ok (.iload_n 2, 1) := by decide +kernel
theorem dX9_lengths_1 : decode cX9_lengths 1 = .ok (.i2l, 1) := by decide +kernel
theorem dX9_lengths_2 : decode cX9_lengths 2 = .ok (.lconst 0, 1) := by decide +kernel
theorem dX9_lengths_3 : decode cX9_lengths 3 = .ok (.lconst 1, 1) := by decide +kernel
theorem dX9_lengths_4 : decode cX9_lengths 4 = .ok (.invokestatic 121, 3) := by decide +kernel
theorem dX9_lengths_7 : decode cX9_lengths 7 = .ok (.ifCond .ne 6, 3) := by decide +kernel
theorem dX9_lengths_10 : decode cX9_lengths 10 = .ok (.bipush (-2), 2) := by decide +kernel
theorem dX9_lengths_12 : decode cX9_lengths 12 = .ok (.ireturn, 1) := by decide +kernel
theorem dX9_lengths_13 : decode cX9_lengths 13 = .ok (.iconst 0, 1) := by decide +kernel
theorem dX9_lengths_14 : decode cX9_lengths 14 = .ok (.istore_n 3, 1) := by decide +kernel
theorem dX9_lengths_15 : decode cX9_lengths 15 = .ok (.bipush (-9), 2) := by decide +kernel
theorem dX9_lengths_17 : decode cX9_lengths 17 = .ok (.istore 4, 2) := by decide +kernel
theorem dX9_lengths_19 : decode cX9_lengths 19 = .ok (.bipush 99, 2) := by decide +kernel
theorem dX9_lengths_21 : decode cX9_lengths 21 = .ok (.istore 5, 2) := by decide +kernel
theorem dX9_lengths_23 : decode cX9_lengths 23 = .ok (.iload 5, 2) := by decide +kernel
theorem dX9_lengths_25 : decode cX9_lengths 25 = .ok (.ifCond .lt 54, 3) := by decide +kernel
theorem dX9_lengths_28 : decode cX9_lengths 28 = .ok (.aload_n 0, 1) := by decide +kernel
theorem dX9_lengths_29 : decode cX9_lengths 29 = .ok (.aload_n 0, 1) := by decide +kernel
theorem dX9_lengths_30 : decode cX9_lengths 30 = .ok (.getfield 7, 3) := by decide +kernel
theorem dX9_lengths_33 : decode cX9_lengths 33 = .ok (.iload 5, 2) := by decide +kernel
theorem dX9_lengths_35 : decode cX9_lengths 35 = .ok (.iload 5, 2) := by decide +kernel
theorem dX9_lengths_37 : decode cX9_lengths 37 = .ok (.invokevirtual 223, 3) := by decide +kernel
theorem dX9_lengths_40 : decode cX9_lengths 40 = .ok (.iload_n 3, 1) := by decide +kernel
theorem dX9_lengths_41 : decode cX9_lengths 41 = .ok (.aload_n 0, 1) := by decide +kernel
theorem dX9_lengths_42 : decode cX9_lengths 42 = .ok (.getfield 211, 3) := by decide +kernel
theorem dX9_lengths_45 : decode cX9_lengths 45 = .ok (.iload_n 1, 1) := by decide +kernel
theorem dX9_lengths_46 : decode cX9_lengths 46 = .ok (.if_icmp .ne 7, 3) := by decide +kernel
theorem dX9_lengths_49 : decode cX9_lengths 49 = .ok (.iconst 1, 1) := by decide +kernel
theorem dX9_lengths_50 : decode cX9_lengths 50 = .ok (.goto 4, 3) := by decide +kernel
theorem dX9_lengths_53 : decode cX9_lengths 53 = .ok (.iconst 0, 1) := by decide +kernel
theorem dX9_lengths_54 : decode cX9_lengths 54 = .ok (.iadd, 1) := by decide +kernel
theorem dX9_lengths_55 : decode cX9_lengths 55 = .ok (.istore_n 3, 1) := by decide +kernel
theorem dX9_lengths_56 : decode cX9_lengths 56 = .ok (.aload_n 0, 1) := by decide +kernel
theorem dX9_lengths_57 : decode cX9_lengths 57 = .ok (.getfield 211, 3) := by decide +kernel
theorem dX9_lengths_60 : decode cX9_lengths 60 = .ok (.iload_n 1, 1) := by decide +kernel
theorem dX9_lengths_61 : decode cX9_lengths 61 = .ok (.if_icmp .ne 8, 3) := by decide +kernel
theorem dX9_lengths_64 : decode cX9_lengths 64 = .ok (.iload 5, 2) := by decide +kernel
theorem dX9_lengths_66 : decode cX9_lengths 66 = .ok (.goto 5, 3) := by decide +kernel
theorem dX9_lengths_69 : decode cX9_lengths 69 = .ok (.iload 4, 2) := by decide +kernel
theorem dX9_lengths_71 : decode cX9_lengths 71 = .ok (.istore 4, 2) := by decide +kernel
theorem dX9_lengths_73 : decode cX9_lengths 73 = .ok (.iinc 5 (-1), 3) := by decide +kernel
theorem dX9_lengths_76 : decode cX9_lengths 76 = .ok (.goto (-53), 3) := by decide +kernel
theorem dX9_lengths_79 : decode cX9_lengths 79 = .ok (.iload_n 2, 1) := by decide +kernel
theorem dX9_lengths_80 : decode cX9_lengths 80 = .ok (.ifCond .ne 7, 3) := by decide +kernel
theorem dX9_lengths_83 : decode cX9_lengths 83 = .ok (.iload_n 3, 1) := by decide +kernel
theorem dX9_lengths_84 : decode cX9_lengths 84 = .ok (.goto 5, 3) := by decide +kernel
theorem dX9_lengths_87 : decode cX9_lengths 87 = .ok (.iload 4, 2) := by decide +kernel
theorem dX9_lengths_89 : decode cX9_lengths 89 = .ok (.ireturn, 1) := by decide +kernel
theorem dX9_send_0 : decode cX9_send 0 = .ok (.iload_n 1, 1) := by decide +kernel
theorem dX9_send_1 : decode cX9_send 1 = .ok (.iload_n 2, 1) := by decide +kernel
theorem dX9_send_2 : decode cX9_send 2 = .ok (.invokestatic 218, 3) := by decide +kernel
theorem dX9_send_5 : decode cX9_send 5 = .ok (.ifCond .ne 6, 3) := by decide +kernel
theorem dX9_send_8 : decode cX9_send 8 = .ok (.bipush (-2), 2) := by decide +kernel
theorem dX9_send_10 : decode cX9_send 10 = .ok (.ireturn, 1) := by decide +kernel
theorem dX9_send_11 : decode cX9_send 11 = .ok (.aload_n 0, 1) := by decide +kernel
theorem dX9_send_12 : decode cX9_send 12 = .ok (.aload_n 0, 1) := by decide +kernel
theorem dX9_send_13 : decode cX9_send 13 = .ok (.getfield 7, 3) := by decide +kernel
theorem dX9_send_16 : decode cX9_send 16 = .ok (.iload_n 1, 1) := by decide +kernel
theorem dX9_send_17 : decode cX9_send 17 = .ok (.iload_n 2, 1) := by decide +kernel
theorem dX9_send_18 : decode cX9_send 18 = .ok (.invokevirtual 223, 3) := by decide +kernel
theorem dX9_send_21 : decode cX9_send 21 = .ok (.aload_n 0, 1) := by decide +kernel
theorem dX9_send_22 : decode cX9_send 22 = .ok (.aload_n 0, 1) := by decide +kernel
theorem dX9_send_23 : decode cX9_send 23 = .ok (.getfield 211, 3) := by decide +kernel
theorem dX9_send_26 : decode cX9_send 26 = .ok (.putfield 202, 3) := by decide +kernel
theorem dX9_send_29 : decode cX9_send 29 = .ok (.iconst 0, 1) := by decide +kernel
theorem dX9_send_30 : decode cX9_send 30 = .ok (.istore_n 3, 1) := by decide +kernel
theorem dX9_send_31 : decode cX9_send 31 = .ok (.iload_n 3, 1) := by decide +kernel
theorem dX9_send_32 : decode cX9_send 32 = .ok (.aload_n 0, 1) := by decide +kernel
theorem dX9_send_33 : decode cX9_send 33 = .ok (.getfield 202, 3) := by decide +kernel
theorem dX9_send_36 : decode cX9_send 36 = .ok (.if_icmp .ge 21, 3) := by decide +kernel
theorem dX9_send_39 : decode cX9_send 39 = .ok (.aload_n 0, 1) := by decide +kernel
theorem dX9_send_40 : decode cX9_send 40 = .ok (.getfield 71, 3) := by decide +kernel
theorem dX9_send_43 : decode cX9_send 43 = .ok (.iload_n 3, 1) := by decide +kernel
theorem dX9_send_44 : decode cX9_send 44 = .ok (.aload_n 0, 1) := by decide +kernel
theorem dX9_send_45 : decode cX9_send 45 = .ok (.getfield 68, 3) := by decide +kernel
theorem dX9_send_48 : decode cX9_send 48 = .ok (.iload_n 3, 1) := by decide +kernel
theorem dX9_send_49 : decode cX9_send 49 = .ok (.iaload, 1) := by decide +kernel
theorem dX9_send_50 : decode cX9_send 50 = .ok (.iastore, 1) := by decide +kernel
theorem dX9_send_51 : decode cX9_send 51 = .ok (.iinc 3 1, 3) := by decide +kernel
theorem dX9_send_54 : decode cX9_send 54 = .ok (.goto (-23), 3) := by decide +kernel
theorem dX9_send_57 : decode cX9_send 57 = .ok (.aload_n 0, 1) := by decide +kernel
theorem dX9_send_58 : decode cX9_send 58 = .ok (.getfield 202, 3) := by decide +kernel
theorem dX9_send_61 : decode cX9_send 61 = .ok (.ireturn, 1) := by decide +kernel
theorem dX9_isItem_0 : decode cX9_isItem 0 = .ok (.iload_n 0, 1) := by decide +kernel
theorem dX9_isItem_1 : decode cX9_isItem 1 = .ok (.ifCond .ge 17, 3) := by decide +kernel
theorem dX9_isItem_4 : decode cX9_isItem 4 = .ok (.iload_n 0, 1) := by decide +kernel
theorem dX9_isItem_5 : decode cX9_isItem 5 = .ok (.i2l, 1) := by decide +kernel
theorem dX9_isItem_6 : decode cX9_isItem 6 = .ok (.ldc2_w 227, 3) := by decide +kernel
theorem dX9_isItem_9 : decode cX9_isItem 9 = .ok (.ldc2_w 229, 3) := by decide +kernel
theorem dX9_isItem_12 : decode cX9_isItem 12 = .ok (.invokestatic 121, 3) := by decide +kernel
theorem dX9_isItem_15 : decode cX9_isItem 15 = .ok (.ifCond .eq 7, 3) := by decide +kernel
theorem dX9_isItem_18 : decode cX9_isItem 18 = .ok (.iconst 1, 1) := by decide +kernel
theorem dX9_isItem_19 : decode cX9_isItem 19 = .ok (.goto 4, 3) := by decide +kernel
theorem dX9_isItem_22 : decode cX9_isItem 22 = .ok (.iconst 0, 1) := by decide +kernel
theorem dX9_isItem_23 : decode cX9_isItem 23 = .ok (.ireturn, 1) := by decide +kernel
