theorem dX9_tell_0 : decode cX9_tell 0 = .ok (.iload_n 1, 1) := by decide +kernel
theorem dX9_tell_1 : decode cX9_tell 1 = .ok (.invokestatic 231, 3) := by decide +kernel
theorem dX9_tell_4 : decode cX9_tell 4 = .ok (.ifCond .ne 6, 3) := by decide +kernel
theorem dX9_tell_7 : decode cX9_tell 7 = .ok (.bipush (-2), 2) := by decide +kernel
theorem dX9_tell_9 : decode cX9_tell 9 = .ok (.ireturn, 1) := by decide +kernel
theorem dX9_tell_10 : decode cX9_tell 10 = .ok (.aload_n 0, 1) := by decide +kernel
theorem dX9_tell_11 : decode cX9_tell 11 = .ok (.getfield 202, 3) := by decide +kernel
theorem dX9_tell_14 : decode cX9_tell 14 = .ok (.bipush 100, 2) := by decide +kernel
theorem dX9_tell_16 : decode cX9_tell 16 = .ok (.if_icmp .ne 6, 3) := by decide +kernel
theorem dX9_tell_19 : decode cX9_tell 19 = .ok (.bipush (-4), 2) := by decide +kernel
theorem dX9_tell_21 : decode cX9_tell 21 = .ok (.ireturn, 1) := by decide +kernel
theorem dX9_tell_22 : decode cX9_tell 22 = .ok (.aload_n 0, 1) := by decide +kernel
theorem dX9_tell_23 : decode cX9_tell 23 = .ok (.getfield 71, 3) := by decide +kernel
theorem dX9_tell_26 : decode cX9_tell 26 = .ok (.aload_n 0, 1) := by decide +kernel
theorem dX9_tell_27 : decode cX9_tell 27 = .ok (.getfield 202, 3) := by decide +kernel
theorem dX9_tell_30 : decode cX9_tell 30 = .ok (.iload_n 1, 1) := by decide +kernel
theorem dX9_tell_31 : decode cX9_tell 31 = .ok (.iastore, 1) := by decide +kernel
theorem dX9_tell_32 : decode cX9_tell 32 = .ok (.aload_n 0, 1) := by decide +kernel
theorem dX9_tell_33 : decode cX9_tell 33 = .ok (.dup, 1) := by decide +kernel
theorem dX9_tell_34 : decode cX9_tell 34 = .ok (.getfield 202, 3) := by decide +kernel
theorem dX9_tell_37 : decode cX9_tell 37 = .ok (.iconst 1, 1) := by decide +kernel
theorem dX9_tell_38 : decode cX9_tell 38 = .ok (.iadd, 1) := by decide +kernel
theorem dX9_tell_39 : decode cX9_tell 39 = .ok (.putfield 202, 3) := by decide +kernel
theorem dX9_tell_42 : decode cX9_tell 42 = .ok (.aload_n 0, 1) := by decide +kernel
theorem dX9_tell_43 : decode cX9_tell 43 = .ok (.getfield 202, 3) := by decide +kernel
theorem dX9_tell_46 : decode cX9_tell 46 = .ok (.ireturn, 1) := by decide +kernel
theorem dX9_alter_0 : decode cX9_alter 0 = .ok (.iload_n 1, 1) := by decide +kernel
theorem dX9_alter_1 : decode cX9_alter 1 = .ok (.i2l, 1) := by decide +kernel
theorem dX9_alter_2 : decode cX9_alter 2 = .ok (.lconst 0, 1) := by decide +kernel
theorem dX9_alter_3 : decode cX9_alter 3 = .ok (.aload_n 0, 1) := by decide +kernel
theorem dX9_alter_4 : decode cX9_alter 4 = .ok (.getfield 202, 3) := by decide +kernel
theorem dX9_alter_7 : decode cX9_alter 7 = .ok (.iconst 1, 1) := by decide +kernel
theorem dX9_alter_8 : decode cX9_alter 8 = .ok (.isub, 1) := by decide +kernel
theorem dX9_alter_9 : decode cX9_alter 9 = .ok (.i2l, 1) := by decide +kernel
theorem dX9_alter_10 : decode cX9_alter 10 = .ok (.invokestatic 121, 3) := by decide +kernel
theorem dX9_alter_13 : decode cX9_alter 13 = .ok (.ifCond .ne 5, 3) := by decide +kernel
theorem dX9_alter_16 : decode cX9_alter 16 = .ok (.iconst (-1), 1) := by decide +kernel
theorem dX9_alter_17 : decode cX9_alter 17 = .ok (.ireturn, 1) := by decide +kernel
theorem dX9_alter_18 : decode cX9_alter 18 = .ok (.iload_n 2, 1) := by decide +kernel
theorem dX9_alter_19 : decode cX9_alter 19 = .ok (.invokestatic 231, 3) := by decide +kernel
theorem dX9_alter_22 : decode cX9_alter 22 = .ok (.ifCond .ne 6, 3) := by decide +kernel
theorem dX9_alter_25 : decode cX9_alter 25 = .ok (.bipush (-2), 2) := by decide +kernel
theorem dX9_alter_27 : decode cX9_alter 27 = .ok (.ireturn, 1) := by decide +kernel
theorem dX9_alter_28 : decode cX9_alter 28 = .ok (.aload_n 0, 1) := by decide +kernel
theorem dX9_alter_29 : decode cX9_alter 29 = .ok (.getfield 71, 3) := by decide +kernel
theorem dX9_alter_32 : decode cX9_alter 32 = .ok (.iload_n 1, 1) := by decide +kernel
theorem dX9_alter_33 : decode cX9_alter 33 = .ok (.iaload, 1) := by decide +kernel
theorem dX9_alter_34 : decode cX9_alter 34 = .ok (.istore_n 3, 1) := by decide +kernel
theorem dX9_alter_35 : decode cX9_alter 35 = .ok (.aload_n 0, 1) := by decide +kernel
theorem dX9_alter_36 : decode cX9_alter 36 = .ok (.getfield 71, 3) := by decide +kernel
theorem dX9_alter_39 : decode cX9_alter 39 = .ok (.iload_n 1, 1) := by decide +kernel
theorem dX9_alter_40 : decode cX9_alter 40 = .ok (.iload_n 2, 1) := by decide +kernel
theorem dX9_alter_41 : decode cX9_alter 41 = .ok (.iastore, 1) := by decide +kernel
theorem dX9_alter_42 : decode cX9_alter 42 = .ok (.iload_n 3, 1) := by decide +kernel
theorem dX9_alter_43 : decode cX9_alter 43 = .ok (.ireturn, 1) := by decide +kernel
theorem dX9_cut_0 : decode cX9_cut 0 = .ok (.iload_n 1, 1) := by decide +kernel
theorem dX9_cut_1 : decode cX9_cut 1 = .ok (.i2l, 1) := by decide +kernel
theorem dX9_cut_2 : decode cX9_cut 2 = .ok (.lconst 0, 1) := by decide +kernel
theorem dX9_cut_3 : decode cX9_cut 3 = .ok (.aload_n 0, 1) := by decide +kernel
theorem dX9_cut_4 : decode cX9_cut 4 = .ok (.getfield 202, 3) := by decide +kernel
theorem dX9_cut_7 : decode cX9_cut 7 = .ok (.i2l, 1) := by decide +kernel
theorem dX9_cut_8 : decode cX9_cut 8 = .ok (.invokestatic 121, 3) := by decide +kernel
theorem dX9_cut_11 : decode cX9_cut 11 = .ok (.ifCond .ne 6, 3) := by decide +kernel
theorem dX9_cut_14 : decode cX9_cut 14 = .ok (.bipush (-2), 2) := by decide +kernel
theorem dX9_cut_16 : decode cX9_cut 16 = .ok (.ireturn, 1) := by decide +kernel
theorem dX9_cut_17 : decode cX9_cut 17 = .ok (.aload_n 0, 1) := by decide +kernel
theorem dX9_cut_18 : decode cX9_cut 18 = .ok (.getfield 202, 3) := by decide +kernel
theorem dX9_cut_21 : decode cX9_cut 21 = .ok (.istore_n 2, 1) := by decide +kernel
theorem dX9_cut_22 : decode cX9_cut 22 = .ok (.aload_n 0, 1) := by decide +kernel
theorem dX9_cut_23 : decode cX9_cut 23 = .ok (.iload_n 1, 1) := by decide +kernel
theorem dX9_cut_24 : decode cX9_cut 24 = .ok (.putfield 202, 3) := by decide +kernel
theorem dX9_cut_27 : decode cX9_cut 27 = .ok (.iload_n 2, 1) := by decide +kernel
theorem dX9_cut_28 : decode cX9_cut 28 = .ok (.ireturn, 1) := by decide +kernel
theorem dX9_takeTrust_0 : decode cX9_takeTrust 0 = .ok (.aload_n 0, 1) := by decide +kernel
theorem dX9_takeTrust_1 : decode cX9_takeTrust 1 = .ok (.getfield 208, 3) := by decide +kernel
theorem dX9_takeTrust_4 : decode cX9_takeTrust 4 = .ok (.bipush 8, 2) := by decide +kernel
theorem dX9_takeTrust_6 : decode cX9_takeTrust 6 = .ok (.if_icmp .ne 41, 3) := by decide +kernel
theorem dX9_takeTrust_9 : decode cX9_takeTrust 9 = .ok (.iconst 1, 1) := by decide +kernel
theorem dX9_takeTrust_10 : decode cX9_takeTrust 10 = .ok (.istore_n 2, 1) := by decide +kernel
theorem dX9_takeTrust_11 : decode cX9_takeTrust 11 = .ok (.iload_n 2, 1) := by decide +kernel
theorem dX9_takeTrust_12 : decode cX9_takeTrust 12 = .ok (.bipush 8, 2) := by decide +kernel
theorem dX9_takeTrust_14 : decode cX9_takeTrust 14 = .ok (.if_icmp .ge 23, 3) := by decide +kernel
theorem dX9_takeTrust_17 : decode cX9_takeTrust 17 = .ok (.aload_n 0, 1) := by decide +kernel
theorem dX9_takeTrust_18 : decode cX9_takeTrust 18 = .ok (.getfield 74, 3) := by decide +kernel
theorem dX9_takeTrust_21 : decode cX9_takeTrust 21 = .ok (.iload_n 2, 1) := by decide +kernel
theorem dX9_takeTrust_22 : decode cX9_takeTrust 22 = .ok (.iconst 1, 1) := by decide +kernel
theorem dX9_takeTrust_23 : decode cX9_takeTrust 23 = .ok (.isub, 1) := by decide +kernel
theorem dX9_takeTrust_24 : decode cX9_takeTrust 24 = .ok (.aload_n 0, 1) := by decide +kernel
theorem dX9_takeTrust_25 : decode cX9_takeTrust 25 = .ok (.getfield 74, 3) := by decide +kernel
theorem dX9_takeTrust_28 : decode cX9_takeTrust 28 = .ok (.iload_n 2, 1) := by decide +kernel
theorem dX9_takeTrust_29 : decode cX9_takeTrust 29 = .ok (.iaload, 1) := by decide +kernel
theorem dX9_takeTrust_30 : decode cX9_takeTrust 30 = .ok (.iastore, 1) := by decide +kernel
theorem dX9_takeTrust_31 : decode cX9_takeTrust 31 = .ok (.iinc 2 1, 3) := by decide +kernel
theorem dX9_takeTrust_34 : decode cX9_takeTrust 34 = .ok (.goto (-23), 3) := by decide +kernel
theorem dX9_takeTrust_37 : decode cX9_takeTrust 37 = .ok (.aload_n 0, 1) := by decide +kernel
theorem dX9_takeTrust_38 : decode cX9_takeTrust 38 = .ok (.dup, 1) := by decide +kernel
theorem dX9_takeTrust_39 : decode cX9_takeTrust 39 = .ok (.getfield 208, 3) := by decide +kernel
theorem dX9_takeTrust_42 : decode cX9_takeTrust 42 = .ok (.iconst 1, 1) := by decide +kernel
theorem dX9_takeTrust_43 : decode cX9_takeTrust 43 = .ok (.isub, 1) := by decide +kernel
theorem dX9_takeTrust_44 : decode cX9_takeTrust 44 = .ok (.putfield 208, 3) := by decide +kernel
theorem dX9_takeTrust_47 : decode cX9_takeTrust 47 = .ok (.aload_n 0, 1) := by decide +kernel
theorem dX9_takeTrust_48 : decode cX9_takeTrust 48 = .ok (.getfield 74, 3) := by decide +kernel
theorem dX9_takeTrust_51 : decode cX9_takeTrust 51 = .ok (.aload_n 0, 1) := by decide +kernel
theorem dX9_takeTrust_52 : decode cX9_takeTrust 52 = .ok (.getfield 208, 3) := by decide +kernel
theorem dX9_takeTrust_55 : decode cX9_takeTrust 55 = .ok (.aload_n 0, 1) := by decide +kernel
theorem dX9_takeTrust_56 : decode cX9_takeTrust 56 = .ok (.getfield 205, 3) := by decide +kernel
theorem dX9_takeTrust_59 : decode cX9_takeTrust 59 = .ok (.iastore, 1) := by decide +kernel
theorem dX9_takeTrust_60 : decode cX9_takeTrust 60 = .ok (.aload_n 0, 1) := by decide +kernel
theorem dX9_takeTrust_61 : decode cX9_takeTrust 61 = .ok (.dup, 1) := by decide +kernel
theorem dX9_takeTrust_62 : decode cX9_takeTrust 62 = .ok (.getfield 208, 3) := by decide +kernel
theorem dX9_takeTrust_65 : decode cX9_takeTrust 65 = .ok (.iconst 1, 1) := by decide +kernel
theorem dX9_takeTrust_66 : decode cX9_takeTrust 66 = .ok (.iadd, 1) := by decide +kernel
theorem dX9_takeTrust_67 : decode cX9_takeTrust 67 = .ok (.putfield 208, 3) := by decide +kernel
theorem dX9_takeTrust_70 : decode cX9_takeTrust 70 = .ok (.aload_n 0, 1) := by decide +kernel
theorem dX9_takeTrust_71 : decode cX9_takeTrust 71 = .ok (.iload_n 1, 1) := by decide +kernel
theorem dX9_takeTrust_72 : decode cX9_takeTrust 72 = .ok (.putfield 205, 3) := by decide +kernel
theorem dX9_takeTrust_75 : decode cX9_takeTrust 75 = .ok (.aload_n 0, 1) := by decide +kernel
theorem dX9_takeTrust_76 : decode cX9_takeTrust 76 = .ok (.getfield 208, 3) := by decide +kernel
theorem dX9_takeTrust_79 : decode cX9_takeTrust 79 = .ok (.ireturn, 1) := by decide +kernel
theorem dX9_trust_0 : decode cX9_trust 0 = .ok (.aload_n 0, 1) := by decide +kernel
theorem dX9_trust_1 : decode cX9_trust 1 = .ok (.aload_n 0, 1) := by decide +kernel
theorem dX9_trust_2 : decode cX9_trust 2 = .ok (.aload_n 0, 1) := by decide +kernel
theorem dX9_trust_3 : decode cX9_trust 3 = .ok (.getfield 7, 3) := by decide +kernel
theorem dX9_trust_6 : decode cX9_trust 6 = .ok (.invokevirtual 192, 3) := by decide +kernel
theorem dX9_trust_9 : decode cX9_trust 9 = .ok (.invokevirtual 234, 3) := by decide +kernel
theorem dX9_trust_12 : decode cX9_trust 12 = .ok (.ireturn, 1) := by decide +kernel
theorem dX9_believe_0 : decode cX9_believe 0 = .ok (.iload_n 1, 1) := by decide +kernel
theorem dX9_believe_1 : decode cX9_believe 1 = .ok (.ifCond .ge 8, 3) := by decide +kernel
theorem dX9_believe_4 : decode cX9_believe 4 = .ok (.bipush (-2), 2) := by decide +kernel
theorem dX9_believe_6 : decode cX9_believe 6 = .ok (.goto 8, 3) := by decide +kernel
theorem dX9_believe_9 : decode cX9_believe 9 = .ok (.aload_n 0, 1) := by decide +kernel
theorem dX9_believe_10 : decode cX9_believe 10 = .ok (.iload_n 1, 1) := by decide +kernel
theorem dX9_believe_11 : decode cX9_believe 11 = .ok (.invokevirtual 234, 3) := by decide +kernel
theorem dX9_believe_14 : decode cX9_believe 14 = .ok (.ireturn, 1) := by decide +kernel
theorem dX9_former_0 : decode cX9_former 0 = .ok (.iload_n 1, 1) := by decide +kernel
theorem dX9_former_1 : decode cX9_former 1 = .ok (.i2l, 1) := by decide +kernel
theorem dX9_former_2 : decode cX9_former 2 = .ok (.lconst 0, 1) := by decide +kernel
theorem dX9_former_3 : decode cX9_former 3 = .ok (.aload_n 0, 1) := by decide +kernel
theorem dX9_former_4 : decode cX9_former 4 = .ok (.getfield 208, 3) := by decide +kernel
theorem dX9_former_7 : decode cX9_former 7 = .ok (.iconst 1, 1) := by decide +kernel
theorem dX9_former_8 : decode cX9_former 8 = .ok (.isub, 1) := by decide +kernel
theorem dX9_former_9 : decode cX9_former 9 = .ok (.i2l, 1) := by decide +kernel
theorem dX9_former_10 : decode cX9_former 10 = .ok (.invokestatic 121, 3) := by decide +kernel
theorem dX9_former_13 : decode cX9_former 13 = .ok (.ifCond .eq 19, 3) := by decide +kernel
theorem dX9_former_16 : decode cX9_former 16 = .ok (.aload_n 0, 1) := by decide +kernel
theorem dX9_former_17 : decode cX9_former 17 = .ok (.getfield 74, 3) := by decide +kernel
theorem dX9_former_20 : decode cX9_former 20 = .ok (.aload_n 0, 1) := by decide +kernel
theorem dX9_former_21 : decode cX9_former 21 = .ok (.getfield 208, 3) := by decide +kernel
theorem dX9_former_24 : decode cX9_former 24 = .ok (.iconst 1, 1) := by decide +kernel
theorem dX9_former_25 : decode cX9_former 25 = .ok (.isub, 1) := by decide +kernel
theorem dX9_former_26 : decode cX9_former 26 = .ok (.iload_n 1, 1) := by decide +kernel
theorem dX9_former_27 : decode cX9_former 27 = .ok (.isub, 1) := by decide +kernel
theorem dX9_former_28 : decode cX9_former 28 = .ok (.iaload, 1) := by decide +kernel
theorem dX9_former_29 : decode cX9_former 29 = .ok (.goto 4, 3) := by decide +kernel
theorem dX9_former_32 : decode cX9_former 32 = .ok (.iconst (-1), 1) := by decide +kernel
theorem dX9_former_33 : decode cX9_former 33 = .ok (.ireturn, 1) := by decide +kernel
theorem dX9_hang_0 : decode cX9_hang 0 = .ok (.iload_n 1, 1) := by decide +kernel
theorem dX9_hang_1 : decode cX9_hang 1 = .ok (.bipush (-9), 2) := by decide +kernel
theorem dX9_hang_3 : decode cX9_hang 3 = .ok (.if_icmp .ne 12, 3) := by decide +kernel
theorem dX9_hang_6 : decode cX9_hang 6 = .ok (.aload_n 0, 1) := by decide +kernel
theorem dX9_hang_7 : decode cX9_hang 7 = .ok (.iload 4, 2) := by decide +kernel
theorem dX9_hang_9 : decode cX9_hang 9 = .ok (.putfield 237, 3) := by decide +kernel
theorem dX9_hang_12 : decode cX9_hang 12 = .ok (.goto 40, 3) := by decide +kernel
theorem dX9_hang_15 : decode cX9_hang 15 = .ok (.iload_n 2, 1) := by decide +kernel
theorem dX9_hang_16 : decode cX9_hang 16 = .ok (.ifCond .ne 21, 3) := by decide +kernel
theorem dX9_hang_19 : decode cX9_hang 19 = .ok (.aload_n 0, 1) := by decide +kernel
theorem dX9_hang_20 : decode cX9_hang 20 = .ok (.getfield 83, 3) := by decide +kernel
theorem dX9_hang_23 : decode cX9_hang 23 = .ok (.iload_n 1, 1) := by decide +kernel
theorem dX9_hang_24 : decode cX9_hang 24 = .ok (.iload_n 3, 1) := by decide +kernel
theorem dX9_hang_25 : decode cX9_hang 25 = .ok (.iastore, 1) := by decide +kernel
theorem dX9_hang_26 : decode cX9_hang 26 = .ok (.aload_n 0, 1) := by decide +kernel
theorem dX9_hang_27 : decode cX9_hang 27 = .ok (.getfield 89, 3) := by decide +kernel
theorem dX9_hang_30 : decode cX9_hang 30 = .ok (.iload_n 1, 1) := by decide +kernel
theorem dX9_hang_31 : decode cX9_hang 31 = .ok (.iload 4, 2) := by decide +kernel
theorem dX9_hang_33 : decode cX9_hang 33 = .ok (.iastore, 1) := by decide +kernel
theorem dX9_hang_34 : decode cX9_hang 34 = .ok (.goto 18, 3) := by decide +kernel
theorem dX9_hang_37 : decode cX9_hang 37 = .ok (.aload_n 0, 1) := by decide +kernel
theorem dX9_hang_38 : decode cX9_hang 38 = .ok (.getfield 86, 3) := by decide +kernel
theorem dX9_hang_41 : decode cX9_hang 41 = .ok (.iload_n 1, 1) := by decide +kernel
theorem dX9_hang_42 : decode cX9_hang 42 = .ok (.iload_n 3, 1) := by decide +kernel
theorem dX9_hang_43 : decode cX9_hang 43 = .ok (.iastore, 1) := by decide +kernel
theorem dX9_hang_44 : decode cX9_hang 44 = .ok (.aload_n 0, 1) := by decide +kernel
theorem dX9_hang_45 : decode cX9_hang 45 = .ok (.getfield 92, 3) := by decide +kernel
theorem dX9_hang_48 : decode cX9_hang 48 = .ok (.iload_n 1, 1) := by decide +kernel
theorem dX9_hang_49 : decode cX9_hang 49 = .ok (.iload 4, 2) := by decide +kernel
theorem dX9_hang_51 : decode cX9_hang 51 = .ok (.iastore, 1) := by decide +kernel
theorem dX9_hang_52 : decode cX9_hang 52 = .ok (.return_, 1) := by decide +kernel
theorem dX9_takeItem_0 : decode cX9_takeItem 0 = .ok (.aload_n 0, 1) := by decide +kernel
theorem dX9_takeItem_1 : decode cX9_takeItem 1 = .ok (.getfield 56, 3) := by decide +kernel
theorem dX9_takeItem_4 : decode cX9_takeItem 4 = .ok (.iload_n 2, 1) := by decide +kernel
theorem dX9_takeItem_5 : decode cX9_takeItem 5 = .ok (.iaload, 1) := by decide +kernel
theorem dX9_takeItem_6 : decode cX9_takeItem 6 = .ok (.istore 5, 2) := by decide +kernel
theorem dX9_takeItem_8 : decode cX9_takeItem 8 = .ok (.aload_n 0, 1) := by decide +kernel
theorem dX9_takeItem_9 : decode cX9_takeItem 9 = .ok (.getfield 59, 3) := by decide +kernel
theorem dX9_takeItem_12 : decode cX9_takeItem 12 = .ok (.iload_n 2, 1) := by decide +kernel
theorem dX9_takeItem_13 : decode cX9_takeItem 13 = .ok (.iaload, 1) := by decide +kernel
theorem dX9_takeItem_14 : decode cX9_takeItem 14 = .ok (.istore 6, 2) := by decide +kernel
theorem dX9_takeItem_16 : decode cX9_takeItem 16 = .ok (.aload_n 0, 1) := by decide +kernel
theorem dX9_takeItem_17 : decode cX9_takeItem 17 = .ok (.getfield 62, 3) := by decide +kernel
theorem dX9_takeItem_20 : decode cX9_takeItem 20 = .ok (.iload_n 2, 1) := by decide +kernel
theorem dX9_takeItem_21 : decode cX9_takeItem 21 = .ok (.iaload, 1) := by decide +kernel
theorem dX9_takeItem_22 : decode cX9_takeItem 22 = .ok (.istore 7, 2) := by decide +kernel
theorem dX9_takeItem_24 : decode cX9_takeItem 24 = .ok (.iload_n 1, 1) := by decide +kernel
theorem dX9_takeItem_25 : decode cX9_takeItem 25 = .ok (.ifCond .le 12, 3) := by decide +kernel
theorem dX9_takeItem_28 : decode cX9_takeItem 28 = .ok (.iload 5, 2) := by decide +kernel
theorem dX9_takeItem_30 : decode cX9_takeItem 30 = .ok (.iload 6, 2) := by decide +kernel
theorem dX9_takeItem_32 : decode cX9_takeItem 32 = .ok (.if_icmp .le 5, 3) := by decide +kernel
theorem dX9_takeItem_35 : decode cX9_takeItem 35 = .ok (.iconst 3, 1) := by decide +kernel
theorem dX9_takeItem_36 : decode cX9_takeItem 36 = .ok (.ireturn, 1) := by decide +kernel
theorem dX9_takeItem_37 : decode cX9_takeItem 37 = .ok (.iload_n 1, 1) := by decide +kernel
theorem dX9_takeItem_38 : decode cX9_takeItem 38 = .ok (.ifCond .le 34, 3) := by decide +kernel
theorem dX9_takeItem_41 : decode cX9_takeItem 41 = .ok (.iload 5, 2) := by decide +kernel
theorem dX9_takeItem_43 : decode cX9_takeItem 43 = .ok (.iload_n 3, 1) := by decide +kernel
theorem dX9_takeItem_44 : decode cX9_takeItem 44 = .ok (.if_icmp .le 8, 3) := by decide +kernel
theorem dX9_takeItem_47 : decode cX9_takeItem 47 = .ok (.iload 5, 2) := by decide +kernel
theorem dX9_takeItem_49 : decode cX9_takeItem 49 = .ok (.goto 4, 3) := by decide +kernel
theorem dX9_takeItem_52 : decode cX9_takeItem 52 = .ok (.iload_n 3, 1) := by decide +kernel
theorem dX9_takeItem_53 : decode cX9_takeItem 53 = .ok (.iload 6, 2) := by decide +kernel
theorem dX9_takeItem_55 : decode cX9_takeItem 55 = .ok (.iload 4, 2) := by decide +kernel
theorem dX9_takeItem_57 : decode cX9_takeItem 57 = .ok (.if_icmp .ge 8, 3) := by decide +kernel
theorem dX9_takeItem_60 : decode cX9_takeItem 60 = .ok (.iload 6, 2) := by decide +kernel
theorem dX9_takeItem_62 : decode cX9_takeItem 62 = .ok (.goto 5, 3) := by decide +kernel
theorem dX9_takeItem_65 : decode cX9_takeItem 65 = .ok (.iload 4, 2) := by decide +kernel
theorem dX9_takeItem_67 : decode cX9_takeItem 67 = .ok (.if_icmp .gt 5, 3) := by decide +kernel
theorem dX9_takeItem_70 : decode cX9_takeItem 70 = .ok (.iconst 5, 1) := by decide +kernel
theorem dX9_takeItem_71 : decode cX9_takeItem 71 = .ok (.ireturn, 1) := by decide +kernel
theorem dX9_takeItem_72 : decode cX9_takeItem 72 = .ok (.iload_n 1, 1) := by decide +kernel
theorem dX9_takeItem_73 : decode cX9_takeItem 73 = .ok (.ifCond .lt 20, 3) := by decide +kernel
theorem dX9_takeItem_76 : decode cX9_takeItem 76 = .ok (.aload_n 0, 1) := by decide +kernel
theorem dX9_takeItem_77 : decode cX9_takeItem 77 = .ok (.iload 7, 2) := by decide +kernel
theorem dX9_takeItem_79 : decode cX9_takeItem 79 = .ok (.aload_n 0, 1) := by decide +kernel
theorem dX9_takeItem_80 : decode cX9_takeItem 80 = .ok (.getfield 65, 3) := by decide +kernel
theorem dX9_takeItem_83 : decode cX9_takeItem 83 = .ok (.iload_n 2, 1) := by decide +kernel
theorem dX9_takeItem_84 : decode cX9_takeItem 84 = .ok (.iaload, 1) := by decide +kernel
theorem dX9_takeItem_85 : decode cX9_takeItem 85 = .ok (.bipush (-9), 2) := by decide +kernel
theorem dX9_takeItem_87 : decode cX9_takeItem 87 = .ok (.iload_n 1, 1) := by decide +kernel
theorem dX9_takeItem_88 : decode cX9_takeItem 88 = .ok (.invokevirtual 240, 3) := by decide +kernel
theorem dX9_takeItem_91 : decode cX9_takeItem 91 = .ok (.iconst 0, 1) := by decide +kernel
theorem dX9_takeItem_92 : decode cX9_takeItem 92 = .ok (.ireturn, 1) := by decide +kernel
theorem dX9_takeItem_93 : decode cX9_takeItem 93 = .ok (.bipush (-100), 2) := by decide +kernel
theorem dX9_takeItem_95 : decode cX9_takeItem 95 = .ok (.iload_n 1, 1) := by decide +kernel
theorem dX9_takeItem_96 : decode cX9_takeItem 96 = .ok (.isub, 1) := by decide +kernel
theorem dX9_takeItem_97 : decode cX9_takeItem 97 = .ok (.bipush 100, 2) := by decide +kernel
theorem dX9_takeItem_99 : decode cX9_takeItem 99 = .ok (.idiv, 1) := by decide +kernel
theorem dX9_takeItem_100 : decode cX9_takeItem 100 = .ok (.istore 8, 2) := by decide +kernel
theorem dX9_takeItem_102 : decode cX9_takeItem 102 = .ok (.iload 8, 2) := by decide +kernel
theorem dX9_takeItem_104 : decode cX9_takeItem 104 = .ok (.i2l, 1) := by decide +kernel
theorem dX9_takeItem_105 : decode cX9_takeItem 105 = .ok (.iload 5, 2) := by decide +kernel
theorem dX9_takeItem_107 : decode cX9_takeItem 107 = .ok (.i2l, 1) := by decide +kernel
theorem dX9_takeItem_108 : decode cX9_takeItem 108 = .ok (.iload 6, 2) := by decide +kernel
theorem dX9_takeItem_110 : decode cX9_takeItem 110 = .ok (.i2l, 1) := by decide +kernel
theorem dX9_takeItem_111 : decode cX9_takeItem 111 = .ok (.invokestatic 121, 3) := by decide +kernel
theorem dX9_takeItem_114 : decode cX9_takeItem 114 = .ok (.ifCond .ne 5, 3) := by decide +kernel
theorem dX9_takeItem_117 : decode cX9_takeItem 117 = .ok (.iconst 3, 1) := by decide +kernel
theorem dX9_takeItem_118 : decode cX9_takeItem 118 = .ok (.ireturn, 1) := by decide +kernel
theorem dX9_takeItem_119 : decode cX9_takeItem 119 = .ok (.iload 7, 2) := by decide +kernel
theorem dX9_takeItem_121 : decode cX9_takeItem 121 = .ok (.bipush (-9), 2) := by decide +kernel
theorem dX9_takeItem_123 : decode cX9_takeItem 123 = .ok (.if_icmp .eq 20, 3) := by decide +kernel
theorem dX9_takeItem_126 : decode cX9_takeItem 126 = .ok (.aload_n 0, 1) := by decide +kernel
theorem dX9_takeItem_127 : decode cX9_takeItem 127 = .ok (.getfield 77, 3) := by decide +kernel
theorem dX9_takeItem_130 : decode cX9_takeItem 130 = .ok (.iload 7, 2) := by decide +kernel
theorem dX9_takeItem_132 : decode cX9_takeItem 132 = .ok (.iaload, 1) := by decide +kernel
theorem dX9_takeItem_133 : decode cX9_takeItem 133 = .ok (.iload 8, 2) := by decide +kernel
theorem dX9_takeItem_135 : decode cX9_takeItem 135 = .ok (.invokestatic 149, 3) := by decide +kernel
theorem dX9_takeItem_138 : decode cX9_takeItem 138 = .ok (.ifCond .ne 5, 3) := by decide +kernel
theorem dX9_takeItem_141 : decode cX9_takeItem 141 = .ok (.iconst 4, 1) := by decide +kernel
theorem dX9_takeItem_142 : decode cX9_takeItem 142 = .ok (.ireturn, 1) := by decide +kernel
theorem dX9_takeItem_143 : decode cX9_takeItem 143 = .ok (.aload_n 0, 1) := by decide +kernel
theorem dX9_takeItem_144 : decode cX9_takeItem 144 = .ok (.getfield 243, 3) := by decide +kernel
theorem dX9_takeItem_147 : decode cX9_takeItem 147 = .ok (.istore 9, 2) := by decide +kernel
theorem dX9_takeItem_149 : decode cX9_takeItem 149 = .ok (.aload_n 0, 1) := by decide +kernel
theorem dX9_takeItem_150 : decode cX9_takeItem 150 = .ok (.getfield 77, 3) := by decide +kernel
theorem dX9_takeItem_153 : decode cX9_takeItem 153 = .ok (.iload 9, 2) := by decide +kernel
theorem dX9_takeItem_155 : decode cX9_takeItem 155 = .ok (.iload 8, 2) := by decide +kernel
theorem dX9_takeItem_157 : decode cX9_takeItem 157 = .ok (.iastore, 1) := by decide +kernel
theorem dX9_takeItem_158 : decode cX9_takeItem 158 = .ok (.aload_n 0, 1) := by decide +kernel
theorem dX9_takeItem_159 : decode cX9_takeItem 159 = .ok (.getfield 80, 3) := by decide +kernel
theorem dX9_takeItem_162 : decode cX9_takeItem 162 = .ok (.iload 9, 2) := by decide +kernel
theorem dX9_takeItem_164 : decode cX9_takeItem 164 = .ok (.bipush (-100), 2) := by decide +kernel
theorem dX9_takeItem_166 : decode cX9_takeItem 166 = .ok (.iload_n 1, 1) := by decide +kernel
theorem dX9_takeItem_167 : decode cX9_takeItem 167 = .ok (.isub, 1) := by decide +kernel
theorem dX9_takeItem_168 : decode cX9_takeItem 168 = .ok (.bipush 100, 2) := by decide +kernel
theorem dX9_takeItem_170 : decode cX9_takeItem 170 = .ok (.irem, 1) := by decide +kernel
theorem dX9_takeItem_171 : decode cX9_takeItem 171 = .ok (.iastore, 1) := by decide +kernel
theorem dX9_takeItem_172 : decode cX9_takeItem 172 = .ok (.aload_n 0, 1) := by decide +kernel
theorem dX9_takeItem_173 : decode cX9_takeItem 173 = .ok (.dup, 1) := by decide +kernel
theorem dX9_takeItem_174 : decode cX9_takeItem 174 = .ok (.getfield 243, 3) := by decide +kernel
theorem dX9_takeItem_177 : decode cX9_takeItem 177 = .ok (.iconst 1, 1) := by decide +kernel
theorem dX9_takeItem_178 : decode cX9_takeItem 178 = .ok (.iadd, 1) := by decide +kernel
theorem dX9_takeItem_179 : decode cX9_takeItem 179 = .ok (.putfield 243, 3) := by decide +kernel
theorem dX9_takeItem_182 : decode cX9_takeItem 182 = .ok (.aload_n 0, 1) := by decide +kernel
theorem dX9_takeItem_183 : decode cX9_takeItem 183 = .ok (.iload 7, 2) := by decide +kernel
theorem dX9_takeItem_185 : decode cX9_takeItem 185 = .ok (.aload_n 0, 1) := by decide +kernel
theorem dX9_takeItem_186 : decode cX9_takeItem 186 = .ok (.getfield 65, 3) := by decide +kernel
theorem dX9_takeItem_189 : decode cX9_takeItem 189 = .ok (.iload_n 2, 1) := by decide +kernel
theorem dX9_takeItem_190 : decode cX9_takeItem 190 = .ok (.iaload, 1) := by decide +kernel
theorem dX9_takeItem_191 : decode cX9_takeItem 191 = .ok (.iload 9, 2) := by decide +kernel
theorem dX9_takeItem_193 : decode cX9_takeItem 193 = .ok (.iconst 0, 1) := by decide +kernel
theorem dX9_takeItem_194 : decode cX9_takeItem 194 = .ok (.invokevirtual 240, 3) := by decide +kernel
theorem dX9_takeItem_197 : decode cX9_takeItem 197 = .ok (.aload_n 0, 1) := by decide +kernel
theorem dX9_takeItem_198 : decode cX9_takeItem 198 = .ok (.iload 8, 2) := by decide +kernel
theorem dX9_takeItem_200 : decode cX9_takeItem 200 = .ok (.iconst 1, 1) := by decide +kernel
theorem dX9_takeItem_201 : decode cX9_takeItem 201 = .ok (.iadd, 1) := by decide +kernel
theorem dX9_takeItem_202 : decode cX9_takeItem 202 = .ok (.iload 6, 2) := by decide +kernel
theorem dX9_takeItem_204 : decode cX9_takeItem 204 = .ok (.iload 9, 2) := by decide +kernel
theorem dX9_takeItem_206 : decode cX9_takeItem 206 = .ok (.iconst 1, 1) := by decide +kernel
theorem dX9_takeItem_207 : decode cX9_takeItem 207 = .ok (.invokevirtual 153, 3) := by decide +kernel
theorem dX9_takeItem_210 : decode cX9_takeItem 210 = .ok (.aload_n 0, 1) := by decide +kernel
theorem dX9_takeItem_211 : decode cX9_takeItem 211 = .ok (.iload 5, 2) := by decide +kernel
theorem dX9_takeItem_213 : decode cX9_takeItem 213 = .ok (.iload 8, 2) := by decide +kernel
theorem dX9_takeItem_215 : decode cX9_takeItem 215 = .ok (.iconst 1, 1) := by decide +kernel
theorem dX9_takeItem_216 : decode cX9_takeItem 216 = .ok (.isub, 1) := by decide +kernel
theorem dX9_takeItem_217 : decode cX9_takeItem 217 = .ok (.iload 9, 2) := by decide +kernel
theorem dX9_takeItem_219 : decode cX9_takeItem 219 = .ok (.iconst 0, 1) := by decide +kernel
theorem dX9_takeItem_220 : decode cX9_takeItem 220 = .ok (.invokevirtual 153, 3) := by decide +kernel
theorem dX9_takeItem_223 : decode cX9_takeItem 223 = .ok (.iconst 0, 1) := by decide +kernel
theorem dX9_takeItem_224 : decode cX9_takeItem 224 = .ok (.ireturn, 1) := by decide +kernel
theorem dX9_reasonOf_0 : decode cX9_reasonOf 0 = .ok (.aload_n 0, 1) := by decide +kernel
theorem dX9_reasonOf_1 : decode cX9_reasonOf 1 = .ok (.iconst 0, 1) := by decide +kernel
theorem dX9_reasonOf_2 : decode cX9_reasonOf 2 = .ok (.putfield 243, 3) := by decide +kernel
theorem dX9_reasonOf_5 : decode cX9_reasonOf 5 = .ok (.aload_n 0, 1) := by decide +kernel
theorem dX9_reasonOf_6 : decode cX9_reasonOf 6 = .ok (.iconst 0, 1) := by decide +kernel
theorem dX9_reasonOf_7 : decode cX9_reasonOf 7 = .ok (.putfield 237, 3) := by decide +kernel
theorem dX9_reasonOf_10 : decode cX9_reasonOf 10 = .ok (.aload_n 0, 1) := by decide +kernel
theorem dX9_reasonOf_11 : decode cX9_reasonOf 11 = .ok (.iconst 0, 1) := by decide +kernel
theorem dX9_reasonOf_12 : decode cX9_reasonOf 12 = .ok (.putfield 145, 3) := by decide +kernel
theorem dX9_reasonOf_15 : decode cX9_reasonOf 15 = .ok (.aload_n 0, 1) := by decide +kernel
theorem dX9_reasonOf_16 : decode cX9_reasonOf 16 = .ok (.iconst 0, 1) := by decide +kernel
theorem dX9_reasonOf_17 : decode cX9_reasonOf 17 = .ok (.bipush 99, 2) := by decide +kernel
theorem dX9_reasonOf_19 : decode cX9_reasonOf 19 = .ok (.bipush (-9), 2) := by decide +kernel
theorem dX9_reasonOf_21 : decode cX9_reasonOf 21 = .ok (.iconst 0, 1) := by decide +kernel
theorem dX9_reasonOf_22 : decode cX9_reasonOf 22 = .ok (.invokevirtual 153, 3) := by decide +kernel
theorem dX9_reasonOf_25 : decode cX9_reasonOf 25 = .ok (.iconst 0, 1) := by decide +kernel
theorem dX9_reasonOf_26 : decode cX9_reasonOf 26 = .ok (.istore_n 3, 1) := by decide +kernel
theorem dX9_reasonOf_27 : decode cX9_reasonOf 27 = .ok (.aload_n 0, 1) := by decide +kernel
theorem dX9_reasonOf_28 : decode cX9_reasonOf 28 = .ok (.getfield 145, 3) := by decide +kernel
theorem dX9_reasonOf_31 : decode cX9_reasonOf 31 = .ok (.ifCond .le 55, 3) := by decide +kernel
theorem dX9_reasonOf_34 : decode cX9_reasonOf 34 = .ok (.iload_n 3, 1) := by decide +kernel
theorem dX9_reasonOf_35 : decode cX9_reasonOf 35 = .ok (.aload_n 0, 1) := by decide +kernel
theorem dX9_reasonOf_36 : decode cX9_reasonOf 36 = .ok (.getfield 202, 3) := by decide +kernel
theorem dX9_reasonOf_39 : decode cX9_reasonOf 39 = .ok (.if_icmp .ne 5, 3) := by decide +kernel
theorem dX9_reasonOf_42 : decode cX9_reasonOf 42 = .ok (.iconst 1, 1) := by decide +kernel
theorem dX9_reasonOf_43 : decode cX9_reasonOf 43 = .ok (.ireturn, 1) := by decide +kernel
theorem dX9_reasonOf_44 : decode cX9_reasonOf 44 = .ok (.aload_n 0, 1) := by decide +kernel
theorem dX9_reasonOf_45 : decode cX9_reasonOf 45 = .ok (.dup, 1) := by decide +kernel
theorem dX9_reasonOf_46 : decode cX9_reasonOf 46 = .ok (.getfield 145, 3) := by decide +kernel
theorem dX9_reasonOf_49 : decode cX9_reasonOf 49 = .ok (.iconst 1, 1) := by decide +kernel
theorem dX9_reasonOf_50 : decode cX9_reasonOf 50 = .ok (.isub, 1) := by decide +kernel
theorem dX9_reasonOf_51 : decode cX9_reasonOf 51 = .ok (.putfield 145, 3) := by decide +kernel
theorem dX9_reasonOf_54 : decode cX9_reasonOf 54 = .ok (.aload_n 0, 1) := by decide +kernel
theorem dX9_reasonOf_55 : decode cX9_reasonOf 55 = .ok (.aload_n 0, 1) := by decide +kernel
theorem dX9_reasonOf_56 : decode cX9_reasonOf 56 = .ok (.getfield 71, 3) := by decide +kernel
theorem dX9_reasonOf_59 : decode cX9_reasonOf 59 = .ok (.iload_n 3, 1) := by decide +kernel
theorem dX9_reasonOf_60 : decode cX9_reasonOf 60 = .ok (.iaload, 1) := by decide +kernel
theorem dX9_reasonOf_61 : decode cX9_reasonOf 61 = .ok (.aload_n 0, 1) := by decide +kernel
theorem dX9_reasonOf_62 : decode cX9_reasonOf 62 = .ok (.getfield 145, 3) := by decide +kernel
theorem dX9_reasonOf_65 : decode cX9_reasonOf 65 = .ok (.iload_n 1, 1) := by decide +kernel
theorem dX9_reasonOf_66 : decode cX9_reasonOf 66 = .ok (.iload_n 2, 1) := by decide +kernel
theorem dX9_reasonOf_67 : decode cX9_reasonOf 67 = .ok (.invokevirtual 246, 3) := by decide +kernel
theorem dX9_reasonOf_70 : decode cX9_reasonOf 70 = .ok (.istore 4, 2) := by decide +kernel
theorem dX9_reasonOf_72 : decode cX9_reasonOf 72 = .ok (.iload 4, 2) := by decide +kernel
theorem dX9_reasonOf_74 : decode cX9_reasonOf 74 = .ok (.ifCond .eq 6, 3) := by decide +kernel
theorem dX9_reasonOf_77 : decode cX9_reasonOf 77 = .ok (.iload 4, 2) := by decide +kernel
theorem dX9_reasonOf_79 : decode cX9_reasonOf 79 = .ok (.ireturn, 1) := by decide +kernel
theorem dX9_reasonOf_80 : decode cX9_reasonOf 80 = .ok (.iinc 3 1, 3) := by decide +kernel
theorem dX9_reasonOf_83 : decode cX9_reasonOf 83 = .ok (.goto (-56), 3) := by decide +kernel
theorem dX9_reasonOf_86 : decode cX9_reasonOf 86 = .ok (.iload_n 3, 1) := by decide +kernel
theorem dX9_reasonOf_87 : decode cX9_reasonOf 87 = .ok (.aload_n 0, 1) := by decide +kernel
theorem dX9_reasonOf_88 : decode cX9_reasonOf 88 = .ok (.getfield 202, 3) := by decide +kernel
theorem dX9_reasonOf_91 : decode cX9_reasonOf 91 = .ok (.if_icmp .ge 5, 3) := by decide +kernel
theorem dX9_reasonOf_94 : decode cX9_reasonOf 94 = .ok (.iconst 2, 1) := by decide +kernel
theorem dX9_reasonOf_95 : decode cX9_reasonOf 95 = .ok (.ireturn, 1) := by decide +kernel
theorem dX9_reasonOf_96 : decode cX9_reasonOf 96 = .ok (.aload_n 0, 1) := by decide +kernel
theorem dX9_reasonOf_97 : decode cX9_reasonOf 97 = .ok (.invokevirtual 249, 3) := by decide +kernel
theorem dX9_reasonOf_100 : decode cX9_reasonOf 100 = .ok (.istore 4, 2) := by decide +kernel
theorem dX9_reasonOf_102 : decode cX9_reasonOf 102 = .ok (.iconst 0, 1) := by decide +kernel
theorem dX9_reasonOf_103 : decode cX9_reasonOf 103 = .ok (.istore 5, 2) := by decide +kernel
theorem dX9_reasonOf_105 : decode cX9_reasonOf 105 = .ok (.iconst 0, 1) := by decide +kernel
theorem dX9_reasonOf_106 : decode cX9_reasonOf 106 = .ok (.istore 6, 2) := by decide +kernel
theorem dX9_reasonOf_108 : decode cX9_reasonOf 108 = .ok (.iload 6, 2) := by decide +kernel
theorem dX9_reasonOf_110 : decode cX9_reasonOf 110 = .ok (.aload_n 0, 1) := by decide +kernel
theorem dX9_reasonOf_111 : decode cX9_reasonOf 111 = .ok (.getfield 208, 3) := by decide +kernel
theorem dX9_reasonOf_114 : decode cX9_reasonOf 114 = .ok (.if_icmp .ge 33, 3) := by decide +kernel
theorem dX9_reasonOf_117 : decode cX9_reasonOf 117 = .ok (.iload 5, 2) := by decide +kernel
theorem dX9_reasonOf_119 : decode cX9_reasonOf 119 = .ok (.ifCond .ne 15, 3) := by decide +kernel
theorem dX9_reasonOf_122 : decode cX9_reasonOf 122 = .ok (.aload_n 0, 1) := by decide +kernel
theorem dX9_reasonOf_123 : decode cX9_reasonOf 123 = .ok (.getfield 74, 3) := by decide +kernel
theorem dX9_reasonOf_126 : decode cX9_reasonOf 126 = .ok (.iload 6, 2) := by decide +kernel
theorem dX9_reasonOf_128 : decode cX9_reasonOf 128 = .ok (.iaload, 1) := by decide +kernel
theorem dX9_reasonOf_129 : decode cX9_reasonOf 129 = .ok (.iload 4, 2) := by decide +kernel
theorem dX9_reasonOf_131 : decode cX9_reasonOf 131 = .ok (.if_icmp .ne 7, 3) := by decide +kernel
theorem dX9_reasonOf_134 : decode cX9_reasonOf 134 = .ok (.iconst 1, 1) := by decide +kernel
theorem dX9_reasonOf_135 : decode cX9_reasonOf 135 = .ok (.goto 4, 3) := by decide +kernel
theorem dX9_reasonOf_138 : decode cX9_reasonOf 138 = .ok (.iconst 0, 1) := by decide +kernel
theorem dX9_reasonOf_139 : decode cX9_reasonOf 139 = .ok (.istore 5, 2) := by decide +kernel
theorem dX9_reasonOf_141 : decode cX9_reasonOf 141 = .ok (.iinc 6 1, 3) := by decide +kernel
theorem dX9_reasonOf_144 : decode cX9_reasonOf 144 = .ok (.goto (-36), 3) := by decide +kernel
theorem dX9_reasonOf_147 : decode cX9_reasonOf 147 = .ok (.iload 4, 2) := by decide +kernel
theorem dX9_reasonOf_149 : decode cX9_reasonOf 149 = .ok (.aload_n 0, 1) := by decide +kernel
theorem dX9_reasonOf_150 : decode cX9_reasonOf 150 = .ok (.getfield 205, 3) := by decide +kernel
theorem dX9_reasonOf_153 : decode cX9_reasonOf 153 = .ok (.if_icmp .ne 7, 3) := by decide +kernel
theorem dX9_reasonOf_156 : decode cX9_reasonOf 156 = .ok (.iconst 0, 1) := by decide +kernel
theorem dX9_reasonOf_157 : decode cX9_reasonOf 157 = .ok (.goto 15, 3) := by decide +kernel
theorem dX9_reasonOf_160 : decode cX9_reasonOf 160 = .ok (.iload 5, 2) := by decide +kernel
theorem dX9_reasonOf_162 : decode cX9_reasonOf 162 = .ok (.ifCond .eq 8, 3) := by decide +kernel
theorem dX9_reasonOf_165 : decode cX9_reasonOf 165 = .ok (.bipush 7, 2) := by decide +kernel
theorem dX9_reasonOf_167 : decode cX9_reasonOf 167 = .ok (.goto 5, 3) := by decide +kernel
theorem dX9_reasonOf_170 : decode cX9_reasonOf 170 = .ok (.bipush 6, 2) := by decide +kernel
theorem dX9_reasonOf_172 : decode cX9_reasonOf 172 = .ok (.ireturn, 1) := by decide +kernel
theorem dX9_shownDigest_0 : decode cX9_shownDigest 0 = .ok (.aload_n 0, 1) := by decide +kernel
theorem dX9_shownDigest_1 : decode cX9_shownDigest 1 = .ok (.getfield 243, 3) := by decide +kernel
theorem dX9_shownDigest_4 : decode cX9_shownDigest 4 = .ok (.iconst 1, 1) := by decide +kernel
theorem dX9_shownDigest_5 : decode cX9_shownDigest 5 = .ok (.isub, 1) := by decide +kernel
theorem dX9_shownDigest_6 : decode cX9_shownDigest 6 = .ok (.istore_n 1, 1) := by decide +kernel
theorem dX9_shownDigest_7 : decode cX9_shownDigest 7 = .ok (.iload_n 1, 1) := by decide +kernel
theorem dX9_shownDigest_8 : decode cX9_shownDigest 8 = .ok (.ifCond .lt 96, 3) := by decide +kernel
theorem dX9_shownDigest_11 : decode cX9_shownDigest 11 = .ok (.aload_n 0, 1) := by decide +kernel
theorem dX9_shownDigest_12 : decode cX9_shownDigest 12 = .ok (.getfield 83, 3) := by decide +kernel
theorem dX9_shownDigest_15 : decode cX9_shownDigest 15 = .ok (.iload_n 1, 1) := by decide +kernel
theorem dX9_shownDigest_16 : decode cX9_shownDigest 16 = .ok (.iaload, 1) := by decide +kernel
theorem dX9_shownDigest_17 : decode cX9_shownDigest 17 = .ok (.bipush (-9), 2) := by decide +kernel
theorem dX9_shownDigest_19 : decode cX9_shownDigest 19 = .ok (.if_icmp .ne 12, 3) := by decide +kernel
theorem dX9_shownDigest_22 : decode cX9_shownDigest 22 = .ok (.aload_n 0, 1) := by decide +kernel
theorem dX9_shownDigest_23 : decode cX9_shownDigest 23 = .ok (.getfield 89, 3) := by decide +kernel
theorem dX9_shownDigest_26 : decode cX9_shownDigest 26 = .ok (.iload_n 1, 1) := by decide +kernel
theorem dX9_shownDigest_27 : decode cX9_shownDigest 27 = .ok (.iaload, 1) := by decide +kernel
theorem dX9_shownDigest_28 : decode cX9_shownDigest 28 = .ok (.goto 14, 3) := by decide +kernel
theorem dX9_shownDigest_31 : decode cX9_shownDigest 31 = .ok (.aload_n 0, 1) := by decide +kernel
theorem dX9_shownDigest_32 : decode cX9_shownDigest 32 = .ok (.getfield 95, 3) := by decide +kernel
theorem dX9_shownDigest_35 : decode cX9_shownDigest 35 = .ok (.aload_n 0, 1) := by decide +kernel
theorem dX9_shownDigest_36 : decode cX9_shownDigest 36 = .ok (.getfield 83, 3) := by decide +kernel
theorem dX9_shownDigest_39 : decode cX9_shownDigest 39 = .ok (.iload_n 1, 1) := by decide +kernel
theorem dX9_shownDigest_40 : decode cX9_shownDigest 40 = .ok (.iaload, 1) := by decide +kernel
theorem dX9_shownDigest_41 : decode cX9_shownDigest 41 = .ok (.iaload, 1) := by decide +kernel
theorem dX9_shownDigest_42 : decode cX9_shownDigest 42 = .ok (.istore_n 2, 1) := by decide +kernel
theorem dX9_shownDigest_43 : decode cX9_shownDigest 43 = .ok (.aload_n 0, 1) := by decide +kernel
theorem dX9_shownDigest_44 : decode cX9_shownDigest 44 = .ok (.getfield 86, 3) := by decide +kernel
theorem dX9_shownDigest_47 : decode cX9_shownDigest 47 = .ok (.iload_n 1, 1) := by decide +kernel
theorem dX9_shownDigest_48 : decode cX9_shownDigest 48 = .ok (.iaload, 1) := by decide +kernel
theorem dX9_shownDigest_49 : decode cX9_shownDigest 49 = .ok (.bipush (-9), 2) := by decide +kernel
theorem dX9_shownDigest_51 : decode cX9_shownDigest 51 = .ok (.if_icmp .ne 12, 3) := by decide +kernel
theorem dX9_shownDigest_54 : decode cX9_shownDigest 54 = .ok (.aload_n 0, 1) := by decide +kernel
theorem dX9_shownDigest_55 : decode cX9_shownDigest 55 = .ok (.getfield 92, 3) := by decide +kernel
theorem dX9_shownDigest_58 : decode cX9_shownDigest 58 = .ok (.iload_n 1, 1) := by decide +kernel
theorem dX9_shownDigest_59 : decode cX9_shownDigest 59 = .ok (.iaload, 1) := by decide +kernel
theorem dX9_shownDigest_60 : decode cX9_shownDigest 60 = .ok (.goto 14, 3) := by decide +kernel
theorem dX9_shownDigest_63 : decode cX9_shownDigest 63 = .ok (.aload_n 0, 1) := by decide +kernel
theorem dX9_shownDigest_64 : decode cX9_shownDigest 64 = .ok (.getfield 95, 3) := by decide +kernel
theorem dX9_shownDigest_67 : decode cX9_shownDigest 67 = .ok (.aload_n 0, 1) := by decide +kernel
theorem dX9_shownDigest_68 : decode cX9_shownDigest 68 = .ok (.getfield 86, 3) := by decide +kernel
theorem dX9_shownDigest_71 : decode cX9_shownDigest 71 = .ok (.iload_n 1, 1) := by decide +kernel
theorem dX9_shownDigest_72 : decode cX9_shownDigest 72 = .ok (.iaload, 1) := by decide +kernel
theorem dX9_shownDigest_73 : decode cX9_shownDigest 73 = .ok (.iaload, 1) := by decide +kernel
theorem dX9_shownDigest_74 : decode cX9_shownDigest 74 = .ok (.istore_n 3, 1) := by decide +kernel
theorem dX9_shownDigest_75 : decode cX9_shownDigest 75 = .ok (.aload_n 0, 1) := by decide +kernel
theorem dX9_shownDigest_76 : decode cX9_shownDigest 76 = .ok (.getfield 95, 3) := by decide +kernel
theorem dX9_shownDigest_79 : decode cX9_shownDigest 79 = .ok (.iload_n 1, 1) := by decide +kernel
theorem dX9_shownDigest_80 : decode cX9_shownDigest 80 = .ok (.aload_n 0, 1) := by decide +kernel
theorem dX9_shownDigest_81 : decode cX9_shownDigest 81 = .ok (.getfield 77, 3) := by decide +kernel
theorem dX9_shownDigest_84 : decode cX9_shownDigest 84 = .ok (.iload_n 1, 1) := by decide +kernel
theorem dX9_shownDigest_85 : decode cX9_shownDigest 85 = .ok (.iaload, 1) := by decide +kernel
theorem dX9_shownDigest_86 : decode cX9_shownDigest 86 = .ok (.aload_n 0, 1) := by decide +kernel
theorem dX9_shownDigest_87 : decode cX9_shownDigest 87 = .ok (.getfield 80, 3) := by decide +kernel
theorem dX9_shownDigest_90 : decode cX9_shownDigest 90 = .ok (.iload_n 1, 1) := by decide +kernel
theorem dX9_shownDigest_91 : decode cX9_shownDigest 91 = .ok (.iaload, 1) := by decide +kernel
theorem dX9_shownDigest_92 : decode cX9_shownDigest 92 = .ok (.iload_n 2, 1) := by decide +kernel
theorem dX9_shownDigest_93 : decode cX9_shownDigest 93 = .ok (.iload_n 3, 1) := by decide +kernel
theorem dX9_shownDigest_94 : decode cX9_shownDigest 94 = .ok (.invokestatic 161, 3) := by decide +kernel
theorem dX9_shownDigest_97 : decode cX9_shownDigest 97 = .ok (.iastore, 1) := by decide +kernel
theorem dX9_shownDigest_98 : decode cX9_shownDigest 98 = .ok (.iinc 1 (-1), 3) := by decide +kernel
theorem dX9_shownDigest_101 : decode cX9_shownDigest 101 = .ok (.goto (-94), 3) := by decide +kernel
theorem dX9_shownDigest_104 : decode cX9_shownDigest 104 = .ok (.aload_n 0, 1) := by decide +kernel
theorem dX9_shownDigest_105 : decode cX9_shownDigest 105 = .ok (.getfield 243, 3) := by decide +kernel
theorem dX9_shownDigest_108 : decode cX9_shownDigest 108 = .ok (.ifCond .ne 10, 3) := by decide +kernel
theorem dX9_shownDigest_111 : decode cX9_shownDigest 111 = .ok (.aload_n 0, 1) := by decide +kernel
theorem dX9_shownDigest_112 : decode cX9_shownDigest 112 = .ok (.getfield 237, 3) := by decide +kernel
theorem dX9_shownDigest_115 : decode cX9_shownDigest 115 = .ok (.goto 9, 3) := by decide +kernel
theorem dX9_shownDigest_118 : decode cX9_shownDigest 118 = .ok (.aload_n 0, 1) := by decide +kernel
theorem dX9_shownDigest_119 : decode cX9_shownDigest 119 = .ok (.getfield 95, 3) := by decide +kernel
theorem dX9_shownDigest_122 : decode cX9_shownDigest 122 = .ok (.iconst 0, 1) := by decide +kernel
theorem dX9_shownDigest_123 : decode cX9_shownDigest 123 = .ok (.iaload, 1) := by decide +kernel
theorem dX9_shownDigest_124 : decode cX9_shownDigest 124 = .ok (.ireturn, 1) := by decide +kernel
theorem dX9_read_0 : decode cX9_read 0 = .ok (.iload_n 1, 1) := by decide +kernel
theorem dX9_read_1 : decode cX9_read 1 = .ok (.iload_n 2, 1) := by decide +kernel
theorem dX9_read_2 : decode cX9_read 2 = .ok (.invokestatic 218, 3) := by decide +kernel
theorem dX9_read_5 : decode cX9_read 5 = .ok (.ifCond .eq 12, 3) := by decide +kernel
theorem dX9_read_8 : decode cX9_read 8 = .ok (.aload_n 0, 1) := by decide +kernel
theorem dX9_read_9 : decode cX9_read 9 = .ok (.iload_n 1, 1) := by decide +kernel
theorem dX9_read_10 : decode cX9_read 10 = .ok (.iload_n 2, 1) := by decide +kernel
theorem dX9_read_11 : decode cX9_read 11 = .ok (.invokevirtual 252, 3) := by decide +kernel
theorem dX9_read_14 : decode cX9_read 14 = .ok (.goto 5, 3) := by decide +kernel
theorem dX9_read_17 : decode cX9_read 17 = .ok (.bipush (-2), 2) := by decide +kernel
theorem dX9_read_19 : decode cX9_read 19 = .ok (.ireturn, 1) := by decide +kernel
theorem dX9_learnt_0 : decode cX9_learnt 0 = .ok (.iload_n 1, 1) := by decide +kernel
theorem dX9_learnt_1 : decode cX9_learnt 1 = .ok (.iload_n 2, 1) := by decide +kernel
theorem dX9_learnt_2 : decode cX9_learnt 2 = .ok (.invokestatic 218, 3) := by decide +kernel
theorem dX9_learnt_5 : decode cX9_learnt 5 = .ok (.ifCond .eq 15, 3) := by decide +kernel
theorem dX9_learnt_8 : decode cX9_learnt 8 = .ok (.iload_n 3, 1) := by decide +kernel
theorem dX9_learnt_9 : decode cX9_learnt 9 = .ok (.i2l, 1) := by decide +kernel
theorem dX9_learnt_10 : decode cX9_learnt 10 = .ok (.lconst 0, 1) := by decide +kernel
theorem dX9_learnt_11 : decode cX9_learnt 11 = .ok (.ldc2_w 255, 3) := by decide +kernel
theorem dX9_learnt_14 : decode cX9_learnt 14 = .ok (.invokestatic 121, 3) := by decide +kernel
theorem dX9_learnt_17 : decode cX9_learnt 17 = .ok (.ifCond .ne 6, 3) := by decide +kernel
theorem dX9_learnt_20 : decode cX9_learnt 20 = .ok (.bipush (-2), 2) := by decide +kernel
theorem dX9_learnt_22 : decode cX9_learnt 22 = .ok (.ireturn, 1) := by decide +kernel
theorem dX9_learnt_23 : decode cX9_learnt 23 = .ok (.aload_n 0, 1) := by decide +kernel
theorem dX9_learnt_24 : decode cX9_learnt 24 = .ok (.iload_n 1, 1) := by decide +kernel
theorem dX9_learnt_25 : decode cX9_learnt 25 = .ok (.iload_n 2, 1) := by decide +kernel
theorem dX9_learnt_26 : decode cX9_learnt 26 = .ok (.invokevirtual 252, 3) := by decide +kernel
theorem dX9_learnt_29 : decode cX9_learnt 29 = .ok (.ifCond .eq 6, 3) := by decide +kernel
theorem dX9_learnt_32 : decode cX9_learnt 32 = .ok (.bipush (-3), 2) := by decide +kernel
theorem dX9_learnt_34 : decode cX9_learnt 34 = .ok (.ireturn, 1) := by decide +kernel
theorem dX9_learnt_35 : decode cX9_learnt 35 = .ok (.iconst 0, 1) := by decide +kernel
theorem dX9_learnt_36 : decode cX9_learnt 36 = .ok (.istore 4, 2) := by decide +kernel
theorem dX9_learnt_38 : decode cX9_learnt 38 = .ok (.iconst 0, 1) := by decide +kernel
theorem dX9_learnt_39 : decode cX9_learnt 39 = .ok (.istore 5, 2) := by decide +kernel
theorem dX9_learnt_41 : decode cX9_learnt 41 = .ok (.bipush (-9), 2) := by decide +kernel
theorem dX9_learnt_43 : decode cX9_learnt 43 = .ok (.istore 6, 2) := by decide +kernel
theorem dX9_learnt_45 : decode cX9_learnt 45 = .ok (.bipush (-9), 2) := by decide +kernel
theorem dX9_learnt_47 : decode cX9_learnt 47 = .ok (.istore 7, 2) := by decide +kernel
theorem dX9_learnt_49 : decode cX9_learnt 49 = .ok (.iconst 0, 1) := by decide +kernel
theorem dX9_learnt_50 : decode cX9_learnt 50 = .ok (.istore 8, 2) := by decide +kernel
theorem dX9_learnt_52 : decode cX9_learnt 52 = .ok (.iload 8, 2) := by decide +kernel
theorem dX9_learnt_54 : decode cX9_learnt 54 = .ok (.aload_n 0, 1) := by decide +kernel
theorem dX9_learnt_55 : decode cX9_learnt 55 = .ok (.getfield 243, 3) := by decide +kernel
theorem dX9_learnt_58 : decode cX9_learnt 58 = .ok (.if_icmp .ge 121, 3) := by decide +kernel
theorem dX9_learnt_61 : decode cX9_learnt 61 = .ok (.aload_n 0, 1) := by decide +kernel
theorem dX9_learnt_62 : decode cX9_learnt 62 = .ok (.getfield 77, 3) := by decide +kernel
theorem dX9_learnt_65 : decode cX9_learnt 65 = .ok (.iload 8, 2) := by decide +kernel
theorem dX9_learnt_67 : decode cX9_learnt 67 = .ok (.iaload, 1) := by decide +kernel
theorem dX9_learnt_68 : decode cX9_learnt 68 = .ok (.istore 9, 2) := by decide +kernel
theorem dX9_learnt_70 : decode cX9_learnt 70 = .ok (.iload 4, 2) := by decide +kernel
theorem dX9_learnt_72 : decode cX9_learnt 72 = .ok (.iload 9, 2) := by decide +kernel
theorem dX9_learnt_74 : decode cX9_learnt 74 = .ok (.i2l, 1) := by decide +kernel
theorem dX9_learnt_75 : decode cX9_learnt 75 = .ok (.iload_n 1, 1) := by decide +kernel
theorem dX9_learnt_76 : decode cX9_learnt 76 = .ok (.i2l, 1) := by decide +kernel
theorem dX9_learnt_77 : decode cX9_learnt 77 = .ok (.iload_n 2, 1) := by decide +kernel
theorem dX9_learnt_78 : decode cX9_learnt 78 = .ok (.i2l, 1) := by decide +kernel
theorem dX9_learnt_79 : decode cX9_learnt 79 = .ok (.invokestatic 121, 3) := by decide +kernel
theorem dX9_learnt_82 : decode cX9_learnt 82 = .ok (.ifCond .eq 7, 3) := by decide +kernel
theorem dX9_learnt_85 : decode cX9_learnt 85 = .ok (.iconst 1, 1) := by decide +kernel
theorem dX9_learnt_86 : decode cX9_learnt 86 = .ok (.goto 4, 3) := by decide +kernel
theorem dX9_learnt_89 : decode cX9_learnt 89 = .ok (.iconst 0, 1) := by decide +kernel
theorem dX9_learnt_90 : decode cX9_learnt 90 = .ok (.iadd, 1) := by decide +kernel
theorem dX9_learnt_91 : decode cX9_learnt 91 = .ok (.istore 4, 2) := by decide +kernel
theorem dX9_learnt_93 : decode cX9_learnt 93 = .ok (.iload 5, 2) := by decide +kernel
theorem dX9_learnt_95 : decode cX9_learnt 95 = .ok (.iload 9, 2) := by decide +kernel
theorem dX9_learnt_97 : decode cX9_learnt 97 = .ok (.i2l, 1) := by decide +kernel
theorem dX9_learnt_98 : decode cX9_learnt 98 = .ok (.iload_n 1, 1) := by decide +kernel
theorem dX9_learnt_99 : decode cX9_learnt 99 = .ok (.i2l, 1) := by decide +kernel
theorem dX9_learnt_100 : decode cX9_learnt 100 = .ok (.iload_n 2, 1) := by decide +kernel
theorem dX9_learnt_101 : decode cX9_learnt 101 = .ok (.i2l, 1) := by decide +kernel
theorem dX9_learnt_102 : decode cX9_learnt 102 = .ok (.invokestatic 121, 3) := by decide +kernel
theorem dX9_learnt_105 : decode cX9_learnt 105 = .ok (.ifCond .eq 13, 3) := by decide +kernel
theorem dX9_learnt_108 : decode cX9_learnt 108 = .ok (.aload_n 0, 1) := by decide +kernel
theorem dX9_learnt_109 : decode cX9_learnt 109 = .ok (.getfield 80, 3) := by decide +kernel
theorem dX9_learnt_112 : decode cX9_learnt 112 = .ok (.iload 8, 2) := by decide +kernel
theorem dX9_learnt_114 : decode cX9_learnt 114 = .ok (.iaload, 1) := by decide +kernel
theorem dX9_learnt_115 : decode cX9_learnt 115 = .ok (.goto 4, 3) := by decide +kernel
theorem dX9_learnt_118 : decode cX9_learnt 118 = .ok (.iconst 0, 1) := by decide +kernel
theorem dX9_learnt_119 : decode cX9_learnt 119 = .ok (.iadd, 1) := by decide +kernel
theorem dX9_learnt_120 : decode cX9_learnt 120 = .ok (.istore 5, 2) := by decide +kernel
theorem dX9_learnt_122 : decode cX9_learnt 122 = .ok (.iload 9, 2) := by decide +kernel
theorem dX9_learnt_124 : decode cX9_learnt 124 = .ok (.iload_n 1, 1) := by decide +kernel
theorem dX9_learnt_125 : decode cX9_learnt 125 = .ok (.if_icmp .ge 15, 3) := by decide +kernel
theorem dX9_learnt_128 : decode cX9_learnt 128 = .ok (.iload 9, 2) := by decide +kernel
theorem dX9_learnt_130 : decode cX9_learnt 130 = .ok (.iload 6, 2) := by decide +kernel
theorem dX9_learnt_132 : decode cX9_learnt 132 = .ok (.if_icmp .le 8, 3) := by decide +kernel
theorem dX9_learnt_135 : decode cX9_learnt 135 = .ok (.iload 9, 2) := by decide +kernel
theorem dX9_learnt_137 : decode cX9_learnt 137 = .ok (.goto 5, 3) := by decide +kernel
theorem dX9_learnt_140 : decode cX9_learnt 140 = .ok (.iload 6, 2) := by decide +kernel
theorem dX9_learnt_142 : decode cX9_learnt 142 = .ok (.istore 6, 2) := by decide +kernel
theorem dX9_learnt_144 : decode cX9_learnt 144 = .ok (.iload 9, 2) := by decide +kernel
theorem dX9_learnt_146 : decode cX9_learnt 146 = .ok (.iload_n 2, 1) := by decide +kernel
theorem dX9_learnt_147 : decode cX9_learnt 147 = .ok (.if_icmp .le 22, 3) := by decide +kernel
theorem dX9_learnt_150 : decode cX9_learnt 150 = .ok (.iload 7, 2) := by decide +kernel
theorem dX9_learnt_152 : decode cX9_learnt 152 = .ok (.bipush (-9), 2) := by decide +kernel
theorem dX9_learnt_154 : decode cX9_learnt 154 = .ok (.if_icmp .eq 10, 3) := by decide +kernel
theorem dX9_learnt_157 : decode cX9_learnt 157 = .ok (.iload 9, 2) := by decide +kernel
theorem dX9_learnt_159 : decode cX9_learnt 159 = .ok (.iload 7, 2) := by decide +kernel
theorem dX9_learnt_161 : decode cX9_learnt 161 = .ok (.if_icmp .ge 8, 3) := by decide +kernel
theorem dX9_learnt_164 : decode cX9_learnt 164 = .ok (.iload 9, 2) := by decide +kernel
theorem dX9_learnt_166 : decode cX9_learnt 166 = .ok (.goto 5, 3) := by decide +kernel
theorem dX9_learnt_169 : decode cX9_learnt 169 = .ok (.iload 7, 2) := by decide +kernel
theorem dX9_learnt_171 : decode cX9_learnt 171 = .ok (.istore 7, 2) := by decide +kernel
theorem dX9_learnt_173 : decode cX9_learnt 173 = .ok (.iinc 8 1, 3) := by decide +kernel
theorem dX9_learnt_176 : decode cX9_learnt 176 = .ok (.goto (-124), 3) := by decide +kernel
theorem dX9_learnt_179 : decode cX9_learnt 179 = .ok (.iload_n 3, 1) := by decide +kernel
theorem dX9_learnt_180 : decode cX9_learnt 180 = .ok (.tableswitch 44 0 3 #[32, 35, 38, 41], 32) := by decide +kernel
theorem dX9_learnt_212 : decode cX9_learnt 212 = .ok (.iload 4, 2) := by decide +kernel
theorem dX9_learnt_214 : decode cX9_learnt 214 = .ok (.ireturn, 1) := by decide +kernel
theorem dX9_learnt_215 : decode cX9_learnt 215 = .ok (.iload 5, 2) := by decide +kernel
theorem dX9_learnt_217 : decode cX9_learnt 217 = .ok (.ireturn, 1) := by decide +kernel
theorem dX9_learnt_218 : decode cX9_learnt 218 = .ok (.iload 6, 2) := by decide +kernel
theorem dX9_learnt_220 : decode cX9_learnt 220 = .ok (.ireturn, 1) := by decide +kernel
theorem dX9_learnt_221 : decode cX9_learnt 221 = .ok (.iload 7, 2) := by decide +kernel
theorem dX9_learnt_223 : decode cX9_learnt 223 = .ok (.ireturn, 1) := by decide +kernel
theorem dX9_learnt_224 : decode cX9_learnt 224 = .ok (.aload_n 0, 1) := by decide +kernel
theorem dX9_learnt_225 : decode cX9_learnt 225 = .ok (.getfield 243, 3) := by decide +kernel
theorem dX9_learnt_228 : decode cX9_learnt 228 = .ok (.ireturn, 1) := by decide +kernel
theorem dX9_found_0 : decode cX9_found 0 = .ok (.iload_n 1, 1) := by decide +kernel
theorem dX9_found_1 : decode cX9_found 1 = .ok (.iload_n 2, 1) := by decide +kernel
theorem dX9_found_2 : decode cX9_found 2 = .ok (.invokestatic 218, 3) := by decide +kernel
theorem dX9_found_5 : decode cX9_found 5 = .ok (.ifCond .ne 6, 3) := by decide +kernel
theorem dX9_found_8 : decode cX9_found 8 = .ok (.bipush (-2), 2) := by decide +kernel
theorem dX9_found_10 : decode cX9_found 10 = .ok (.ireturn, 1) := by decide +kernel
theorem dX9_found_11 : decode cX9_found 11 = .ok (.aload_n 0, 1) := by decide +kernel
theorem dX9_found_12 : decode cX9_found 12 = .ok (.iload_n 1, 1) := by decide +kernel
theorem dX9_found_13 : decode cX9_found 13 = .ok (.iload_n 2, 1) := by decide +kernel
theorem dX9_found_14 : decode cX9_found 14 = .ok (.invokevirtual 252, 3) := by decide +kernel
theorem dX9_found_17 : decode cX9_found 17 = .ok (.ifCond .eq 6, 3) := by decide +kernel
theorem dX9_found_20 : decode cX9_found 20 = .ok (.bipush (-3), 2) := by decide +kernel
theorem dX9_found_22 : decode cX9_found 22 = .ok (.ireturn, 1) := by decide +kernel
theorem dX9_found_23 : decode cX9_found 23 = .ok (.aload_n 0, 1) := by decide +kernel
theorem dX9_found_24 : decode cX9_found 24 = .ok (.invokevirtual 257, 3) := by decide +kernel
theorem dX9_found_27 : decode cX9_found 27 = .ok (.iconst 0, 1) := by decide +kernel
theorem dX9_found_28 : decode cX9_found 28 = .ok (.istore 4, 2) := by decide +kernel
theorem dX9_found_30 : decode cX9_found 30 = .ok (.iconst 0, 1) := by decide +kernel
theorem dX9_found_31 : decode cX9_found 31 = .ok (.istore 5, 2) := by decide +kernel
theorem dX9_found_33 : decode cX9_found 33 = .ok (.iload 5, 2) := by decide +kernel
theorem dX9_found_35 : decode cX9_found 35 = .ok (.aload_n 0, 1) := by decide +kernel
theorem dX9_found_36 : decode cX9_found 36 = .ok (.getfield 260, 3) := by decide +kernel
theorem dX9_found_39 : decode cX9_found 39 = .ok (.if_icmp .ge 55, 3) := by decide +kernel
theorem dX9_found_42 : decode cX9_found 42 = .ok (.aload_n 0, 1) := by decide +kernel
theorem dX9_found_43 : decode cX9_found 43 = .ok (.getfield 98, 3) := by decide +kernel
theorem dX9_found_46 : decode cX9_found 46 = .ok (.iload 5, 2) := by decide +kernel
theorem dX9_found_48 : decode cX9_found 48 = .ok (.iaload, 1) := by decide +kernel
theorem dX9_found_49 : decode cX9_found 49 = .ok (.i2l, 1) := by decide +kernel
theorem dX9_found_50 : decode cX9_found 50 = .ok (.iload_n 1, 1) := by decide +kernel
theorem dX9_found_51 : decode cX9_found 51 = .ok (.i2l, 1) := by decide +kernel
theorem dX9_found_52 : decode cX9_found 52 = .ok (.iload_n 2, 1) := by decide +kernel
theorem dX9_found_53 : decode cX9_found 53 = .ok (.i2l, 1) := by decide +kernel
theorem dX9_found_54 : decode cX9_found 54 = .ok (.invokestatic 121, 3) := by decide +kernel
theorem dX9_found_57 : decode cX9_found 57 = .ok (.ifCond .eq 31, 3) := by decide +kernel
theorem dX9_found_60 : decode cX9_found 60 = .ok (.iload 4, 2) := by decide +kernel
theorem dX9_found_62 : decode cX9_found 62 = .ok (.iload_n 3, 1) := by decide +kernel
theorem dX9_found_63 : decode cX9_found 63 = .ok (.if_icmp .ne 22, 3) := by decide +kernel
theorem dX9_found_66 : decode cX9_found 66 = .ok (.bipush 100, 2) := by decide +kernel
theorem dX9_found_68 : decode cX9_found 68 = .ok (.aload_n 0, 1) := by decide +kernel
theorem dX9_found_69 : decode cX9_found 69 = .ok (.getfield 98, 3) := by decide +kernel
theorem dX9_found_72 : decode cX9_found 72 = .ok (.iload 5, 2) := by decide +kernel
theorem dX9_found_74 : decode cX9_found 74 = .ok (.iaload, 1) := by decide +kernel
theorem dX9_found_75 : decode cX9_found 75 = .ok (.imul, 1) := by decide +kernel
theorem dX9_found_76 : decode cX9_found 76 = .ok (.aload_n 0, 1) := by decide +kernel
theorem dX9_found_77 : decode cX9_found 77 = .ok (.getfield 101, 3) := by decide +kernel
theorem dX9_found_80 : decode cX9_found 80 = .ok (.iload 5, 2) := by decide +kernel
theorem dX9_found_82 : decode cX9_found 82 = .ok (.iaload, 1) := by decide +kernel
theorem dX9_found_83 : decode cX9_found 83 = .ok (.iadd, 1) := by decide +kernel
theorem dX9_found_84 : decode cX9_found 84 = .ok (.ireturn, 1) := by decide +kernel
theorem dX9_found_85 : decode cX9_found 85 = .ok (.iinc 4 1, 3) := by decide +kernel
theorem dX9_found_88 : decode cX9_found 88 = .ok (.iinc 5 1, 3) := by decide +kernel
theorem dX9_found_91 : decode cX9_found 91 = .ok (.goto (-58), 3) := by decide +kernel
theorem dX9_found_94 : decode cX9_found 94 = .ok (.bipush (-9), 2) := by decide +kernel
theorem dX9_found_96 : decode cX9_found 96 = .ok (.ireturn, 1) := by decide +kernel
theorem dX9_layRow_0 : decode cX9_layRow 0 = .ok (.aload_n 0, 1) := by decide +kernel
theorem dX9_layRow_1 : decode cX9_layRow 1 = .ok (.iconst 0, 1) := by decide +kernel
theorem dX9_layRow_2 : decode cX9_layRow 2 = .ok (.putfield 260, 3) := by decide +kernel
theorem dX9_layRow_5 : decode cX9_layRow 5 = .ok (.aload_n 0, 1) := by decide +kernel
theorem dX9_layRow_6 : decode cX9_layRow 6 = .ok (.getfield 104, 3) := by decide +kernel
theorem dX9_layRow_9 : decode cX9_layRow 9 = .ok (.iconst 0, 1) := by decide +kernel
theorem dX9_layRow_10 : decode cX9_layRow 10 = .ok (.aload_n 0, 1) := by decide +kernel
theorem dX9_layRow_11 : decode cX9_layRow 11 = .ok (.getfield 237, 3) := by decide +kernel
theorem dX9_layRow_14 : decode cX9_layRow 14 = .ok (.iastore, 1) := by decide +kernel
theorem dX9_layRow_15 : decode cX9_layRow 15 = .ok (.iconst 0, 1) := by decide +kernel
theorem dX9_layRow_16 : decode cX9_layRow 16 = .ok (.istore_n 1, 1) := by decide +kernel
theorem dX9_layRow_17 : decode cX9_layRow 17 = .ok (.iload_n 1, 1) := by decide +kernel
theorem dX9_layRow_18 : decode cX9_layRow 18 = .ok (.bipush 100, 2) := by decide +kernel
theorem dX9_layRow_20 : decode cX9_layRow 20 = .ok (.if_icmp .ge 70, 3) := by decide +kernel
theorem dX9_layRow_23 : decode cX9_layRow 23 = .ok (.iconst 0, 1) := by decide +kernel
theorem dX9_layRow_24 : decode cX9_layRow 24 = .ok (.istore_n 2, 1) := by decide +kernel
theorem dX9_layRow_25 : decode cX9_layRow 25 = .ok (.iload_n 2, 1) := by decide +kernel
theorem dX9_layRow_26 : decode cX9_layRow 26 = .ok (.aload_n 0, 1) := by decide +kernel
theorem dX9_layRow_27 : decode cX9_layRow 27 = .ok (.getfield 243, 3) := by decide +kernel
theorem dX9_layRow_30 : decode cX9_layRow 30 = .ok (.if_icmp .ge 54, 3) := by decide +kernel
theorem dX9_layRow_33 : decode cX9_layRow 33 = .ok (.aload_n 0, 1) := by decide +kernel
theorem dX9_layRow_34 : decode cX9_layRow 34 = .ok (.getfield 77, 3) := by decide +kernel
theorem dX9_layRow_37 : decode cX9_layRow 37 = .ok (.iload_n 2, 1) := by decide +kernel
theorem dX9_layRow_38 : decode cX9_layRow 38 = .ok (.iaload, 1) := by decide +kernel
theorem dX9_layRow_39 : decode cX9_layRow 39 = .ok (.iload_n 1, 1) := by decide +kernel
theorem dX9_layRow_40 : decode cX9_layRow 40 = .ok (.if_icmp .ne 38, 3) := by decide +kernel
theorem dX9_layRow_43 : decode cX9_layRow 43 = .ok (.aload_n 0, 1) := by decide +kernel
theorem dX9_layRow_44 : decode cX9_layRow 44 = .ok (.getfield 98, 3) := by decide +kernel
theorem dX9_layRow_47 : decode cX9_layRow 47 = .ok (.aload_n 0, 1) := by decide +kernel
theorem dX9_layRow_48 : decode cX9_layRow 48 = .ok (.getfield 260, 3) := by decide +kernel
theorem dX9_layRow_51 : decode cX9_layRow 51 = .ok (.iload_n 1, 1) := by decide +kernel
theorem dX9_layRow_52 : decode cX9_layRow 52 = .ok (.iastore, 1) := by decide +kernel
theorem dX9_layRow_53 : decode cX9_layRow 53 = .ok (.aload_n 0, 1) := by decide +kernel
theorem dX9_layRow_54 : decode cX9_layRow 54 = .ok (.getfield 101, 3) := by decide +kernel
theorem dX9_layRow_57 : decode cX9_layRow 57 = .ok (.aload_n 0, 1) := by decide +kernel
theorem dX9_layRow_58 : decode cX9_layRow 58 = .ok (.getfield 260, 3) := by decide +kernel
theorem dX9_layRow_61 : decode cX9_layRow 61 = .ok (.aload_n 0, 1) := by decide +kernel
theorem dX9_layRow_62 : decode cX9_layRow 62 = .ok (.getfield 80, 3) := by decide +kernel
theorem dX9_layRow_65 : decode cX9_layRow 65 = .ok (.iload_n 2, 1) := by decide +kernel
theorem dX9_layRow_66 : decode cX9_layRow 66 = .ok (.iaload, 1) := by decide +kernel
theorem dX9_layRow_67 : decode cX9_layRow 67 = .ok (.iastore, 1) := by decide +kernel
theorem dX9_layRow_68 : decode cX9_layRow 68 = .ok (.aload_n 0, 1) := by decide +kernel
theorem dX9_layRow_69 : decode cX9_layRow 69 = .ok (.dup, 1) := by decide +kernel
theorem dX9_layRow_70 : decode cX9_layRow 70 = .ok (.getfield 260, 3) := by decide +kernel
theorem dX9_layRow_73 : decode cX9_layRow 73 = .ok (.iconst 1, 1) := by decide +kernel
theorem dX9_layRow_74 : decode cX9_layRow 74 = .ok (.iadd, 1) := by decide +kernel
theorem dX9_layRow_75 : decode cX9_layRow 75 = .ok (.putfield 260, 3) := by decide +kernel
theorem dX9_layRow_78 : decode cX9_layRow 78 = .ok (.iinc 2 1, 3) := by decide +kernel
theorem dX9_layRow_81 : decode cX9_layRow 81 = .ok (.goto (-56), 3) := by decide +kernel
theorem dX9_layRow_84 : decode cX9_layRow 84 = .ok (.iinc 1 1, 3) := by decide +kernel
theorem dX9_layRow_87 : decode cX9_layRow 87 = .ok (.goto (-70), 3) := by decide +kernel
theorem dX9_layRow_90 : decode cX9_layRow 90 = .ok (.iconst 0, 1) := by decide +kernel
theorem dX9_layRow_91 : decode cX9_layRow 91 = .ok (.istore_n 1, 1) := by decide +kernel
theorem dX9_layRow_92 : decode cX9_layRow 92 = .ok (.iload_n 1, 1) := by decide +kernel
theorem dX9_layRow_93 : decode cX9_layRow 93 = .ok (.aload_n 0, 1) := by decide +kernel
theorem dX9_layRow_94 : decode cX9_layRow 94 = .ok (.getfield 243, 3) := by decide +kernel
theorem dX9_layRow_97 : decode cX9_layRow 97 = .ok (.if_icmp .ge 68, 3) := by decide +kernel
theorem dX9_layRow_100 : decode cX9_layRow 100 = .ok (.aload_n 0, 1) := by decide +kernel
theorem dX9_layRow_101 : decode cX9_layRow 101 = .ok (.aload_n 0, 1) := by decide +kernel
theorem dX9_layRow_102 : decode cX9_layRow 102 = .ok (.getfield 77, 3) := by decide +kernel
theorem dX9_layRow_105 : decode cX9_layRow 105 = .ok (.iload_n 1, 1) := by decide +kernel
theorem dX9_layRow_106 : decode cX9_layRow 106 = .ok (.iaload, 1) := by decide +kernel
theorem dX9_layRow_107 : decode cX9_layRow 107 = .ok (.invokevirtual 263, 3) := by decide +kernel
theorem dX9_layRow_110 : decode cX9_layRow 110 = .ok (.istore_n 2, 1) := by decide +kernel
theorem dX9_layRow_111 : decode cX9_layRow 111 = .ok (.aload_n 0, 1) := by decide +kernel
theorem dX9_layRow_112 : decode cX9_layRow 112 = .ok (.getfield 83, 3) := by decide +kernel
theorem dX9_layRow_115 : decode cX9_layRow 115 = .ok (.iload_n 1, 1) := by decide +kernel
theorem dX9_layRow_116 : decode cX9_layRow 116 = .ok (.iaload, 1) := by decide +kernel
theorem dX9_layRow_117 : decode cX9_layRow 117 = .ok (.bipush (-9), 2) := by decide +kernel
theorem dX9_layRow_119 : decode cX9_layRow 119 = .ok (.if_icmp .ne 15, 3) := by decide +kernel
theorem dX9_layRow_122 : decode cX9_layRow 122 = .ok (.aload_n 0, 1) := by decide +kernel
theorem dX9_layRow_123 : decode cX9_layRow 123 = .ok (.getfield 104, 3) := by decide +kernel
theorem dX9_layRow_126 : decode cX9_layRow 126 = .ok (.iload_n 2, 1) := by decide +kernel
theorem dX9_layRow_127 : decode cX9_layRow 127 = .ok (.aload_n 0, 1) := by decide +kernel
theorem dX9_layRow_128 : decode cX9_layRow 128 = .ok (.getfield 89, 3) := by decide +kernel
theorem dX9_layRow_131 : decode cX9_layRow 131 = .ok (.iload_n 1, 1) := by decide +kernel
theorem dX9_layRow_132 : decode cX9_layRow 132 = .ok (.iaload, 1) := by decide +kernel
theorem dX9_layRow_133 : decode cX9_layRow 133 = .ok (.iastore, 1) := by decide +kernel
theorem dX9_layRow_134 : decode cX9_layRow 134 = .ok (.aload_n 0, 1) := by decide +kernel
theorem dX9_layRow_135 : decode cX9_layRow 135 = .ok (.getfield 86, 3) := by decide +kernel
theorem dX9_layRow_138 : decode cX9_layRow 138 = .ok (.iload_n 1, 1) := by decide +kernel
theorem dX9_layRow_139 : decode cX9_layRow 139 = .ok (.iaload, 1) := by decide +kernel
theorem dX9_layRow_140 : decode cX9_layRow 140 = .ok (.bipush (-9), 2) := by decide +kernel
theorem dX9_layRow_142 : decode cX9_layRow 142 = .ok (.if_icmp .ne 17, 3) := by decide +kernel
theorem dX9_layRow_145 : decode cX9_layRow 145 = .ok (.aload_n 0, 1) := by decide +kernel
theorem dX9_layRow_146 : decode cX9_layRow 146 = .ok (.getfield 104, 3) := by decide +kernel
theorem dX9_layRow_149 : decode cX9_layRow 149 = .ok (.iload_n 2, 1) := by decide +kernel
theorem dX9_layRow_150 : decode cX9_layRow 150 = .ok (.iconst 1, 1) := by decide +kernel
theorem dX9_layRow_151 : decode cX9_layRow 151 = .ok (.iadd, 1) := by decide +kernel
theorem dX9_layRow_152 : decode cX9_layRow 152 = .ok (.aload_n 0, 1) := by decide +kernel
theorem dX9_layRow_153 : decode cX9_layRow 153 = .ok (.getfield 92, 3) := by decide +kernel
theorem dX9_layRow_156 : decode cX9_layRow 156 = .ok (.iload_n 1, 1) := by decide +kernel
theorem dX9_layRow_157 : decode cX9_layRow 157 = .ok (.iaload, 1) := by decide +kernel
theorem dX9_layRow_158 : decode cX9_layRow 158 = .ok (.iastore, 1) := by decide +kernel
theorem dX9_layRow_159 : decode cX9_layRow 159 = .ok (.iinc 1 1, 3) := by decide +kernel
theorem dX9_layRow_162 : decode cX9_layRow 162 = .ok (.goto (-70), 3) := by decide +kernel
theorem dX9_layRow_165 : decode cX9_layRow 165 = .ok (.return_, 1) := by decide +kernel
