theorem dX9_placeOf_0 : decode cX9_placeOf 0 = .ok (.bipush (-9), 2) := by decide +kernel
theorem dX9_placeOf_2 : decode cX9_placeOf 2 = .ok (.istore_n 2, 1) := by decide +kernel
theorem dX9_placeOf_3 : decode cX9_placeOf 3 = .ok (.iconst 0, 1) := by decide +kernel
theorem dX9_placeOf_4 : decode cX9_placeOf 4 = .ok (.istore_n 3, 1) := by decide +kernel
theorem dX9_placeOf_5 : decode cX9_placeOf 5 = .ok (.iload_n 3, 1) := by decide +kernel
theorem dX9_placeOf_6 : decode cX9_placeOf 6 = .ok (.aload_n 0, 1) := by decide +kernel
theorem dX9_placeOf_7 : decode cX9_placeOf 7 = .ok (.getfield 260, 3) := by decide +kernel
theorem dX9_placeOf_10 : decode cX9_placeOf 10 = .ok (.if_icmp .ge 25, 3) := by decide +kernel
theorem dX9_placeOf_13 : decode cX9_placeOf 13 = .ok (.aload_n 0, 1) := by decide +kernel
theorem dX9_placeOf_14 : decode cX9_placeOf 14 = .ok (.getfield 98, 3) := by decide +kernel
theorem dX9_placeOf_17 : decode cX9_placeOf 17 = .ok (.iload_n 3, 1) := by decide +kernel
theorem dX9_placeOf_18 : decode cX9_placeOf 18 = .ok (.iaload, 1) := by decide +kernel
theorem dX9_placeOf_19 : decode cX9_placeOf 19 = .ok (.iload_n 1, 1) := by decide +kernel
theorem dX9_placeOf_20 : decode cX9_placeOf 20 = .ok (.if_icmp .ne 7, 3) := by decide +kernel
theorem dX9_placeOf_23 : decode cX9_placeOf 23 = .ok (.iload_n 3, 1) := by decide +kernel
theorem dX9_placeOf_24 : decode cX9_placeOf 24 = .ok (.goto 4, 3) := by decide +kernel
theorem dX9_placeOf_27 : decode cX9_placeOf 27 = .ok (.iload_n 2, 1) := by decide +kernel
theorem dX9_placeOf_28 : decode cX9_placeOf 28 = .ok (.istore_n 2, 1) := by decide +kernel
theorem dX9_placeOf_29 : decode cX9_placeOf 29 = .ok (.iinc 3 1, 3) := by decide +kernel
theorem dX9_placeOf_32 : decode cX9_placeOf 32 = .ok (.goto (-27), 3) := by decide +kernel
theorem dX9_placeOf_35 : decode cX9_placeOf 35 = .ok (.iload_n 2, 1) := by decide +kernel
theorem dX9_placeOf_36 : decode cX9_placeOf 36 = .ok (.ireturn, 1) := by decide +kernel
theorem dX9_takeOut_0 : decode cX9_takeOut 0 = .ok (.iload_n 1, 1) := by decide +kernel
theorem dX9_takeOut_1 : decode cX9_takeOut 1 = .ok (.istore_n 2, 1) := by decide +kernel
theorem dX9_takeOut_2 : decode cX9_takeOut 2 = .ok (.iload_n 2, 1) := by decide +kernel
theorem dX9_takeOut_3 : decode cX9_takeOut 3 = .ok (.aload_n 0, 1) := by decide +kernel
theorem dX9_takeOut_4 : decode cX9_takeOut 4 = .ok (.getfield 260, 3) := by decide +kernel
theorem dX9_takeOut_7 : decode cX9_takeOut 7 = .ok (.iconst 1, 1) := by decide +kernel
theorem dX9_takeOut_8 : decode cX9_takeOut 8 = .ok (.isub, 1) := by decide +kernel
theorem dX9_takeOut_9 : decode cX9_takeOut 9 = .ok (.if_icmp .ge 37, 3) := by decide +kernel
theorem dX9_takeOut_12 : decode cX9_takeOut 12 = .ok (.aload_n 0, 1) := by decide +kernel
theorem dX9_takeOut_13 : decode cX9_takeOut 13 = .ok (.getfield 98, 3) := by decide +kernel
theorem dX9_takeOut_16 : decode cX9_takeOut 16 = .ok (.iload_n 2, 1) := by decide +kernel
theorem dX9_takeOut_17 : decode cX9_takeOut 17 = .ok (.aload_n 0, 1) := by decide +kernel
theorem dX9_takeOut_18 : decode cX9_takeOut 18 = .ok (.getfield 98, 3) := by decide +kernel
theorem dX9_takeOut_21 : decode cX9_takeOut 21 = .ok (.iload_n 2, 1) := by decide +kernel
theorem dX9_takeOut_22 : decode cX9_takeOut 22 = .ok (.iconst 1, 1) := by decide +kernel
theorem dX9_takeOut_23 : decode cX9_takeOut 23 = .ok (.iadd, 1) := by decide +kernel
theorem dX9_takeOut_24 : decode cX9_takeOut 24 = .ok (.iaload, 1) := by decide +kernel
theorem dX9_takeOut_25 : decode cX9_takeOut 25 = .ok (.iastore, 1) := by decide +kernel
theorem dX9_takeOut_26 : decode cX9_takeOut 26 = .ok (.aload_n 0, 1) := by decide +kernel
theorem dX9_takeOut_27 : decode cX9_takeOut 27 = .ok (.getfield 101, 3) := by decide +kernel
theorem dX9_takeOut_30 : decode cX9_takeOut 30 = .ok (.iload_n 2, 1) := by decide +kernel
theorem dX9_takeOut_31 : decode cX9_takeOut 31 = .ok (.aload_n 0, 1) := by decide +kernel
theorem dX9_takeOut_32 : decode cX9_takeOut 32 = .ok (.getfield 101, 3) := by decide +kernel
theorem dX9_takeOut_35 : decode cX9_takeOut 35 = .ok (.iload_n 2, 1) := by decide +kernel
theorem dX9_takeOut_36 : decode cX9_takeOut 36 = .ok (.iconst 1, 1) := by decide +kernel
theorem dX9_takeOut_37 : decode cX9_takeOut 37 = .ok (.iadd, 1) := by decide +kernel
theorem dX9_takeOut_38 : decode cX9_takeOut 38 = .ok (.iaload, 1) := by decide +kernel
theorem dX9_takeOut_39 : decode cX9_takeOut 39 = .ok (.iastore, 1) := by decide +kernel
theorem dX9_takeOut_40 : decode cX9_takeOut 40 = .ok (.iinc 2 1, 3) := by decide +kernel
theorem dX9_takeOut_43 : decode cX9_takeOut 43 = .ok (.goto (-41), 3) := by decide +kernel
theorem dX9_takeOut_46 : decode cX9_takeOut 46 = .ok (.iload_n 1, 1) := by decide +kernel
theorem dX9_takeOut_47 : decode cX9_takeOut 47 = .ok (.istore_n 2, 1) := by decide +kernel
theorem dX9_takeOut_48 : decode cX9_takeOut 48 = .ok (.iload_n 2, 1) := by decide +kernel
theorem dX9_takeOut_49 : decode cX9_takeOut 49 = .ok (.aload_n 0, 1) := by decide +kernel
theorem dX9_takeOut_50 : decode cX9_takeOut 50 = .ok (.getfield 260, 3) := by decide +kernel
theorem dX9_takeOut_53 : decode cX9_takeOut 53 = .ok (.if_icmp .ge 23, 3) := by decide +kernel
theorem dX9_takeOut_56 : decode cX9_takeOut 56 = .ok (.aload_n 0, 1) := by decide +kernel
theorem dX9_takeOut_57 : decode cX9_takeOut 57 = .ok (.getfield 104, 3) := by decide +kernel
theorem dX9_takeOut_60 : decode cX9_takeOut 60 = .ok (.iload_n 2, 1) := by decide +kernel
theorem dX9_takeOut_61 : decode cX9_takeOut 61 = .ok (.aload_n 0, 1) := by decide +kernel
theorem dX9_takeOut_62 : decode cX9_takeOut 62 = .ok (.getfield 104, 3) := by decide +kernel
theorem dX9_takeOut_65 : decode cX9_takeOut 65 = .ok (.iload_n 2, 1) := by decide +kernel
theorem dX9_takeOut_66 : decode cX9_takeOut 66 = .ok (.iconst 1, 1) := by decide +kernel
theorem dX9_takeOut_67 : decode cX9_takeOut 67 = .ok (.iadd, 1) := by decide +kernel
theorem dX9_takeOut_68 : decode cX9_takeOut 68 = .ok (.iaload, 1) := by decide +kernel
theorem dX9_takeOut_69 : decode cX9_takeOut 69 = .ok (.iastore, 1) := by decide +kernel
theorem dX9_takeOut_70 : decode cX9_takeOut 70 = .ok (.iinc 2 1, 3) := by decide +kernel
theorem dX9_takeOut_73 : decode cX9_takeOut 73 = .ok (.goto (-25), 3) := by decide +kernel
theorem dX9_takeOut_76 : decode cX9_takeOut 76 = .ok (.aload_n 0, 1) := by decide +kernel
theorem dX9_takeOut_77 : decode cX9_takeOut 77 = .ok (.dup, 1) := by decide +kernel
theorem dX9_takeOut_78 : decode cX9_takeOut 78 = .ok (.getfield 260, 3) := by decide +kernel
theorem dX9_takeOut_81 : decode cX9_takeOut 81 = .ok (.iconst 1, 1) := by decide +kernel
theorem dX9_takeOut_82 : decode cX9_takeOut 82 = .ok (.isub, 1) := by decide +kernel
theorem dX9_takeOut_83 : decode cX9_takeOut 83 = .ok (.putfield 260, 3) := by decide +kernel
theorem dX9_takeOut_86 : decode cX9_takeOut 86 = .ok (.return_, 1) := by decide +kernel
theorem dX9_putIn_0 : decode cX9_putIn 0 = .ok (.iconst 0, 1) := by decide +kernel
theorem dX9_putIn_1 : decode cX9_putIn 1 = .ok (.istore_n 3, 1) := by decide +kernel
theorem dX9_putIn_2 : decode cX9_putIn 2 = .ok (.iload_n 3, 1) := by decide +kernel
theorem dX9_putIn_3 : decode cX9_putIn 3 = .ok (.aload_n 0, 1) := by decide +kernel
theorem dX9_putIn_4 : decode cX9_putIn 4 = .ok (.getfield 260, 3) := by decide +kernel
theorem dX9_putIn_7 : decode cX9_putIn 7 = .ok (.if_icmp .ge 19, 3) := by decide +kernel
theorem dX9_putIn_10 : decode cX9_putIn 10 = .ok (.aload_n 0, 1) := by decide +kernel
theorem dX9_putIn_11 : decode cX9_putIn 11 = .ok (.getfield 98, 3) := by decide +kernel
theorem dX9_putIn_14 : decode cX9_putIn 14 = .ok (.iload_n 3, 1) := by decide +kernel
theorem dX9_putIn_15 : decode cX9_putIn 15 = .ok (.iaload, 1) := by decide +kernel
theorem dX9_putIn_16 : decode cX9_putIn 16 = .ok (.iload_n 1, 1) := by decide +kernel
theorem dX9_putIn_17 : decode cX9_putIn 17 = .ok (.if_icmp .ge 9, 3) := by decide +kernel
theorem dX9_putIn_20 : decode cX9_putIn 20 = .ok (.iinc 3 1, 3) := by decide +kernel
theorem dX9_putIn_23 : decode cX9_putIn 23 = .ok (.goto (-21), 3) := by decide +kernel
theorem dX9_putIn_26 : decode cX9_putIn 26 = .ok (.aload_n 0, 1) := by decide +kernel
theorem dX9_putIn_27 : decode cX9_putIn 27 = .ok (.getfield 260, 3) := by decide +kernel
theorem dX9_putIn_30 : decode cX9_putIn 30 = .ok (.istore 4, 2) := by decide +kernel
theorem dX9_putIn_32 : decode cX9_putIn 32 = .ok (.iload 4, 2) := by decide +kernel
theorem dX9_putIn_34 : decode cX9_putIn 34 = .ok (.iload_n 3, 1) := by decide +kernel
theorem dX9_putIn_35 : decode cX9_putIn 35 = .ok (.if_icmp .le 41, 3) := by decide +kernel
theorem dX9_putIn_38 : decode cX9_putIn 38 = .ok (.aload_n 0, 1) := by decide +kernel
theorem dX9_putIn_39 : decode cX9_putIn 39 = .ok (.getfield 98, 3) := by decide +kernel
theorem dX9_putIn_42 : decode cX9_putIn 42 = .ok (.iload 4, 2) := by decide +kernel
theorem dX9_putIn_44 : decode cX9_putIn 44 = .ok (.aload_n 0, 1) := by decide +kernel
theorem dX9_putIn_45 : decode cX9_putIn 45 = .ok (.getfield 98, 3) := by decide +kernel
theorem dX9_putIn_48 : decode cX9_putIn 48 = .ok (.iload 4, 2) := by decide +kernel
theorem dX9_putIn_50 : decode cX9_putIn 50 = .ok (.iconst 1, 1) := by decide +kernel
theorem dX9_putIn_51 : decode cX9_putIn 51 = .ok (.isub, 1) := by decide +kernel
theorem dX9_putIn_52 : decode cX9_putIn 52 = .ok (.iaload, 1) := by decide +kernel
theorem dX9_putIn_53 : decode cX9_putIn 53 = .ok (.iastore, 1) := by decide +kernel
theorem dX9_putIn_54 : decode cX9_putIn 54 = .ok (.aload_n 0, 1) := by decide +kernel
theorem dX9_putIn_55 : decode cX9_putIn 55 = .ok (.getfield 101, 3) := by decide +kernel
theorem dX9_putIn_58 : decode cX9_putIn 58 = .ok (.iload 4, 2) := by decide +kernel
theorem dX9_putIn_60 : decode cX9_putIn 60 = .ok (.aload_n 0, 1) := by decide +kernel
theorem dX9_putIn_61 : decode cX9_putIn 61 = .ok (.getfield 101, 3) := by decide +kernel
theorem dX9_putIn_64 : decode cX9_putIn 64 = .ok (.iload 4, 2) := by decide +kernel
theorem dX9_putIn_66 : decode cX9_putIn 66 = .ok (.iconst 1, 1) := by decide +kernel
theorem dX9_putIn_67 : decode cX9_putIn 67 = .ok (.isub, 1) := by decide +kernel
theorem dX9_putIn_68 : decode cX9_putIn 68 = .ok (.iaload, 1) := by decide +kernel
theorem dX9_putIn_69 : decode cX9_putIn 69 = .ok (.iastore, 1) := by decide +kernel
theorem dX9_putIn_70 : decode cX9_putIn 70 = .ok (.iinc 4 (-1), 3) := by decide +kernel
theorem dX9_putIn_73 : decode cX9_putIn 73 = .ok (.goto (-41), 3) := by decide +kernel
theorem dX9_putIn_76 : decode cX9_putIn 76 = .ok (.aload_n 0, 1) := by decide +kernel
theorem dX9_putIn_77 : decode cX9_putIn 77 = .ok (.getfield 260, 3) := by decide +kernel
theorem dX9_putIn_80 : decode cX9_putIn 80 = .ok (.iconst 1, 1) := by decide +kernel
theorem dX9_putIn_81 : decode cX9_putIn 81 = .ok (.iadd, 1) := by decide +kernel
theorem dX9_putIn_82 : decode cX9_putIn 82 = .ok (.istore 4, 2) := by decide +kernel
theorem dX9_putIn_84 : decode cX9_putIn 84 = .ok (.iload 4, 2) := by decide +kernel
theorem dX9_putIn_86 : decode cX9_putIn 86 = .ok (.iload_n 3, 1) := by decide +kernel
theorem dX9_putIn_87 : decode cX9_putIn 87 = .ok (.if_icmp .le 25, 3) := by decide +kernel
theorem dX9_putIn_90 : decode cX9_putIn 90 = .ok (.aload_n 0, 1) := by decide +kernel
theorem dX9_putIn_91 : decode cX9_putIn 91 = .ok (.getfield 104, 3) := by decide +kernel
theorem dX9_putIn_94 : decode cX9_putIn 94 = .ok (.iload 4, 2) := by decide +kernel
theorem dX9_putIn_96 : decode cX9_putIn 96 = .ok (.aload_n 0, 1) := by decide +kernel
theorem dX9_putIn_97 : decode cX9_putIn 97 = .ok (.getfield 104, 3) := by decide +kernel
theorem dX9_putIn_100 : decode cX9_putIn 100 = .ok (.iload 4, 2) := by decide +kernel
theorem dX9_putIn_102 : decode cX9_putIn 102 = .ok (.iconst 1, 1) := by decide +kernel
theorem dX9_putIn_103 : decode cX9_putIn 103 = .ok (.isub, 1) := by decide +kernel
theorem dX9_putIn_104 : decode cX9_putIn 104 = .ok (.iaload, 1) := by decide +kernel
theorem dX9_putIn_105 : decode cX9_putIn 105 = .ok (.iastore, 1) := by decide +kernel
theorem dX9_putIn_106 : decode cX9_putIn 106 = .ok (.iinc 4 (-1), 3) := by decide +kernel
theorem dX9_putIn_109 : decode cX9_putIn 109 = .ok (.goto (-25), 3) := by decide +kernel
theorem dX9_putIn_112 : decode cX9_putIn 112 = .ok (.aload_n 0, 1) := by decide +kernel
theorem dX9_putIn_113 : decode cX9_putIn 113 = .ok (.getfield 104, 3) := by decide +kernel
theorem dX9_putIn_116 : decode cX9_putIn 116 = .ok (.iload_n 3, 1) := by decide +kernel
theorem dX9_putIn_117 : decode cX9_putIn 117 = .ok (.iconst 0, 1) := by decide +kernel
theorem dX9_putIn_118 : decode cX9_putIn 118 = .ok (.iastore, 1) := by decide +kernel
theorem dX9_putIn_119 : decode cX9_putIn 119 = .ok (.aload_n 0, 1) := by decide +kernel
theorem dX9_putIn_120 : decode cX9_putIn 120 = .ok (.getfield 98, 3) := by decide +kernel
theorem dX9_putIn_123 : decode cX9_putIn 123 = .ok (.iload_n 3, 1) := by decide +kernel
theorem dX9_putIn_124 : decode cX9_putIn 124 = .ok (.iload_n 1, 1) := by decide +kernel
theorem dX9_putIn_125 : decode cX9_putIn 125 = .ok (.iastore, 1) := by decide +kernel
theorem dX9_putIn_126 : decode cX9_putIn 126 = .ok (.aload_n 0, 1) := by decide +kernel
theorem dX9_putIn_127 : decode cX9_putIn 127 = .ok (.getfield 101, 3) := by decide +kernel
theorem dX9_putIn_130 : decode cX9_putIn 130 = .ok (.iload_n 3, 1) := by decide +kernel
theorem dX9_putIn_131 : decode cX9_putIn 131 = .ok (.iload_n 2, 1) := by decide +kernel
theorem dX9_putIn_132 : decode cX9_putIn 132 = .ok (.iastore, 1) := by decide +kernel
theorem dX9_putIn_133 : decode cX9_putIn 133 = .ok (.aload_n 0, 1) := by decide +kernel
theorem dX9_putIn_134 : decode cX9_putIn 134 = .ok (.dup, 1) := by decide +kernel
theorem dX9_putIn_135 : decode cX9_putIn 135 = .ok (.getfield 260, 3) := by decide +kernel
theorem dX9_putIn_138 : decode cX9_putIn 138 = .ok (.iconst 1, 1) := by decide +kernel
theorem dX9_putIn_139 : decode cX9_putIn 139 = .ok (.iadd, 1) := by decide +kernel
theorem dX9_putIn_140 : decode cX9_putIn 140 = .ok (.putfield 260, 3) := by decide +kernel
theorem dX9_putIn_143 : decode cX9_putIn 143 = .ok (.return_, 1) := by decide +kernel
theorem dX9_uppermostOf_0 : decode cX9_uppermostOf 0 = .ok (.bipush (-9), 2) := by decide +kernel
theorem dX9_uppermostOf_2 : decode cX9_uppermostOf 2 = .ok (.istore_n 3, 1) := by decide +kernel
theorem dX9_uppermostOf_3 : decode cX9_uppermostOf 3 = .ok (.iload_n 1, 1) := by decide +kernel
theorem dX9_uppermostOf_4 : decode cX9_uppermostOf 4 = .ok (.istore 4, 2) := by decide +kernel
theorem dX9_uppermostOf_6 : decode cX9_uppermostOf 6 = .ok (.iload 4, 2) := by decide +kernel
theorem dX9_uppermostOf_8 : decode cX9_uppermostOf 8 = .ok (.iload_n 2, 1) := by decide +kernel
theorem dX9_uppermostOf_9 : decode cX9_uppermostOf 9 = .ok (.if_icmp .gt 41, 3) := by decide +kernel
theorem dX9_uppermostOf_12 : decode cX9_uppermostOf 12 = .ok (.iload_n 3, 1) := by decide +kernel
theorem dX9_uppermostOf_13 : decode cX9_uppermostOf 13 = .ok (.bipush (-9), 2) := by decide +kernel
theorem dX9_uppermostOf_15 : decode cX9_uppermostOf 15 = .ok (.if_icmp .eq 22, 3) := by decide +kernel
theorem dX9_uppermostOf_18 : decode cX9_uppermostOf 18 = .ok (.aload_n 0, 1) := by decide +kernel
theorem dX9_uppermostOf_19 : decode cX9_uppermostOf 19 = .ok (.getfield 98, 3) := by decide +kernel
theorem dX9_uppermostOf_22 : decode cX9_uppermostOf 22 = .ok (.iload 4, 2) := by decide +kernel
theorem dX9_uppermostOf_24 : decode cX9_uppermostOf 24 = .ok (.iaload, 1) := by decide +kernel
theorem dX9_uppermostOf_25 : decode cX9_uppermostOf 25 = .ok (.aload_n 0, 1) := by decide +kernel
theorem dX9_uppermostOf_26 : decode cX9_uppermostOf 26 = .ok (.getfield 98, 3) := by decide +kernel
theorem dX9_uppermostOf_29 : decode cX9_uppermostOf 29 = .ok (.iload_n 3, 1) := by decide +kernel
theorem dX9_uppermostOf_30 : decode cX9_uppermostOf 30 = .ok (.iaload, 1) := by decide +kernel
theorem dX9_uppermostOf_31 : decode cX9_uppermostOf 31 = .ok (.invokestatic 149, 3) := by decide +kernel
theorem dX9_uppermostOf_34 : decode cX9_uppermostOf 34 = .ok (.ifCond .eq 8, 3) := by decide +kernel
theorem dX9_uppermostOf_37 : decode cX9_uppermostOf 37 = .ok (.iload 4, 2) := by decide +kernel
theorem dX9_uppermostOf_39 : decode cX9_uppermostOf 39 = .ok (.goto 4, 3) := by decide +kernel
theorem dX9_uppermostOf_42 : decode cX9_uppermostOf 42 = .ok (.iload_n 3, 1) := by decide +kernel
theorem dX9_uppermostOf_43 : decode cX9_uppermostOf 43 = .ok (.istore_n 3, 1) := by decide +kernel
theorem dX9_uppermostOf_44 : decode cX9_uppermostOf 44 = .ok (.iinc 4 1, 3) := by decide +kernel
theorem dX9_uppermostOf_47 : decode cX9_uppermostOf 47 = .ok (.goto (-41), 3) := by decide +kernel
theorem dX9_uppermostOf_50 : decode cX9_uppermostOf 50 = .ok (.iload_n 3, 1) := by decide +kernel
theorem dX9_uppermostOf_51 : decode cX9_uppermostOf 51 = .ok (.ireturn, 1) := by decide +kernel
theorem dX9_rowDigest_0 : decode cX9_rowDigest 0 = .ok (.iconst 0, 1) := by decide +kernel
theorem dX9_rowDigest_1 : decode cX9_rowDigest 1 = .ok (.istore_n 1, 1) := by decide +kernel
theorem dX9_rowDigest_2 : decode cX9_rowDigest 2 = .ok (.aload_n 0, 1) := by decide +kernel
theorem dX9_rowDigest_3 : decode cX9_rowDigest 3 = .ok (.iconst 0, 1) := by decide +kernel
theorem dX9_rowDigest_4 : decode cX9_rowDigest 4 = .ok (.putfield 145, 3) := by decide +kernel
theorem dX9_rowDigest_7 : decode cX9_rowDigest 7 = .ok (.aload_n 0, 1) := by decide +kernel
theorem dX9_rowDigest_8 : decode cX9_rowDigest 8 = .ok (.iconst 0, 1) := by decide +kernel
theorem dX9_rowDigest_9 : decode cX9_rowDigest 9 = .ok (.aload_n 0, 1) := by decide +kernel
theorem dX9_rowDigest_10 : decode cX9_rowDigest 10 = .ok (.getfield 260, 3) := by decide +kernel
theorem dX9_rowDigest_13 : decode cX9_rowDigest 13 = .ok (.iconst 1, 1) := by decide +kernel
theorem dX9_rowDigest_14 : decode cX9_rowDigest 14 = .ok (.isub, 1) := by decide +kernel
theorem dX9_rowDigest_15 : decode cX9_rowDigest 15 = .ok (.bipush (-9), 2) := by decide +kernel
theorem dX9_rowDigest_17 : decode cX9_rowDigest 17 = .ok (.iconst 0, 1) := by decide +kernel
theorem dX9_rowDigest_18 : decode cX9_rowDigest 18 = .ok (.invokevirtual 153, 3) := by decide +kernel
theorem dX9_rowDigest_21 : decode cX9_rowDigest 21 = .ok (.aload_n 0, 1) := by decide +kernel
theorem dX9_rowDigest_22 : decode cX9_rowDigest 22 = .ok (.getfield 145, 3) := by decide +kernel
theorem dX9_rowDigest_25 : decode cX9_rowDigest 25 = .ok (.ifCond .le 169, 3) := by decide +kernel
theorem dX9_rowDigest_28 : decode cX9_rowDigest 28 = .ok (.aload_n 0, 1) := by decide +kernel
theorem dX9_rowDigest_29 : decode cX9_rowDigest 29 = .ok (.dup, 1) := by decide +kernel
theorem dX9_rowDigest_30 : decode cX9_rowDigest 30 = .ok (.getfield 145, 3) := by decide +kernel
theorem dX9_rowDigest_33 : decode cX9_rowDigest 33 = .ok (.iconst 1, 1) := by decide +kernel
theorem dX9_rowDigest_34 : decode cX9_rowDigest 34 = .ok (.isub, 1) := by decide +kernel
theorem dX9_rowDigest_35 : decode cX9_rowDigest 35 = .ok (.putfield 145, 3) := by decide +kernel
theorem dX9_rowDigest_38 : decode cX9_rowDigest 38 = .ok (.aload_n 0, 1) := by decide +kernel
theorem dX9_rowDigest_39 : decode cX9_rowDigest 39 = .ok (.getfield 56, 3) := by decide +kernel
theorem dX9_rowDigest_42 : decode cX9_rowDigest 42 = .ok (.aload_n 0, 1) := by decide +kernel
theorem dX9_rowDigest_43 : decode cX9_rowDigest 43 = .ok (.getfield 145, 3) := by decide +kernel
theorem dX9_rowDigest_46 : decode cX9_rowDigest 46 = .ok (.iaload, 1) := by decide +kernel
theorem dX9_rowDigest_47 : decode cX9_rowDigest 47 = .ok (.istore_n 2, 1) := by decide +kernel
theorem dX9_rowDigest_48 : decode cX9_rowDigest 48 = .ok (.aload_n 0, 1) := by decide +kernel
theorem dX9_rowDigest_49 : decode cX9_rowDigest 49 = .ok (.getfield 59, 3) := by decide +kernel
theorem dX9_rowDigest_52 : decode cX9_rowDigest 52 = .ok (.aload_n 0, 1) := by decide +kernel
theorem dX9_rowDigest_53 : decode cX9_rowDigest 53 = .ok (.getfield 145, 3) := by decide +kernel
theorem dX9_rowDigest_56 : decode cX9_rowDigest 56 = .ok (.iaload, 1) := by decide +kernel
theorem dX9_rowDigest_57 : decode cX9_rowDigest 57 = .ok (.istore_n 3, 1) := by decide +kernel
theorem dX9_rowDigest_58 : decode cX9_rowDigest 58 = .ok (.aload_n 0, 1) := by decide +kernel
theorem dX9_rowDigest_59 : decode cX9_rowDigest 59 = .ok (.getfield 62, 3) := by decide +kernel
theorem dX9_rowDigest_62 : decode cX9_rowDigest 62 = .ok (.aload_n 0, 1) := by decide +kernel
theorem dX9_rowDigest_63 : decode cX9_rowDigest 63 = .ok (.getfield 145, 3) := by decide +kernel
theorem dX9_rowDigest_66 : decode cX9_rowDigest 66 = .ok (.iaload, 1) := by decide +kernel
theorem dX9_rowDigest_67 : decode cX9_rowDigest 67 = .ok (.istore 4, 2) := by decide +kernel
theorem dX9_rowDigest_69 : decode cX9_rowDigest 69 = .ok (.aload_n 0, 1) := by decide +kernel
theorem dX9_rowDigest_70 : decode cX9_rowDigest 70 = .ok (.getfield 65, 3) := by decide +kernel
theorem dX9_rowDigest_73 : decode cX9_rowDigest 73 = .ok (.aload_n 0, 1) := by decide +kernel
theorem dX9_rowDigest_74 : decode cX9_rowDigest 74 = .ok (.getfield 145, 3) := by decide +kernel
theorem dX9_rowDigest_77 : decode cX9_rowDigest 77 = .ok (.iaload, 1) := by decide +kernel
theorem dX9_rowDigest_78 : decode cX9_rowDigest 78 = .ok (.istore 5, 2) := by decide +kernel
theorem dX9_rowDigest_80 : decode cX9_rowDigest 80 = .ok (.aload_n 0, 1) := by decide +kernel
theorem dX9_rowDigest_81 : decode cX9_rowDigest 81 = .ok (.iload_n 2, 1) := by decide +kernel
theorem dX9_rowDigest_82 : decode cX9_rowDigest 82 = .ok (.iload_n 3, 1) := by decide +kernel
theorem dX9_rowDigest_83 : decode cX9_rowDigest 83 = .ok (.invokevirtual 266, 3) := by decide +kernel
theorem dX9_rowDigest_86 : decode cX9_rowDigest 86 = .ok (.istore 6, 2) := by decide +kernel
theorem dX9_rowDigest_88 : decode cX9_rowDigest 88 = .ok (.iload 6, 2) := by decide +kernel
theorem dX9_rowDigest_90 : decode cX9_rowDigest 90 = .ok (.bipush (-9), 2) := by decide +kernel
theorem dX9_rowDigest_92 : decode cX9_rowDigest 92 = .ok (.if_icmp .eq 36, 3) := by decide +kernel
theorem dX9_rowDigest_95 : decode cX9_rowDigest 95 = .ok (.aload_n 0, 1) := by decide +kernel
theorem dX9_rowDigest_96 : decode cX9_rowDigest 96 = .ok (.getfield 107, 3) := by decide +kernel
theorem dX9_rowDigest_99 : decode cX9_rowDigest 99 = .ok (.iload_n 1, 1) := by decide +kernel
theorem dX9_rowDigest_100 : decode cX9_rowDigest 100 = .ok (.iload 6, 2) := by decide +kernel
theorem dX9_rowDigest_102 : decode cX9_rowDigest 102 = .ok (.iastore, 1) := by decide +kernel
theorem dX9_rowDigest_103 : decode cX9_rowDigest 103 = .ok (.aload_n 0, 1) := by decide +kernel
theorem dX9_rowDigest_104 : decode cX9_rowDigest 104 = .ok (.iload 6, 2) := by decide +kernel
theorem dX9_rowDigest_106 : decode cX9_rowDigest 106 = .ok (.iconst 1, 1) := by decide +kernel
theorem dX9_rowDigest_107 : decode cX9_rowDigest 107 = .ok (.iadd, 1) := by decide +kernel
theorem dX9_rowDigest_108 : decode cX9_rowDigest 108 = .ok (.iload_n 3, 1) := by decide +kernel
theorem dX9_rowDigest_109 : decode cX9_rowDigest 109 = .ok (.iload_n 1, 1) := by decide +kernel
theorem dX9_rowDigest_110 : decode cX9_rowDigest 110 = .ok (.iconst 1, 1) := by decide +kernel
theorem dX9_rowDigest_111 : decode cX9_rowDigest 111 = .ok (.invokevirtual 153, 3) := by decide +kernel
theorem dX9_rowDigest_114 : decode cX9_rowDigest 114 = .ok (.aload_n 0, 1) := by decide +kernel
theorem dX9_rowDigest_115 : decode cX9_rowDigest 115 = .ok (.iload_n 2, 1) := by decide +kernel
theorem dX9_rowDigest_116 : decode cX9_rowDigest 116 = .ok (.iload 6, 2) := by decide +kernel
theorem dX9_rowDigest_118 : decode cX9_rowDigest 118 = .ok (.iconst 1, 1) := by decide +kernel
theorem dX9_rowDigest_119 : decode cX9_rowDigest 119 = .ok (.isub, 1) := by decide +kernel
theorem dX9_rowDigest_120 : decode cX9_rowDigest 120 = .ok (.iload_n 1, 1) := by decide +kernel
theorem dX9_rowDigest_121 : decode cX9_rowDigest 121 = .ok (.iconst 0, 1) := by decide +kernel
theorem dX9_rowDigest_122 : decode cX9_rowDigest 122 = .ok (.invokevirtual 153, 3) := by decide +kernel
theorem dX9_rowDigest_125 : decode cX9_rowDigest 125 = .ok (.iinc 1 1, 3) := by decide +kernel
theorem dX9_rowDigest_128 : decode cX9_rowDigest 128 = .ok (.iload 6, 2) := by decide +kernel
theorem dX9_rowDigest_130 : decode cX9_rowDigest 130 = .ok (.bipush (-9), 2) := by decide +kernel
theorem dX9_rowDigest_132 : decode cX9_rowDigest 132 = .ok (.if_icmp .ne 11, 3) := by decide +kernel
theorem dX9_rowDigest_135 : decode cX9_rowDigest 135 = .ok (.sipush (-1000), 3) := by decide +kernel
theorem dX9_rowDigest_138 : decode cX9_rowDigest 138 = .ok (.iload_n 2, 1) := by decide +kernel
theorem dX9_rowDigest_139 : decode cX9_rowDigest 139 = .ok (.isub, 1) := by decide +kernel
theorem dX9_rowDigest_140 : decode cX9_rowDigest 140 = .ok (.goto 6, 3) := by decide +kernel
theorem dX9_rowDigest_143 : decode cX9_rowDigest 143 = .ok (.iload_n 1, 1) := by decide +kernel
theorem dX9_rowDigest_144 : decode cX9_rowDigest 144 = .ok (.iconst 1, 1) := by decide +kernel
theorem dX9_rowDigest_145 : decode cX9_rowDigest 145 = .ok (.isub, 1) := by decide +kernel
theorem dX9_rowDigest_146 : decode cX9_rowDigest 146 = .ok (.istore 7, 2) := by decide +kernel
theorem dX9_rowDigest_148 : decode cX9_rowDigest 148 = .ok (.iload 4, 2) := by decide +kernel
theorem dX9_rowDigest_150 : decode cX9_rowDigest 150 = .ok (.bipush (-9), 2) := by decide +kernel
theorem dX9_rowDigest_152 : decode cX9_rowDigest 152 = .ok (.if_icmp .eq 17, 3) := by decide +kernel
theorem dX9_rowDigest_155 : decode cX9_rowDigest 155 = .ok (.iload 5, 2) := by decide +kernel
theorem dX9_rowDigest_157 : decode cX9_rowDigest 157 = .ok (.ifCond .ne 12, 3) := by decide +kernel
theorem dX9_rowDigest_160 : decode cX9_rowDigest 160 = .ok (.aload_n 0, 1) := by decide +kernel
theorem dX9_rowDigest_161 : decode cX9_rowDigest 161 = .ok (.getfield 110, 3) := by decide +kernel
theorem dX9_rowDigest_164 : decode cX9_rowDigest 164 = .ok (.iload 4, 2) := by decide +kernel
theorem dX9_rowDigest_166 : decode cX9_rowDigest 166 = .ok (.iload 7, 2) := by decide +kernel
theorem dX9_rowDigest_168 : decode cX9_rowDigest 168 = .ok (.iastore, 1) := by decide +kernel
theorem dX9_rowDigest_169 : decode cX9_rowDigest 169 = .ok (.iload 4, 2) := by decide +kernel
theorem dX9_rowDigest_171 : decode cX9_rowDigest 171 = .ok (.bipush (-9), 2) := by decide +kernel
theorem dX9_rowDigest_173 : decode cX9_rowDigest 173 = .ok (.if_icmp .eq 18, 3) := by decide +kernel
theorem dX9_rowDigest_176 : decode cX9_rowDigest 176 = .ok (.iload 5, 2) := by decide +kernel
theorem dX9_rowDigest_178 : decode cX9_rowDigest 178 = .ok (.iconst 1, 1) := by decide +kernel
theorem dX9_rowDigest_179 : decode cX9_rowDigest 179 = .ok (.if_icmp .ne 12, 3) := by decide +kernel
theorem dX9_rowDigest_182 : decode cX9_rowDigest 182 = .ok (.aload_n 0, 1) := by decide +kernel
theorem dX9_rowDigest_183 : decode cX9_rowDigest 183 = .ok (.getfield 113, 3) := by decide +kernel
theorem dX9_rowDigest_186 : decode cX9_rowDigest 186 = .ok (.iload 4, 2) := by decide +kernel
theorem dX9_rowDigest_188 : decode cX9_rowDigest 188 = .ok (.iload 7, 2) := by decide +kernel
theorem dX9_rowDigest_190 : decode cX9_rowDigest 190 = .ok (.iastore, 1) := by decide +kernel
theorem dX9_rowDigest_191 : decode cX9_rowDigest 191 = .ok (.goto (-170), 3) := by decide +kernel
theorem dX9_rowDigest_194 : decode cX9_rowDigest 194 = .ok (.iload_n 1, 1) := by decide +kernel
theorem dX9_rowDigest_195 : decode cX9_rowDigest 195 = .ok (.iconst 1, 1) := by decide +kernel
theorem dX9_rowDigest_196 : decode cX9_rowDigest 196 = .ok (.isub, 1) := by decide +kernel
theorem dX9_rowDigest_197 : decode cX9_rowDigest 197 = .ok (.istore_n 2, 1) := by decide +kernel
theorem dX9_rowDigest_198 : decode cX9_rowDigest 198 = .ok (.iload_n 2, 1) := by decide +kernel
theorem dX9_rowDigest_199 : decode cX9_rowDigest 199 = .ok (.ifCond .lt 60, 3) := by decide +kernel
theorem dX9_rowDigest_202 : decode cX9_rowDigest 202 = .ok (.aload_n 0, 1) := by decide +kernel
theorem dX9_rowDigest_203 : decode cX9_rowDigest 203 = .ok (.getfield 116, 3) := by decide +kernel
theorem dX9_rowDigest_206 : decode cX9_rowDigest 206 = .ok (.iload_n 2, 1) := by decide +kernel
theorem dX9_rowDigest_207 : decode cX9_rowDigest 207 = .ok (.aload_n 0, 1) := by decide +kernel
theorem dX9_rowDigest_208 : decode cX9_rowDigest 208 = .ok (.getfield 98, 3) := by decide +kernel
theorem dX9_rowDigest_211 : decode cX9_rowDigest 211 = .ok (.aload_n 0, 1) := by decide +kernel
theorem dX9_rowDigest_212 : decode cX9_rowDigest 212 = .ok (.getfield 107, 3) := by decide +kernel
theorem dX9_rowDigest_215 : decode cX9_rowDigest 215 = .ok (.iload_n 2, 1) := by decide +kernel
theorem dX9_rowDigest_216 : decode cX9_rowDigest 216 = .ok (.iaload, 1) := by decide +kernel
theorem dX9_rowDigest_217 : decode cX9_rowDigest 217 = .ok (.iaload, 1) := by decide +kernel
theorem dX9_rowDigest_218 : decode cX9_rowDigest 218 = .ok (.aload_n 0, 1) := by decide +kernel
theorem dX9_rowDigest_219 : decode cX9_rowDigest 219 = .ok (.getfield 101, 3) := by decide +kernel
theorem dX9_rowDigest_222 : decode cX9_rowDigest 222 = .ok (.aload_n 0, 1) := by decide +kernel
theorem dX9_rowDigest_223 : decode cX9_rowDigest 223 = .ok (.getfield 107, 3) := by decide +kernel
theorem dX9_rowDigest_226 : decode cX9_rowDigest 226 = .ok (.iload_n 2, 1) := by decide +kernel
theorem dX9_rowDigest_227 : decode cX9_rowDigest 227 = .ok (.iaload, 1) := by decide +kernel
theorem dX9_rowDigest_228 : decode cX9_rowDigest 228 = .ok (.iaload, 1) := by decide +kernel
theorem dX9_rowDigest_229 : decode cX9_rowDigest 229 = .ok (.aload_n 0, 1) := by decide +kernel
theorem dX9_rowDigest_230 : decode cX9_rowDigest 230 = .ok (.aload_n 0, 1) := by decide +kernel
theorem dX9_rowDigest_231 : decode cX9_rowDigest 231 = .ok (.getfield 110, 3) := by decide +kernel
theorem dX9_rowDigest_234 : decode cX9_rowDigest 234 = .ok (.iload_n 2, 1) := by decide +kernel
theorem dX9_rowDigest_235 : decode cX9_rowDigest 235 = .ok (.iaload, 1) := by decide +kernel
theorem dX9_rowDigest_236 : decode cX9_rowDigest 236 = .ok (.invokevirtual 269, 3) := by decide +kernel
theorem dX9_rowDigest_239 : decode cX9_rowDigest 239 = .ok (.aload_n 0, 1) := by decide +kernel
theorem dX9_rowDigest_240 : decode cX9_rowDigest 240 = .ok (.aload_n 0, 1) := by decide +kernel
theorem dX9_rowDigest_241 : decode cX9_rowDigest 241 = .ok (.getfield 113, 3) := by decide +kernel
theorem dX9_rowDigest_244 : decode cX9_rowDigest 244 = .ok (.iload_n 2, 1) := by decide +kernel
theorem dX9_rowDigest_245 : decode cX9_rowDigest 245 = .ok (.iaload, 1) := by decide +kernel
theorem dX9_rowDigest_246 : decode cX9_rowDigest 246 = .ok (.invokevirtual 269, 3) := by decide +kernel
theorem dX9_rowDigest_249 : decode cX9_rowDigest 249 = .ok (.invokestatic 161, 3) := by decide +kernel
theorem dX9_rowDigest_252 : decode cX9_rowDigest 252 = .ok (.iastore, 1) := by decide +kernel
theorem dX9_rowDigest_253 : decode cX9_rowDigest 253 = .ok (.iinc 2 (-1), 3) := by decide +kernel
theorem dX9_rowDigest_256 : decode cX9_rowDigest 256 = .ok (.goto (-58), 3) := by decide +kernel
theorem dX9_rowDigest_259 : decode cX9_rowDigest 259 = .ok (.iload_n 1, 1) := by decide +kernel
theorem dX9_rowDigest_260 : decode cX9_rowDigest 260 = .ok (.ifCond .ne 12, 3) := by decide +kernel
theorem dX9_rowDigest_263 : decode cX9_rowDigest 263 = .ok (.aload_n 0, 1) := by decide +kernel
theorem dX9_rowDigest_264 : decode cX9_rowDigest 264 = .ok (.getfield 104, 3) := by decide +kernel
theorem dX9_rowDigest_267 : decode cX9_rowDigest 267 = .ok (.iconst 0, 1) := by decide +kernel
theorem dX9_rowDigest_268 : decode cX9_rowDigest 268 = .ok (.iaload, 1) := by decide +kernel
theorem dX9_rowDigest_269 : decode cX9_rowDigest 269 = .ok (.goto 9, 3) := by decide +kernel
theorem dX9_rowDigest_272 : decode cX9_rowDigest 272 = .ok (.aload_n 0, 1) := by decide +kernel
theorem dX9_rowDigest_273 : decode cX9_rowDigest 273 = .ok (.getfield 116, 3) := by decide +kernel
theorem dX9_rowDigest_276 : decode cX9_rowDigest 276 = .ok (.iconst 0, 1) := by decide +kernel
theorem dX9_rowDigest_277 : decode cX9_rowDigest 277 = .ok (.iaload, 1) := by decide +kernel
theorem dX9_rowDigest_278 : decode cX9_rowDigest 278 = .ok (.ireturn, 1) := by decide +kernel
theorem dX9_hanging_0 : decode cX9_hanging 0 = .ok (.iload_n 1, 1) := by decide +kernel
theorem dX9_hanging_1 : decode cX9_hanging 1 = .ok (.ifCond .lt 12, 3) := by decide +kernel
theorem dX9_hanging_4 : decode cX9_hanging 4 = .ok (.aload_n 0, 1) := by decide +kernel
theorem dX9_hanging_5 : decode cX9_hanging 5 = .ok (.getfield 116, 3) := by decide +kernel
theorem dX9_hanging_8 : decode cX9_hanging 8 = .ok (.iload_n 1, 1) := by decide +kernel
theorem dX9_hanging_9 : decode cX9_hanging 9 = .ok (.iaload, 1) := by decide +kernel
theorem dX9_hanging_10 : decode cX9_hanging 10 = .ok (.goto 13, 3) := by decide +kernel
theorem dX9_hanging_13 : decode cX9_hanging 13 = .ok (.aload_n 0, 1) := by decide +kernel
theorem dX9_hanging_14 : decode cX9_hanging 14 = .ok (.getfield 104, 3) := by decide +kernel
theorem dX9_hanging_17 : decode cX9_hanging 17 = .ok (.sipush (-1000), 3) := by decide +kernel
theorem dX9_hanging_20 : decode cX9_hanging 20 = .ok (.iload_n 1, 1) := by decide +kernel
theorem dX9_hanging_21 : decode cX9_hanging 21 = .ok (.isub, 1) := by decide +kernel
theorem dX9_hanging_22 : decode cX9_hanging 22 = .ok (.iaload, 1) := by decide +kernel
theorem dX9_hanging_23 : decode cX9_hanging 23 = .ok (.ireturn, 1) := by decide +kernel
theorem dX9_followed_0 : decode cX9_followed 0 = .ok (.iload_n 1, 1) := by decide +kernel
theorem dX9_followed_1 : decode cX9_followed 1 = .ok (.invokestatic 125, 3) := by decide +kernel
theorem dX9_followed_4 : decode cX9_followed 4 = .ok (.ifCond .eq 16, 3) := by decide +kernel
theorem dX9_followed_7 : decode cX9_followed 7 = .ok (.iload_n 2, 1) := by decide +kernel
theorem dX9_followed_8 : decode cX9_followed 8 = .ok (.bipush (-9), 2) := by decide +kernel
theorem dX9_followed_10 : decode cX9_followed 10 = .ok (.if_icmp .eq 13, 3) := by decide +kernel
theorem dX9_followed_13 : decode cX9_followed 13 = .ok (.iload_n 2, 1) := by decide +kernel
theorem dX9_followed_14 : decode cX9_followed 14 = .ok (.invokestatic 125, 3) := by decide +kernel
theorem dX9_followed_17 : decode cX9_followed 17 = .ok (.ifCond .ne 6, 3) := by decide +kernel
theorem dX9_followed_20 : decode cX9_followed 20 = .ok (.bipush (-2), 2) := by decide +kernel
theorem dX9_followed_22 : decode cX9_followed 22 = .ok (.ireturn, 1) := by decide +kernel
theorem dX9_followed_23 : decode cX9_followed 23 = .ok (.aload_n 0, 1) := by decide +kernel
theorem dX9_followed_24 : decode cX9_followed 24 = .ok (.iload_n 1, 1) := by decide +kernel
theorem dX9_followed_25 : decode cX9_followed 25 = .ok (.ifCond .le 9, 3) := by decide +kernel
theorem dX9_followed_28 : decode cX9_followed 28 = .ok (.iload_n 1, 1) := by decide +kernel
theorem dX9_followed_29 : decode cX9_followed 29 = .ok (.iconst 1, 1) := by decide +kernel
theorem dX9_followed_30 : decode cX9_followed 30 = .ok (.isub, 1) := by decide +kernel
theorem dX9_followed_31 : decode cX9_followed 31 = .ok (.goto 4, 3) := by decide +kernel
theorem dX9_followed_34 : decode cX9_followed 34 = .ok (.iconst 0, 1) := by decide +kernel
theorem dX9_followed_35 : decode cX9_followed 35 = .ok (.iload_n 1, 1) := by decide +kernel
theorem dX9_followed_36 : decode cX9_followed 36 = .ok (.bipush 99, 2) := by decide +kernel
theorem dX9_followed_38 : decode cX9_followed 38 = .ok (.if_icmp .ge 9, 3) := by decide +kernel
theorem dX9_followed_41 : decode cX9_followed 41 = .ok (.iload_n 1, 1) := by decide +kernel
theorem dX9_followed_42 : decode cX9_followed 42 = .ok (.iconst 1, 1) := by decide +kernel
theorem dX9_followed_43 : decode cX9_followed 43 = .ok (.iadd, 1) := by decide +kernel
theorem dX9_followed_44 : decode cX9_followed 44 = .ok (.goto 5, 3) := by decide +kernel
theorem dX9_followed_47 : decode cX9_followed 47 = .ok (.bipush 99, 2) := by decide +kernel
theorem dX9_followed_49 : decode cX9_followed 49 = .ok (.invokevirtual 252, 3) := by decide +kernel
theorem dX9_followed_52 : decode cX9_followed 52 = .ok (.ifCond .eq 6, 3) := by decide +kernel
theorem dX9_followed_55 : decode cX9_followed 55 = .ok (.bipush (-3), 2) := by decide +kernel
theorem dX9_followed_57 : decode cX9_followed 57 = .ok (.ireturn, 1) := by decide +kernel
theorem dX9_followed_58 : decode cX9_followed 58 = .ok (.aload_n 0, 1) := by decide +kernel
theorem dX9_followed_59 : decode cX9_followed 59 = .ok (.invokevirtual 257, 3) := by decide +kernel
theorem dX9_followed_62 : decode cX9_followed 62 = .ok (.aload_n 0, 1) := by decide +kernel
theorem dX9_followed_63 : decode cX9_followed 63 = .ok (.iload_n 1, 1) := by decide +kernel
theorem dX9_followed_64 : decode cX9_followed 64 = .ok (.invokevirtual 263, 3) := by decide +kernel
theorem dX9_followed_67 : decode cX9_followed 67 = .ok (.istore_n 3, 1) := by decide +kernel
theorem dX9_followed_68 : decode cX9_followed 68 = .ok (.iload_n 3, 1) := by decide +kernel
theorem dX9_followed_69 : decode cX9_followed 69 = .ok (.bipush (-9), 2) := by decide +kernel
theorem dX9_followed_71 : decode cX9_followed 71 = .ok (.if_icmp .ne 11, 3) := by decide +kernel
theorem dX9_followed_74 : decode cX9_followed 74 = .ok (.iload_n 2, 1) := by decide +kernel
theorem dX9_followed_75 : decode cX9_followed 75 = .ok (.bipush (-9), 2) := by decide +kernel
theorem dX9_followed_77 : decode cX9_followed 77 = .ok (.if_icmp .ne 5, 3) := by decide +kernel
theorem dX9_followed_80 : decode cX9_followed 80 = .ok (.iconst (-1), 1) := by decide +kernel
theorem dX9_followed_81 : decode cX9_followed 81 = .ok (.ireturn, 1) := by decide +kernel
theorem dX9_followed_82 : decode cX9_followed 82 = .ok (.iload_n 2, 1) := by decide +kernel
theorem dX9_followed_83 : decode cX9_followed 83 = .ok (.bipush (-9), 2) := by decide +kernel
theorem dX9_followed_85 : decode cX9_followed 85 = .ok (.if_icmp .ne 11, 3) := by decide +kernel
theorem dX9_followed_88 : decode cX9_followed 88 = .ok (.aload_n 0, 1) := by decide +kernel
theorem dX9_followed_89 : decode cX9_followed 89 = .ok (.iload_n 3, 1) := by decide +kernel
theorem dX9_followed_90 : decode cX9_followed 90 = .ok (.invokevirtual 272, 3) := by decide +kernel
theorem dX9_followed_93 : decode cX9_followed 93 = .ok (.goto 25, 3) := by decide +kernel
theorem dX9_followed_96 : decode cX9_followed 96 = .ok (.iload_n 3, 1) := by decide +kernel
theorem dX9_followed_97 : decode cX9_followed 97 = .ok (.bipush (-9), 2) := by decide +kernel
theorem dX9_followed_99 : decode cX9_followed 99 = .ok (.if_icmp .ne 12, 3) := by decide +kernel
theorem dX9_followed_102 : decode cX9_followed 102 = .ok (.aload_n 0, 1) := by decide +kernel
theorem dX9_followed_103 : decode cX9_followed 103 = .ok (.iload_n 1, 1) := by decide +kernel
theorem dX9_followed_104 : decode cX9_followed 104 = .ok (.iload_n 2, 1) := by decide +kernel
theorem dX9_followed_105 : decode cX9_followed 105 = .ok (.invokevirtual 276, 3) := by decide +kernel
theorem dX9_followed_108 : decode cX9_followed 108 = .ok (.goto 10, 3) := by decide +kernel
theorem dX9_followed_111 : decode cX9_followed 111 = .ok (.aload_n 0, 1) := by decide +kernel
theorem dX9_followed_112 : decode cX9_followed 112 = .ok (.getfield 101, 3) := by decide +kernel
theorem dX9_followed_115 : decode cX9_followed 115 = .ok (.iload_n 3, 1) := by decide +kernel
theorem dX9_followed_116 : decode cX9_followed 116 = .ok (.iload_n 2, 1) := by decide +kernel
theorem dX9_followed_117 : decode cX9_followed 117 = .ok (.iastore, 1) := by decide +kernel
theorem dX9_followed_118 : decode cX9_followed 118 = .ok (.aload_n 0, 1) := by decide +kernel
theorem dX9_followed_119 : decode cX9_followed 119 = .ok (.invokevirtual 280, 3) := by decide +kernel
theorem dX9_followed_122 : decode cX9_followed 122 = .ok (.ireturn, 1) := by decide +kernel
theorem dX9_step_0 : decode cX9_step 0 = .ok (.aload_n 0, 1) := by decide +kernel
theorem dX9_step_1 : decode cX9_step 1 = .ok (.iload_n 1, 1) := by decide +kernel
theorem dX9_step_2 : decode cX9_step 2 = .ok (.iload_n 2, 1) := by decide +kernel
theorem dX9_step_3 : decode cX9_step 3 = .ok (.invokevirtual 283, 3) := by decide +kernel
theorem dX9_step_6 : decode cX9_step 6 = .ok (.ireturn, 1) := by decide +kernel
theorem dX9_follow_0 : decode cX9_follow 0 = .ok (.aload_n 0, 1) := by decide +kernel
theorem dX9_follow_1 : decode cX9_follow 1 = .ok (.iload_n 1, 1) := by decide +kernel
theorem dX9_follow_2 : decode cX9_follow 2 = .ok (.iload_n 2, 1) := by decide +kernel
theorem dX9_follow_3 : decode cX9_follow 3 = .ok (.invokevirtual 283, 3) := by decide +kernel
theorem dX9_follow_6 : decode cX9_follow 6 = .ok (.istore_n 3, 1) := by decide +kernel
theorem dX9_follow_7 : decode cX9_follow 7 = .ok (.iload_n 3, 1) := by decide +kernel
theorem dX9_follow_8 : decode cX9_follow 8 = .ok (.ifCond .ge 7, 3) := by decide +kernel
theorem dX9_follow_11 : decode cX9_follow 11 = .ok (.iload_n 3, 1) := by decide +kernel
theorem dX9_follow_12 : decode cX9_follow 12 = .ok (.goto 8, 3) := by decide +kernel
theorem dX9_follow_15 : decode cX9_follow 15 = .ok (.aload_n 0, 1) := by decide +kernel
theorem dX9_follow_16 : decode cX9_follow 16 = .ok (.iload_n 3, 1) := by decide +kernel
theorem dX9_follow_17 : decode cX9_follow 17 = .ok (.invokevirtual 234, 3) := by decide +kernel
theorem dX9_follow_20 : decode cX9_follow 20 = .ok (.ireturn, 1) := by decide +kernel
theorem dX9_judged_0 : decode cX9_judged 0 = .ok (.iload_n 1, 1) := by decide +kernel
theorem dX9_judged_1 : decode cX9_judged 1 = .ok (.tableswitch 160 1 5 #[35, 57, 84, 100, 136], 35) := by decide +kernel
theorem dX9_judged_36 : decode cX9_judged 36 = .ok (.aload_n 0, 1) := by decide +kernel
theorem dX9_judged_37 : decode cX9_judged 37 = .ok (.getfield 13, 3) := by decide +kernel
theorem dX9_judged_40 : decode cX9_judged 40 = .ok (.iload_n 2, 1) := by decide +kernel
theorem dX9_judged_41 : decode cX9_judged 41 = .ok (.invokestatic 179, 3) := by decide +kernel
theorem dX9_judged_44 : decode cX9_judged 44 = .ok (.ifCond .ne 5, 3) := by decide +kernel
theorem dX9_judged_47 : decode cX9_judged 47 = .ok (.iconst 0, 1) := by decide +kernel
theorem dX9_judged_48 : decode cX9_judged 48 = .ok (.ireturn, 1) := by decide +kernel
theorem dX9_judged_49 : decode cX9_judged 49 = .ok (.aload_n 0, 1) := by decide +kernel
theorem dX9_judged_50 : decode cX9_judged 50 = .ok (.getfield 13, 3) := by decide +kernel
theorem dX9_judged_53 : decode cX9_judged 53 = .ok (.iload_n 2, 1) := by decide +kernel
theorem dX9_judged_54 : decode cX9_judged 54 = .ok (.iload_n 3, 1) := by decide +kernel
theorem dX9_judged_55 : decode cX9_judged 55 = .ok (.iastore, 1) := by decide +kernel
theorem dX9_judged_56 : decode cX9_judged 56 = .ok (.iconst 1, 1) := by decide +kernel
theorem dX9_judged_57 : decode cX9_judged 57 = .ok (.ireturn, 1) := by decide +kernel
theorem dX9_judged_58 : decode cX9_judged 58 = .ok (.aload_n 0, 1) := by decide +kernel
theorem dX9_judged_59 : decode cX9_judged 59 = .ok (.getfield 13, 3) := by decide +kernel
theorem dX9_judged_62 : decode cX9_judged 62 = .ok (.iload_n 2, 1) := by decide +kernel
theorem dX9_judged_63 : decode cX9_judged 63 = .ok (.iaload, 1) := by decide +kernel
theorem dX9_judged_64 : decode cX9_judged 64 = .ok (.bipush (-9), 2) := by decide +kernel
theorem dX9_judged_66 : decode cX9_judged 66 = .ok (.if_icmp .eq 7, 3) := by decide +kernel
theorem dX9_judged_69 : decode cX9_judged 69 = .ok (.iload_n 3, 1) := by decide +kernel
theorem dX9_judged_70 : decode cX9_judged 70 = .ok (.ifCond .eq 5, 3) := by decide +kernel
theorem dX9_judged_73 : decode cX9_judged 73 = .ok (.iconst 0, 1) := by decide +kernel
theorem dX9_judged_74 : decode cX9_judged 74 = .ok (.ireturn, 1) := by decide +kernel
theorem dX9_judged_75 : decode cX9_judged 75 = .ok (.aload_n 0, 1) := by decide +kernel
theorem dX9_judged_76 : decode cX9_judged 76 = .ok (.getfield 13, 3) := by decide +kernel
theorem dX9_judged_79 : decode cX9_judged 79 = .ok (.iload_n 2, 1) := by decide +kernel
theorem dX9_judged_80 : decode cX9_judged 80 = .ok (.bipush (-9), 2) := by decide +kernel
theorem dX9_judged_82 : decode cX9_judged 82 = .ok (.iastore, 1) := by decide +kernel
theorem dX9_judged_83 : decode cX9_judged 83 = .ok (.iconst 1, 1) := by decide +kernel
theorem dX9_judged_84 : decode cX9_judged 84 = .ok (.ireturn, 1) := by decide +kernel
theorem dX9_judged_85 : decode cX9_judged 85 = .ok (.aload_n 0, 1) := by decide +kernel
theorem dX9_judged_86 : decode cX9_judged 86 = .ok (.getfield 13, 3) := by decide +kernel
theorem dX9_judged_89 : decode cX9_judged 89 = .ok (.iload_n 2, 1) := by decide +kernel
theorem dX9_judged_90 : decode cX9_judged 90 = .ok (.iaload, 1) := by decide +kernel
theorem dX9_judged_91 : decode cX9_judged 91 = .ok (.iload_n 3, 1) := by decide +kernel
theorem dX9_judged_92 : decode cX9_judged 92 = .ok (.if_icmp .ne 7, 3) := by decide +kernel
theorem dX9_judged_95 : decode cX9_judged 95 = .ok (.iconst 1, 1) := by decide +kernel
theorem dX9_judged_96 : decode cX9_judged 96 = .ok (.goto 4, 3) := by decide +kernel
theorem dX9_judged_99 : decode cX9_judged 99 = .ok (.iconst 0, 1) := by decide +kernel
theorem dX9_judged_100 : decode cX9_judged 100 = .ok (.ireturn, 1) := by decide +kernel
theorem dX9_judged_101 : decode cX9_judged 101 = .ok (.aload_n 0, 1) := by decide +kernel
theorem dX9_judged_102 : decode cX9_judged 102 = .ok (.aload_n 0, 1) := by decide +kernel
theorem dX9_judged_103 : decode cX9_judged 103 = .ok (.getfield 13, 3) := by decide +kernel
theorem dX9_judged_106 : decode cX9_judged 106 = .ok (.iconst 0, 1) := by decide +kernel
theorem dX9_judged_107 : decode cX9_judged 107 = .ok (.invokevirtual 165, 3) := by decide +kernel
theorem dX9_judged_110 : decode cX9_judged 110 = .ok (.aload_n 0, 1) := by decide +kernel
theorem dX9_judged_111 : decode cX9_judged 111 = .ok (.getfield 13, 3) := by decide +kernel
theorem dX9_judged_114 : decode cX9_judged 114 = .ok (.iload_n 2, 1) := by decide +kernel
theorem dX9_judged_115 : decode cX9_judged 115 = .ok (.iaload, 1) := by decide +kernel
theorem dX9_judged_116 : decode cX9_judged 116 = .ok (.bipush (-9), 2) := by decide +kernel
theorem dX9_judged_118 : decode cX9_judged 118 = .ok (.if_icmp .eq 17, 3) := by decide +kernel
theorem dX9_judged_121 : decode cX9_judged 121 = .ok (.aload_n 0, 1) := by decide +kernel
theorem dX9_judged_122 : decode cX9_judged 122 = .ok (.getfield 35, 3) := by decide +kernel
theorem dX9_judged_125 : decode cX9_judged 125 = .ok (.iload_n 2, 1) := by decide +kernel
theorem dX9_judged_126 : decode cX9_judged 126 = .ok (.iaload, 1) := by decide +kernel
theorem dX9_judged_127 : decode cX9_judged 127 = .ok (.iload_n 3, 1) := by decide +kernel
theorem dX9_judged_128 : decode cX9_judged 128 = .ok (.if_icmp .ne 7, 3) := by decide +kernel
theorem dX9_judged_131 : decode cX9_judged 131 = .ok (.iconst 1, 1) := by decide +kernel
theorem dX9_judged_132 : decode cX9_judged 132 = .ok (.goto 4, 3) := by decide +kernel
theorem dX9_judged_135 : decode cX9_judged 135 = .ok (.iconst 0, 1) := by decide +kernel
theorem dX9_judged_136 : decode cX9_judged 136 = .ok (.ireturn, 1) := by decide +kernel
theorem dX9_judged_137 : decode cX9_judged 137 = .ok (.aload_n 0, 1) := by decide +kernel
theorem dX9_judged_138 : decode cX9_judged 138 = .ok (.aload_n 0, 1) := by decide +kernel
theorem dX9_judged_139 : decode cX9_judged 139 = .ok (.getfield 13, 3) := by decide +kernel
theorem dX9_judged_142 : decode cX9_judged 142 = .ok (.iload_n 2, 1) := by decide +kernel
theorem dX9_judged_143 : decode cX9_judged 143 = .ok (.iload_n 2, 1) := by decide +kernel
theorem dX9_judged_144 : decode cX9_judged 144 = .ok (.invokevirtual 223, 3) := by decide +kernel
theorem dX9_judged_147 : decode cX9_judged 147 = .ok (.aload_n 0, 1) := by decide +kernel
theorem dX9_judged_148 : decode cX9_judged 148 = .ok (.getfield 211, 3) := by decide +kernel
theorem dX9_judged_151 : decode cX9_judged 151 = .ok (.iload_n 3, 1) := by decide +kernel
theorem dX9_judged_152 : decode cX9_judged 152 = .ok (.if_icmp .ne 7, 3) := by decide +kernel
theorem dX9_judged_155 : decode cX9_judged 155 = .ok (.iconst 1, 1) := by decide +kernel
theorem dX9_judged_156 : decode cX9_judged 156 = .ok (.goto 4, 3) := by decide +kernel
theorem dX9_judged_159 : decode cX9_judged 159 = .ok (.iconst 0, 1) := by decide +kernel
theorem dX9_judged_160 : decode cX9_judged 160 = .ok (.ireturn, 1) := by decide +kernel
theorem dX9_judged_161 : decode cX9_judged 161 = .ok (.iconst 0, 1) := by decide +kernel
theorem dX9_judged_162 : decode cX9_judged 162 = .ok (.ireturn, 1) := by decide +kernel
theorem dX9_hundredThousands_0 : decode cX9_hundredThousands 0 = .ok (.lconst 1, 1) := by decide +kernel
theorem dX9_hundredThousands_1 : decode cX9_hundredThousands 1 = .ok (.lstore_n 1, 1) := by decide +kernel
theorem dX9_hundredThousands_2 : decode cX9_hundredThousands 2 = .ok (.iconst 0, 1) := by decide +kernel
theorem dX9_hundredThousands_3 : decode cX9_hundredThousands 3 = .ok (.istore_n 3, 1) := by decide +kernel
theorem dX9_hundredThousands_4 : decode cX9_hundredThousands 4 = .ok (.iload_n 3, 1) := by decide +kernel
theorem dX9_hundredThousands_5 : decode cX9_hundredThousands 5 = .ok (.iload_n 0, 1) := by decide +kernel
theorem dX9_hundredThousands_6 : decode cX9_hundredThousands 6 = .ok (.if_icmp .ge 15, 3) := by decide +kernel
theorem dX9_hundredThousands_9 : decode cX9_hundredThousands 9 = .ok (.lload_n 1, 1) := by decide +kernel
theorem dX9_hundredThousands_10 : decode cX9_hundredThousands 10 = .ok (.ldc2_w 286, 3) := by decide +kernel
theorem dX9_hundredThousands_13 : decode cX9_hundredThousands 13 = .ok (.lmul, 1) := by decide +kernel
theorem dX9_hundredThousands_14 : decode cX9_hundredThousands 14 = .ok (.lstore_n 1, 1) := by decide +kernel
theorem dX9_hundredThousands_15 : decode cX9_hundredThousands 15 = .ok (.iinc 3 1, 3) := by decide +kernel
theorem dX9_hundredThousands_18 : decode cX9_hundredThousands 18 = .ok (.goto (-14), 3) := by decide +kernel
theorem dX9_hundredThousands_21 : decode cX9_hundredThousands 21 = .ok (.lload_n 1, 1) := by decide +kernel
theorem dX9_hundredThousands_22 : decode cX9_hundredThousands 22 = .ok (.lreturn, 1) := by decide +kernel
theorem dX9_judge_0 : decode cX9_judge 0 = .ok (.iload_n 1, 1) := by decide +kernel
theorem dX9_judge_1 : decode cX9_judge 1 = .ok (.i2l, 1) := by decide +kernel
theorem dX9_judge_2 : decode cX9_judge 2 = .ok (.lconst 1, 1) := by decide +kernel
theorem dX9_judge_3 : decode cX9_judge 3 = .ok (.ldc2_w 129, 3) := by decide +kernel
theorem dX9_judge_6 : decode cX9_judge 6 = .ok (.invokestatic 121, 3) := by decide +kernel
theorem dX9_judge_9 : decode cX9_judge 9 = .ok (.ifCond .eq 17, 3) := by decide +kernel
theorem dX9_judge_12 : decode cX9_judge 12 = .ok (.lload_n 2, 1) := by decide +kernel
theorem dX9_judge_13 : decode cX9_judge 13 = .ok (.lconst 0, 1) := by decide +kernel
theorem dX9_judge_14 : decode cX9_judge 14 = .ok (.iload_n 1, 1) := by decide +kernel
theorem dX9_judge_15 : decode cX9_judge 15 = .ok (.invokestatic 288, 3) := by decide +kernel
theorem dX9_judge_18 : decode cX9_judge 18 = .ok (.lconst 1, 1) := by decide +kernel
theorem dX9_judge_19 : decode cX9_judge 19 = .ok (.lsub, 1) := by decide +kernel
theorem dX9_judge_20 : decode cX9_judge 20 = .ok (.invokestatic 121, 3) := by decide +kernel
theorem dX9_judge_23 : decode cX9_judge 23 = .ok (.ifCond .ne 6, 3) := by decide +kernel
theorem dX9_judge_26 : decode cX9_judge 26 = .ok (.bipush (-2), 2) := by decide +kernel
theorem dX9_judge_28 : decode cX9_judge 28 = .ok (.ireturn, 1) := by decide +kernel
theorem dX9_judge_29 : decode cX9_judge 29 = .ok (.iconst 0, 1) := by decide +kernel
theorem dX9_judge_30 : decode cX9_judge 30 = .ok (.istore 4, 2) := by decide +kernel
theorem dX9_judge_32 : decode cX9_judge 32 = .ok (.iload 4, 2) := by decide +kernel
theorem dX9_judge_34 : decode cX9_judge 34 = .ok (.bipush 100, 2) := by decide +kernel
theorem dX9_judge_36 : decode cX9_judge 36 = .ok (.if_icmp .ge 23, 3) := by decide +kernel
theorem dX9_judge_39 : decode cX9_judge 39 = .ok (.aload_n 0, 1) := by decide +kernel
theorem dX9_judge_40 : decode cX9_judge 40 = .ok (.getfield 13, 3) := by decide +kernel
theorem dX9_judge_43 : decode cX9_judge 43 = .ok (.iload 4, 2) := by decide +kernel
theorem dX9_judge_45 : decode cX9_judge 45 = .ok (.aload_n 0, 1) := by decide +kernel
theorem dX9_judge_46 : decode cX9_judge 46 = .ok (.getfield 7, 3) := by decide +kernel
theorem dX9_judge_49 : decode cX9_judge 49 = .ok (.iload 4, 2) := by decide +kernel
theorem dX9_judge_51 : decode cX9_judge 51 = .ok (.iaload, 1) := by decide +kernel
theorem dX9_judge_52 : decode cX9_judge 52 = .ok (.iastore, 1) := by decide +kernel
theorem dX9_judge_53 : decode cX9_judge 53 = .ok (.iinc 4 1, 3) := by decide +kernel
theorem dX9_judge_56 : decode cX9_judge 56 = .ok (.goto (-24), 3) := by decide +kernel
theorem dX9_judge_59 : decode cX9_judge 59 = .ok (.iconst 0, 1) := by decide +kernel
theorem dX9_judge_60 : decode cX9_judge 60 = .ok (.istore 4, 2) := by decide +kernel
theorem dX9_judge_62 : decode cX9_judge 62 = .ok (.iload 4, 2) := by decide +kernel
theorem dX9_judge_64 : decode cX9_judge 64 = .ok (.iload_n 1, 1) := by decide +kernel
theorem dX9_judge_65 : decode cX9_judge 65 = .ok (.if_icmp .ge 56, 3) := by decide +kernel
theorem dX9_judge_68 : decode cX9_judge 68 = .ok (.lload_n 2, 1) := by decide +kernel
theorem dX9_judge_69 : decode cX9_judge 69 = .ok (.iload_n 1, 1) := by decide +kernel
theorem dX9_judge_70 : decode cX9_judge 70 = .ok (.iconst 1, 1) := by decide +kernel
theorem dX9_judge_71 : decode cX9_judge 71 = .ok (.isub, 1) := by decide +kernel
theorem dX9_judge_72 : decode cX9_judge 72 = .ok (.iload 4, 2) := by decide +kernel
theorem dX9_judge_74 : decode cX9_judge 74 = .ok (.isub, 1) := by decide +kernel
theorem dX9_judge_75 : decode cX9_judge 75 = .ok (.invokestatic 288, 3) := by decide +kernel
theorem dX9_judge_78 : decode cX9_judge 78 = .ok (.ldiv, 1) := by decide +kernel
theorem dX9_judge_79 : decode cX9_judge 79 = .ok (.ldc2_w 286, 3) := by decide +kernel
theorem dX9_judge_82 : decode cX9_judge 82 = .ok (.lrem, 1) := by decide +kernel
theorem dX9_judge_83 : decode cX9_judge 83 = .ok (.l2i, 1) := by decide +kernel
theorem dX9_judge_84 : decode cX9_judge 84 = .ok (.istore 5, 2) := by decide +kernel
theorem dX9_judge_86 : decode cX9_judge 86 = .ok (.aload_n 0, 1) := by decide +kernel
theorem dX9_judge_87 : decode cX9_judge 87 = .ok (.iload 5, 2) := by decide +kernel
theorem dX9_judge_89 : decode cX9_judge 89 = .ok (.sipush 10000, 3) := by decide +kernel
theorem dX9_judge_92 : decode cX9_judge 92 = .ok (.idiv, 1) := by decide +kernel
theorem dX9_judge_93 : decode cX9_judge 93 = .ok (.iload 5, 2) := by decide +kernel
theorem dX9_judge_95 : decode cX9_judge 95 = .ok (.bipush 100, 2) := by decide +kernel
theorem dX9_judge_97 : decode cX9_judge 97 = .ok (.idiv, 1) := by decide +kernel
theorem dX9_judge_98 : decode cX9_judge 98 = .ok (.bipush 100, 2) := by decide +kernel
theorem dX9_judge_100 : decode cX9_judge 100 = .ok (.irem, 1) := by decide +kernel
theorem dX9_judge_101 : decode cX9_judge 101 = .ok (.iload 5, 2) := by decide +kernel
theorem dX9_judge_103 : decode cX9_judge 103 = .ok (.bipush 100, 2) := by decide +kernel
theorem dX9_judge_105 : decode cX9_judge 105 = .ok (.irem, 1) := by decide +kernel
theorem dX9_judge_106 : decode cX9_judge 106 = .ok (.invokevirtual 292, 3) := by decide +kernel
theorem dX9_judge_109 : decode cX9_judge 109 = .ok (.ifCond .ne 6, 3) := by decide +kernel
theorem dX9_judge_112 : decode cX9_judge 112 = .ok (.iload 4, 2) := by decide +kernel
theorem dX9_judge_114 : decode cX9_judge 114 = .ok (.ireturn, 1) := by decide +kernel
theorem dX9_judge_115 : decode cX9_judge 115 = .ok (.iinc 4 1, 3) := by decide +kernel
theorem dX9_judge_118 : decode cX9_judge 118 = .ok (.goto (-56), 3) := by decide +kernel
theorem dX9_judge_121 : decode cX9_judge 121 = .ok (.bipush (-9), 2) := by decide +kernel
theorem dX9_judge_123 : decode cX9_judge 123 = .ok (.ireturn, 1) := by decide +kernel
theorem dX9_keep_0 : decode cX9_keep 0 = .ok (.iload_n 1, 1) := by decide +kernel
theorem dX9_keep_1 : decode cX9_keep 1 = .ok (.i2l, 1) := by decide +kernel
theorem dX9_keep_2 : decode cX9_keep 2 = .ok (.lconst 0, 1) := by decide +kernel
theorem dX9_keep_3 : decode cX9_keep 3 = .ok (.lconst 1, 1) := by decide +kernel
theorem dX9_keep_4 : decode cX9_keep 4 = .ok (.invokestatic 121, 3) := by decide +kernel
theorem dX9_keep_7 : decode cX9_keep 7 = .ok (.ifCond .ne 5, 3) := by decide +kernel
theorem dX9_keep_10 : decode cX9_keep 10 = .ok (.iconst (-1), 1) := by decide +kernel
theorem dX9_keep_11 : decode cX9_keep 11 = .ok (.ireturn, 1) := by decide +kernel
theorem dX9_keep_12 : decode cX9_keep 12 = .ok (.aload_n 0, 1) := by decide +kernel
theorem dX9_keep_13 : decode cX9_keep 13 = .ok (.getfield 22, 3) := by decide +kernel
theorem dX9_keep_16 : decode cX9_keep 16 = .ok (.iload_n 1, 1) := by decide +kernel
theorem dX9_keep_17 : decode cX9_keep 17 = .ok (.iconst 1, 1) := by decide +kernel
theorem dX9_keep_18 : decode cX9_keep 18 = .ok (.bastore, 1) := by decide +kernel
theorem dX9_keep_19 : decode cX9_keep 19 = .ok (.iconst 0, 1) := by decide +kernel
theorem dX9_keep_20 : decode cX9_keep 20 = .ok (.istore_n 2, 1) := by decide +kernel
theorem dX9_keep_21 : decode cX9_keep 21 = .ok (.iload_n 2, 1) := by decide +kernel
theorem dX9_keep_22 : decode cX9_keep 22 = .ok (.bipush 100, 2) := by decide +kernel
theorem dX9_keep_24 : decode cX9_keep 24 = .ok (.if_icmp .ge 26, 3) := by decide +kernel
theorem dX9_keep_27 : decode cX9_keep 27 = .ok (.aload_n 0, 1) := by decide +kernel
theorem dX9_keep_28 : decode cX9_keep 28 = .ok (.getfield 19, 3) := by decide +kernel
theorem dX9_keep_31 : decode cX9_keep 31 = .ok (.bipush 100, 2) := by decide +kernel
theorem dX9_keep_33 : decode cX9_keep 33 = .ok (.iload_n 1, 1) := by decide +kernel
theorem dX9_keep_34 : decode cX9_keep 34 = .ok (.imul, 1) := by decide +kernel
theorem dX9_keep_35 : decode cX9_keep 35 = .ok (.iload_n 2, 1) := by decide +kernel
theorem dX9_keep_36 : decode cX9_keep 36 = .ok (.iadd, 1) := by decide +kernel
theorem dX9_keep_37 : decode cX9_keep 37 = .ok (.aload_n 0, 1) := by decide +kernel
theorem dX9_keep_38 : decode cX9_keep 38 = .ok (.getfield 7, 3) := by decide +kernel
theorem dX9_keep_41 : decode cX9_keep 41 = .ok (.iload_n 2, 1) := by decide +kernel
theorem dX9_keep_42 : decode cX9_keep 42 = .ok (.iaload, 1) := by decide +kernel
theorem dX9_keep_43 : decode cX9_keep 43 = .ok (.iastore, 1) := by decide +kernel
theorem dX9_keep_44 : decode cX9_keep 44 = .ok (.iinc 2 1, 3) := by decide +kernel
theorem dX9_keep_47 : decode cX9_keep 47 = .ok (.goto (-26), 3) := by decide +kernel
theorem dX9_keep_50 : decode cX9_keep 50 = .ok (.aload_n 0, 1) := by decide +kernel
theorem dX9_keep_51 : decode cX9_keep 51 = .ok (.getfield 7, 3) := by decide +kernel
theorem dX9_keep_54 : decode cX9_keep 54 = .ok (.invokestatic 175, 3) := by decide +kernel
theorem dX9_keep_57 : decode cX9_keep 57 = .ok (.ireturn, 1) := by decide +kernel
theorem dX9_again_0 : decode cX9_again 0 = .ok (.iload_n 1, 1) := by decide +kernel
theorem dX9_again_1 : decode cX9_again 1 = .ok (.i2l, 1) := by decide +kernel
theorem dX9_again_2 : decode cX9_again 2 = .ok (.lconst 0, 1) := by decide +kernel
theorem dX9_again_3 : decode cX9_again 3 = .ok (.lconst 1, 1) := by decide +kernel
theorem dX9_again_4 : decode cX9_again 4 = .ok (.invokestatic 121, 3) := by decide +kernel
theorem dX9_again_7 : decode cX9_again 7 = .ok (.ifCond .ne 5, 3) := by decide +kernel
theorem dX9_again_10 : decode cX9_again 10 = .ok (.iconst (-1), 1) := by decide +kernel
theorem dX9_again_11 : decode cX9_again 11 = .ok (.ireturn, 1) := by decide +kernel
theorem dX9_again_12 : decode cX9_again 12 = .ok (.aload_n 0, 1) := by decide +kernel
theorem dX9_again_13 : decode cX9_again 13 = .ok (.getfield 22, 3) := by decide +kernel
theorem dX9_again_16 : decode cX9_again 16 = .ok (.iload_n 1, 1) := by decide +kernel
theorem dX9_again_17 : decode cX9_again 17 = .ok (.baload, 1) := by decide +kernel
theorem dX9_again_18 : decode cX9_again 18 = .ok (.ifCond .ne 6, 3) := by decide +kernel
theorem dX9_again_21 : decode cX9_again 21 = .ok (.bipush (-3), 2) := by decide +kernel
theorem dX9_again_23 : decode cX9_again 23 = .ok (.ireturn, 1) := by decide +kernel
theorem dX9_again_24 : decode cX9_again 24 = .ok (.iconst 0, 1) := by decide +kernel
theorem dX9_again_25 : decode cX9_again 25 = .ok (.istore_n 2, 1) := by decide +kernel
theorem dX9_again_26 : decode cX9_again 26 = .ok (.iload_n 2, 1) := by decide +kernel
theorem dX9_again_27 : decode cX9_again 27 = .ok (.bipush 100, 2) := by decide +kernel
theorem dX9_again_29 : decode cX9_again 29 = .ok (.if_icmp .ge 26, 3) := by decide +kernel
theorem dX9_again_32 : decode cX9_again 32 = .ok (.aload_n 0, 1) := by decide +kernel
theorem dX9_again_33 : decode cX9_again 33 = .ok (.getfield 7, 3) := by decide +kernel
theorem dX9_again_36 : decode cX9_again 36 = .ok (.iload_n 2, 1) := by decide +kernel
theorem dX9_again_37 : decode cX9_again 37 = .ok (.aload_n 0, 1) := by decide +kernel
theorem dX9_again_38 : decode cX9_again 38 = .ok (.getfield 19, 3) := by decide +kernel
theorem dX9_again_41 : decode cX9_again 41 = .ok (.bipush 100, 2) := by decide +kernel
theorem dX9_again_43 : decode cX9_again 43 = .ok (.iload_n 1, 1) := by decide +kernel
theorem dX9_again_44 : decode cX9_again 44 = .ok (.imul, 1) := by decide +kernel
theorem dX9_again_45 : decode cX9_again 45 = .ok (.iload_n 2, 1) := by decide +kernel
theorem dX9_again_46 : decode cX9_again 46 = .ok (.iadd, 1) := by decide +kernel
theorem dX9_again_47 : decode cX9_again 47 = .ok (.iaload, 1) := by decide +kernel
theorem dX9_again_48 : decode cX9_again 48 = .ok (.iastore, 1) := by decide +kernel
theorem dX9_again_49 : decode cX9_again 49 = .ok (.iinc 2 1, 3) := by decide +kernel
theorem dX9_again_52 : decode cX9_again 52 = .ok (.goto (-26), 3) := by decide +kernel
theorem dX9_again_55 : decode cX9_again 55 = .ok (.aload_n 0, 1) := by decide +kernel
theorem dX9_again_56 : decode cX9_again 56 = .ok (.iconst 0, 1) := by decide +kernel
theorem dX9_again_57 : decode cX9_again 57 = .ok (.putfield 172, 3) := by decide +kernel
theorem dX9_again_60 : decode cX9_again 60 = .ok (.aload_n 0, 1) := by decide +kernel
theorem dX9_again_61 : decode cX9_again 61 = .ok (.getfield 7, 3) := by decide +kernel
theorem dX9_again_64 : decode cX9_again 64 = .ok (.invokestatic 175, 3) := by decide +kernel
theorem dX9_again_67 : decode cX9_again 67 = .ok (.ireturn, 1) := by decide +kernel
theorem dX9_isSame_0 : decode cX9_isSame 0 = .ok (.aload_n 0, 1) := by decide +kernel
theorem dX9_isSame_1 : decode cX9_isSame 1 = .ok (.getfield 7, 3) := by decide +kernel
theorem dX9_isSame_4 : decode cX9_isSame 4 = .ok (.iload_n 1, 1) := by decide +kernel
theorem dX9_isSame_5 : decode cX9_isSame 5 = .ok (.iaload, 1) := by decide +kernel
theorem dX9_isSame_6 : decode cX9_isSame 6 = .ok (.bipush (-9), 2) := by decide +kernel
theorem dX9_isSame_8 : decode cX9_isSame 8 = .ok (.if_icmp .eq 36, 3) := by decide +kernel
theorem dX9_isSame_11 : decode cX9_isSame 11 = .ok (.aload_n 0, 1) := by decide +kernel
theorem dX9_isSame_12 : decode cX9_isSame 12 = .ok (.getfield 13, 3) := by decide +kernel
theorem dX9_isSame_15 : decode cX9_isSame 15 = .ok (.iload_n 1, 1) := by decide +kernel
theorem dX9_isSame_16 : decode cX9_isSame 16 = .ok (.iaload, 1) := by decide +kernel
theorem dX9_isSame_17 : decode cX9_isSame 17 = .ok (.bipush (-9), 2) := by decide +kernel
theorem dX9_isSame_19 : decode cX9_isSame 19 = .ok (.if_icmp .eq 25, 3) := by decide +kernel
theorem dX9_isSame_22 : decode cX9_isSame 22 = .ok (.aload_n 0, 1) := by decide +kernel
theorem dX9_isSame_23 : decode cX9_isSame 23 = .ok (.getfield 47, 3) := by decide +kernel
theorem dX9_isSame_26 : decode cX9_isSame 26 = .ok (.iload_n 1, 1) := by decide +kernel
theorem dX9_isSame_27 : decode cX9_isSame 27 = .ok (.iaload, 1) := by decide +kernel
theorem dX9_isSame_28 : decode cX9_isSame 28 = .ok (.aload_n 0, 1) := by decide +kernel
theorem dX9_isSame_29 : decode cX9_isSame 29 = .ok (.getfield 47, 3) := by decide +kernel
theorem dX9_isSame_32 : decode cX9_isSame 32 = .ok (.bipush 100, 2) := by decide +kernel
theorem dX9_isSame_34 : decode cX9_isSame 34 = .ok (.iload_n 1, 1) := by decide +kernel
theorem dX9_isSame_35 : decode cX9_isSame 35 = .ok (.iadd, 1) := by decide +kernel
theorem dX9_isSame_36 : decode cX9_isSame 36 = .ok (.iaload, 1) := by decide +kernel
theorem dX9_isSame_37 : decode cX9_isSame 37 = .ok (.if_icmp .ne 7, 3) := by decide +kernel
theorem dX9_isSame_40 : decode cX9_isSame 40 = .ok (.iconst 1, 1) := by decide +kernel
theorem dX9_isSame_41 : decode cX9_isSame 41 = .ok (.goto 4, 3) := by decide +kernel
theorem dX9_isSame_44 : decode cX9_isSame 44 = .ok (.iconst 0, 1) := by decide +kernel
theorem dX9_isSame_45 : decode cX9_isSame 45 = .ok (.ireturn, 1) := by decide +kernel
