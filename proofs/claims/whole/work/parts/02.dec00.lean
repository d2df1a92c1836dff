theorem dX0_init_0 : decode cX0_init 0 = .ok (.aload_n 0, 1) := by decide +kernel
theorem dX0_init_1 : decode cX0_init 1 = .ok (.invokespecial 3, 3) := by decide +kernel
theorem dX0_init_4 : decode cX0_init 4 = .ok (.aload_n 0, 1) := by decide +kernel
theorem dX0_init_5 : decode cX0_init 5 = .ok (.bipush 14, 2) := by decide +kernel
theorem dX0_init_7 : decode cX0_init 7 = .ok (.anewarray 9, 3) := by decide +kernel
theorem dX0_init_10 : decode cX0_init 10 = .ok (.putfield 11, 3) := by decide +kernel
theorem dX0_init_13 : decode cX0_init 13 = .ok (.iconst 0, 1) := by decide +kernel
theorem dX0_init_14 : decode cX0_init 14 = .ok (.istore_n 1, 1) := by decide +kernel
theorem dX0_init_15 : decode cX0_init 15 = .ok (.iload_n 1, 1) := by decide +kernel
theorem dX0_init_16 : decode cX0_init 16 = .ok (.bipush 14, 2) := by decide +kernel
theorem dX0_init_18 : decode cX0_init 18 = .ok (.if_icmp .ge 22, 3) := by decide +kernel
theorem dX0_init_21 : decode cX0_init 21 = .ok (.aload_n 0, 1) := by decide +kernel
theorem dX0_init_22 : decode cX0_init 22 = .ok (.getfield 11, 3) := by decide +kernel
theorem dX0_init_25 : decode cX0_init 25 = .ok (.iload_n 1, 1) := by decide +kernel
theorem dX0_init_26 : decode cX0_init 26 = .ok (.new 9, 3) := by decide +kernel
theorem dX0_init_29 : decode cX0_init 29 = .ok (.dup, 1) := by decide +kernel
theorem dX0_init_30 : decode cX0_init 30 = .ok (.invokespecial 17, 3) := by decide +kernel
theorem dX0_init_33 : decode cX0_init 33 = .ok (.aastore, 1) := by decide +kernel
theorem dX0_init_34 : decode cX0_init 34 = .ok (.iinc 1 1, 3) := by decide +kernel
theorem dX0_init_37 : decode cX0_init 37 = .ok (.goto (-22), 3) := by decide +kernel
theorem dX0_init_40 : decode cX0_init 40 = .ok (.return_, 1) := by decide +kernel
theorem dX0_count_0 : decode cX0_count 0 = .ok (.aload_n 0, 1) := by decide +kernel
theorem dX0_count_1 : decode cX0_count 1 = .ok (.getfield 18, 3) := by decide +kernel
theorem dX0_count_4 : decode cX0_count 4 = .ok (.ireturn, 1) := by decide +kernel
theorem dX0_note_0 : decode cX0_note 0 = .ok (.aload_n 0, 1) := by decide +kernel
theorem dX0_note_1 : decode cX0_note 1 = .ok (.getfield 18, 3) := by decide +kernel
theorem dX0_note_4 : decode cX0_note 4 = .ok (.bipush 14, 2) := by decide +kernel
theorem dX0_note_6 : decode cX0_note 6 = .ok (.if_icmp .ne 26, 3) := by decide +kernel
theorem dX0_note_9 : decode cX0_note 9 = .ok (.aload_n 0, 1) := by decide +kernel
theorem dX0_note_10 : decode cX0_note 10 = .ok (.aload_n 0, 1) := by decide +kernel
theorem dX0_note_11 : decode cX0_note 11 = .ok (.getfield 22, 3) := by decide +kernel
theorem dX0_note_14 : decode cX0_note 14 = .ok (.iconst 1, 1) := by decide +kernel
theorem dX0_note_15 : decode cX0_note 15 = .ok (.iadd, 1) := by decide +kernel
theorem dX0_note_16 : decode cX0_note 16 = .ok (.bipush 14, 2) := by decide +kernel
theorem dX0_note_18 : decode cX0_note 18 = .ok (.irem, 1) := by decide +kernel
theorem dX0_note_19 : decode cX0_note 19 = .ok (.putfield 22, 3) := by decide +kernel
theorem dX0_note_22 : decode cX0_note 22 = .ok (.aload_n 0, 1) := by decide +kernel
theorem dX0_note_23 : decode cX0_note 23 = .ok (.dup, 1) := by decide +kernel
theorem dX0_note_24 : decode cX0_note 24 = .ok (.getfield 18, 3) := by decide +kernel
theorem dX0_note_27 : decode cX0_note 27 = .ok (.iconst 1, 1) := by decide +kernel
theorem dX0_note_28 : decode cX0_note 28 = .ok (.isub, 1) := by decide +kernel
theorem dX0_note_29 : decode cX0_note 29 = .ok (.putfield 18, 3) := by decide +kernel
theorem dX0_note_32 : decode cX0_note 32 = .ok (.aload_n 0, 1) := by decide +kernel
theorem dX0_note_33 : decode cX0_note 33 = .ok (.aload_n 0, 1) := by decide +kernel
theorem dX0_note_34 : decode cX0_note 34 = .ok (.getfield 18, 3) := by decide +kernel
theorem dX0_note_37 : decode cX0_note 37 = .ok (.invokevirtual 25, 3) := by decide +kernel
theorem dX0_note_40 : decode cX0_note 40 = .ok (.aload_n 1, 1) := by decide +kernel
theorem dX0_note_41 : decode cX0_note 41 = .ok (.invokevirtual 29, 3) := by decide +kernel
theorem dX0_note_44 : decode cX0_note 44 = .ok (.aload_n 0, 1) := by decide +kernel
theorem dX0_note_45 : decode cX0_note 45 = .ok (.dup, 1) := by decide +kernel
theorem dX0_note_46 : decode cX0_note 46 = .ok (.getfield 18, 3) := by decide +kernel
theorem dX0_note_49 : decode cX0_note 49 = .ok (.iconst 1, 1) := by decide +kernel
theorem dX0_note_50 : decode cX0_note 50 = .ok (.iadd, 1) := by decide +kernel
theorem dX0_note_51 : decode cX0_note 51 = .ok (.putfield 18, 3) := by decide +kernel
theorem dX0_note_54 : decode cX0_note 54 = .ok (.return_, 1) := by decide +kernel
theorem dX0_takeBack_0 : decode cX0_takeBack 0 = .ok (.aload_n 0, 1) := by decide +kernel
theorem dX0_takeBack_1 : decode cX0_takeBack 1 = .ok (.getfield 18, 3) := by decide +kernel
theorem dX0_takeBack_4 : decode cX0_takeBack 4 = .ok (.ifCond .le 25, 3) := by decide +kernel
theorem dX0_takeBack_7 : decode cX0_takeBack 7 = .ok (.aload_n 0, 1) := by decide +kernel
theorem dX0_takeBack_8 : decode cX0_takeBack 8 = .ok (.dup, 1) := by decide +kernel
theorem dX0_takeBack_9 : decode cX0_takeBack 9 = .ok (.getfield 18, 3) := by decide +kernel
theorem dX0_takeBack_12 : decode cX0_takeBack 12 = .ok (.iconst 1, 1) := by decide +kernel
theorem dX0_takeBack_13 : decode cX0_takeBack 13 = .ok (.isub, 1) := by decide +kernel
theorem dX0_takeBack_14 : decode cX0_takeBack 14 = .ok (.putfield 18, 3) := by decide +kernel
theorem dX0_takeBack_17 : decode cX0_takeBack 17 = .ok (.aload_n 1, 1) := by decide +kernel
theorem dX0_takeBack_18 : decode cX0_takeBack 18 = .ok (.aload_n 0, 1) := by decide +kernel
theorem dX0_takeBack_19 : decode cX0_takeBack 19 = .ok (.aload_n 0, 1) := by decide +kernel
theorem dX0_takeBack_20 : decode cX0_takeBack 20 = .ok (.getfield 18, 3) := by decide +kernel
theorem dX0_takeBack_23 : decode cX0_takeBack 23 = .ok (.invokevirtual 25, 3) := by decide +kernel
theorem dX0_takeBack_26 : decode cX0_takeBack 26 = .ok (.invokevirtual 29, 3) := by decide +kernel
theorem dX0_takeBack_29 : decode cX0_takeBack 29 = .ok (.return_, 1) := by decide +kernel
theorem dX0_forgetAll_0 : decode cX0_forgetAll 0 = .ok (.aload_n 0, 1) := by decide +kernel
theorem dX0_forgetAll_1 : decode cX0_forgetAll 1 = .ok (.iconst 0, 1) := by decide +kernel
theorem dX0_forgetAll_2 : decode cX0_forgetAll 2 = .ok (.putfield 18, 3) := by decide +kernel
theorem dX0_forgetAll_5 : decode cX0_forgetAll 5 = .ok (.return_, 1) := by decide +kernel
theorem dX0_pairsAt_0 : decode cX0_pairsAt 0 = .ok (.aload_n 0, 1) := by decide +kernel
theorem dX0_pairsAt_1 : decode cX0_pairsAt 1 = .ok (.getfield 11, 3) := by decide +kernel
theorem dX0_pairsAt_4 : decode cX0_pairsAt 4 = .ok (.aload_n 0, 1) := by decide +kernel
theorem dX0_pairsAt_5 : decode cX0_pairsAt 5 = .ok (.getfield 22, 3) := by decide +kernel
theorem dX0_pairsAt_8 : decode cX0_pairsAt 8 = .ok (.iload_n 1, 1) := by decide +kernel
theorem dX0_pairsAt_9 : decode cX0_pairsAt 9 = .ok (.iadd, 1) := by decide +kernel
theorem dX0_pairsAt_10 : decode cX0_pairsAt 10 = .ok (.bipush 14, 2) := by decide +kernel
theorem dX0_pairsAt_12 : decode cX0_pairsAt 12 = .ok (.invokestatic 33, 3) := by decide +kernel
theorem dX0_pairsAt_15 : decode cX0_pairsAt 15 = .ok (.aaload, 1) := by decide +kernel
theorem dX0_pairsAt_16 : decode cX0_pairsAt 16 = .ok (.areturn, 1) := by decide +kernel
theorem dX1_init_0 : decode cX1_init 0 = .ok (.aload_n 0, 1) := by decide +kernel
theorem dX1_init_1 : decode cX1_init 1 = .ok (.invokespecial 3, 3) := by decide +kernel
theorem dX1_init_4 : decode cX1_init 4 = .ok (.aload_n 0, 1) := by decide +kernel
theorem dX1_init_5 : decode cX1_init 5 = .ok (.bipush 100, 2) := by decide +kernel
theorem dX1_init_7 : decode cX1_init 7 = .ok (.newarray .int, 2) := by decide +kernel
theorem dX1_init_9 : decode cX1_init 9 = .ok (.putfield 9, 3) := by decide +kernel
theorem dX1_init_12 : decode cX1_init 12 = .ok (.return_, 1) := by decide +kernel
theorem dX1_count_0 : decode cX1_count 0 = .ok (.aload_n 0, 1) := by decide +kernel
theorem dX1_count_1 : decode cX1_count 1 = .ok (.getfield 15, 3) := by decide +kernel
theorem dX1_count_4 : decode cX1_count 4 = .ok (.ireturn, 1) := by decide +kernel
theorem dX1_isFull_0 : decode cX1_isFull 0 = .ok (.aload_n 0, 1) := by decide +kernel
theorem dX1_isFull_1 : decode cX1_isFull 1 = .ok (.getfield 15, 3) := by decide +kernel
theorem dX1_isFull_4 : decode cX1_isFull 4 = .ok (.bipush 100, 2) := by decide +kernel
theorem dX1_isFull_6 : decode cX1_isFull 6 = .ok (.if_icmp .lt 7, 3) := by decide +kernel
theorem dX1_isFull_9 : decode cX1_isFull 9 = .ok (.iconst 1, 1) := by decide +kernel
theorem dX1_isFull_10 : decode cX1_isFull 10 = .ok (.goto 4, 3) := by decide +kernel
theorem dX1_isFull_13 : decode cX1_isFull 13 = .ok (.iconst 0, 1) := by decide +kernel
theorem dX1_isFull_14 : decode cX1_isFull 14 = .ok (.ireturn, 1) := by decide +kernel
theorem dX1_hasPlace_0 : decode cX1_hasPlace 0 = .ok (.iload_n 1, 1) := by decide +kernel
theorem dX1_hasPlace_1 : decode cX1_hasPlace 1 = .ok (.ifCond .lt 15, 3) := by decide +kernel
theorem dX1_hasPlace_4 : decode cX1_hasPlace 4 = .ok (.iload_n 1, 1) := by decide +kernel
theorem dX1_hasPlace_5 : decode cX1_hasPlace 5 = .ok (.aload_n 0, 1) := by decide +kernel
theorem dX1_hasPlace_6 : decode cX1_hasPlace 6 = .ok (.getfield 15, 3) := by decide +kernel
theorem dX1_hasPlace_9 : decode cX1_hasPlace 9 = .ok (.if_icmp .ge 7, 3) := by decide +kernel
theorem dX1_hasPlace_12 : decode cX1_hasPlace 12 = .ok (.iconst 1, 1) := by decide +kernel
theorem dX1_hasPlace_13 : decode cX1_hasPlace 13 = .ok (.goto 4, 3) := by decide +kernel
theorem dX1_hasPlace_16 : decode cX1_hasPlace 16 = .ok (.iconst 0, 1) := by decide +kernel
theorem dX1_hasPlace_17 : decode cX1_hasPlace 17 = .ok (.ireturn, 1) := by decide +kernel
theorem dX1_itemAt_0 : decode cX1_itemAt 0 = .ok (.aload_n 0, 1) := by decide +kernel
theorem dX1_itemAt_1 : decode cX1_itemAt 1 = .ok (.iload_n 1, 1) := by decide +kernel
theorem dX1_itemAt_2 : decode cX1_itemAt 2 = .ok (.invokevirtual 19, 3) := by decide +kernel
theorem dX1_itemAt_5 : decode cX1_itemAt 5 = .ok (.ifCond .eq 12, 3) := by decide +kernel
theorem dX1_itemAt_8 : decode cX1_itemAt 8 = .ok (.aload_n 0, 1) := by decide +kernel
theorem dX1_itemAt_9 : decode cX1_itemAt 9 = .ok (.getfield 9, 3) := by decide +kernel
theorem dX1_itemAt_12 : decode cX1_itemAt 12 = .ok (.iload_n 1, 1) := by decide +kernel
theorem dX1_itemAt_13 : decode cX1_itemAt 13 = .ok (.iaload, 1) := by decide +kernel
theorem dX1_itemAt_14 : decode cX1_itemAt 14 = .ok (.goto 4, 3) := by decide +kernel
theorem dX1_itemAt_17 : decode cX1_itemAt 17 = .ok (.iconst 0, 1) := by decide +kernel
theorem dX1_itemAt_18 : decode cX1_itemAt 18 = .ok (.ireturn, 1) := by decide +kernel
theorem dX1_add_0 : decode cX1_add 0 = .ok (.aload_n 0, 1) := by decide +kernel
theorem dX1_add_1 : decode cX1_add 1 = .ok (.invokevirtual 23, 3) := by decide +kernel
theorem dX1_add_4 : decode cX1_add 4 = .ok (.ifCond .ne 23, 3) := by decide +kernel
theorem dX1_add_7 : decode cX1_add 7 = .ok (.aload_n 0, 1) := by decide +kernel
theorem dX1_add_8 : decode cX1_add 8 = .ok (.getfield 9, 3) := by decide +kernel
theorem dX1_add_11 : decode cX1_add 11 = .ok (.aload_n 0, 1) := by decide +kernel
theorem dX1_add_12 : decode cX1_add 12 = .ok (.getfield 15, 3) := by decide +kernel
theorem dX1_add_15 : decode cX1_add 15 = .ok (.iload_n 1, 1) := by decide +kernel
theorem dX1_add_16 : decode cX1_add 16 = .ok (.iastore, 1) := by decide +kernel
theorem dX1_add_17 : decode cX1_add 17 = .ok (.aload_n 0, 1) := by decide +kernel
theorem dX1_add_18 : decode cX1_add 18 = .ok (.dup, 1) := by decide +kernel
theorem dX1_add_19 : decode cX1_add 19 = .ok (.getfield 15, 3) := by decide +kernel
theorem dX1_add_22 : decode cX1_add 22 = .ok (.iconst 1, 1) := by decide +kernel
theorem dX1_add_23 : decode cX1_add 23 = .ok (.iadd, 1) := by decide +kernel
theorem dX1_add_24 : decode cX1_add 24 = .ok (.putfield 15, 3) := by decide +kernel
theorem dX1_add_27 : decode cX1_add 27 = .ok (.return_, 1) := by decide +kernel
theorem dX1_replace_0 : decode cX1_replace 0 = .ok (.aload_n 0, 1) := by decide +kernel
theorem dX1_replace_1 : decode cX1_replace 1 = .ok (.iload_n 1, 1) := by decide +kernel
theorem dX1_replace_2 : decode cX1_replace 2 = .ok (.invokevirtual 19, 3) := by decide +kernel
theorem dX1_replace_5 : decode cX1_replace 5 = .ok (.ifCond .eq 10, 3) := by decide +kernel
theorem dX1_replace_8 : decode cX1_replace 8 = .ok (.aload_n 0, 1) := by decide +kernel
theorem dX1_replace_9 : decode cX1_replace 9 = .ok (.getfield 9, 3) := by decide +kernel
theorem dX1_replace_12 : decode cX1_replace 12 = .ok (.iload_n 1, 1) := by decide +kernel
theorem dX1_replace_13 : decode cX1_replace 13 = .ok (.iload_n 2, 1) := by decide +kernel
theorem dX1_replace_14 : decode cX1_replace 14 = .ok (.iastore, 1) := by decide +kernel
theorem dX1_replace_15 : decode cX1_replace 15 = .ok (.return_, 1) := by decide +kernel
theorem dX1_shorten_0 : decode cX1_shorten 0 = .ok (.iload_n 1, 1) := by decide +kernel
theorem dX1_shorten_1 : decode cX1_shorten 1 = .ok (.ifCond .lt 16, 3) := by decide +kernel
theorem dX1_shorten_4 : decode cX1_shorten 4 = .ok (.iload_n 1, 1) := by decide +kernel
theorem dX1_shorten_5 : decode cX1_shorten 5 = .ok (.aload_n 0, 1) := by decide +kernel
theorem dX1_shorten_6 : decode cX1_shorten 6 = .ok (.getfield 15, 3) := by decide +kernel
theorem dX1_shorten_9 : decode cX1_shorten 9 = .ok (.if_icmp .ge 8, 3) := by decide +kernel
theorem dX1_shorten_12 : decode cX1_shorten 12 = .ok (.aload_n 0, 1) := by decide +kernel
theorem dX1_shorten_13 : decode cX1_shorten 13 = .ok (.iload_n 1, 1) := by decide +kernel
theorem dX1_shorten_14 : decode cX1_shorten 14 = .ok (.putfield 15, 3) := by decide +kernel
theorem dX1_shorten_17 : decode cX1_shorten 17 = .ok (.return_, 1) := by decide +kernel
theorem dX1_countDigests_0 : decode cX1_countDigests 0 = .ok (.iconst 0, 1) := by decide +kernel
theorem dX1_countDigests_1 : decode cX1_countDigests 1 = .ok (.istore_n 1, 1) := by decide +kernel
theorem dX1_countDigests_2 : decode cX1_countDigests 2 = .ok (.iconst 0, 1) := by decide +kernel
theorem dX1_countDigests_3 : decode cX1_countDigests 3 = .ok (.istore_n 2, 1) := by decide +kernel
theorem dX1_countDigests_4 : decode cX1_countDigests 4 = .ok (.iload_n 2, 1) := by decide +kernel
theorem dX1_countDigests_5 : decode cX1_countDigests 5 = .ok (.aload_n 0, 1) := by decide +kernel
theorem dX1_countDigests_6 : decode cX1_countDigests 6 = .ok (.getfield 15, 3) := by decide +kernel
theorem dX1_countDigests_9 : decode cX1_countDigests 9 = .ok (.if_icmp .ge 20, 3) := by decide +kernel
theorem dX1_countDigests_12 : decode cX1_countDigests 12 = .ok (.aload_n 0, 1) := by decide +kernel
theorem dX1_countDigests_13 : decode cX1_countDigests 13 = .ok (.iload_n 2, 1) := by decide +kernel
theorem dX1_countDigests_14 : decode cX1_countDigests 14 = .ok (.invokevirtual 27, 3) := by decide +kernel
theorem dX1_countDigests_17 : decode cX1_countDigests 17 = .ok (.ifCond .le 6, 3) := by decide +kernel
theorem dX1_countDigests_20 : decode cX1_countDigests 20 = .ok (.iinc 1 1, 3) := by decide +kernel
theorem dX1_countDigests_23 : decode cX1_countDigests 23 = .ok (.iinc 2 1, 3) := by decide +kernel
theorem dX1_countDigests_26 : decode cX1_countDigests 26 = .ok (.goto (-22), 3) := by decide +kernel
theorem dX1_countDigests_29 : decode cX1_countDigests 29 = .ok (.iload_n 1, 1) := by decide +kernel
theorem dX1_countDigests_30 : decode cX1_countDigests 30 = .ok (.ireturn, 1) := by decide +kernel
theorem dX1_countNodes_0 : decode cX1_countNodes 0 = .ok (.iconst 0, 1) := by decide +kernel
theorem dX1_countNodes_1 : decode cX1_countNodes 1 = .ok (.istore_n 1, 1) := by decide +kernel
theorem dX1_countNodes_2 : decode cX1_countNodes 2 = .ok (.iconst 0, 1) := by decide +kernel
theorem dX1_countNodes_3 : decode cX1_countNodes 3 = .ok (.istore_n 2, 1) := by decide +kernel
theorem dX1_countNodes_4 : decode cX1_countNodes 4 = .ok (.iload_n 2, 1) := by decide +kernel
theorem dX1_countNodes_5 : decode cX1_countNodes 5 = .ok (.aload_n 0, 1) := by decide +kernel
theorem dX1_countNodes_6 : decode cX1_countNodes 6 = .ok (.getfield 15, 3) := by decide +kernel
theorem dX1_countNodes_9 : decode cX1_countNodes 9 = .ok (.if_icmp .ge 20, 3) := by decide +kernel
theorem dX1_countNodes_12 : decode cX1_countNodes 12 = .ok (.aload_n 0, 1) := by decide +kernel
theorem dX1_countNodes_13 : decode cX1_countNodes 13 = .ok (.iload_n 2, 1) := by decide +kernel
theorem dX1_countNodes_14 : decode cX1_countNodes 14 = .ok (.invokevirtual 27, 3) := by decide +kernel
theorem dX1_countNodes_17 : decode cX1_countNodes 17 = .ok (.ifCond .ge 6, 3) := by decide +kernel
theorem dX1_countNodes_20 : decode cX1_countNodes 20 = .ok (.iinc 1 1, 3) := by decide +kernel
theorem dX1_countNodes_23 : decode cX1_countNodes 23 = .ok (.iinc 2 1, 3) := by decide +kernel
theorem dX1_countNodes_26 : decode cX1_countNodes 26 = .ok (.goto (-22), 3) := by decide +kernel
theorem dX1_countNodes_29 : decode cX1_countNodes 29 = .ok (.iload_n 1, 1) := by decide +kernel
theorem dX1_countNodes_30 : decode cX1_countNodes 30 = .ok (.ireturn, 1) := by decide +kernel
theorem dX2_init_0 : decode cX2_init 0 = .ok (.aload_n 0, 1) := by decide +kernel
theorem dX2_init_1 : decode cX2_init 1 = .ok (.invokespecial 3, 3) := by decide +kernel
theorem dX2_init_4 : decode cX2_init 4 = .ok (.aload_n 0, 1) := by decide +kernel
theorem dX2_init_5 : decode cX2_init 5 = .ok (.bipush 100, 2) := by decide +kernel
theorem dX2_init_7 : decode cX2_init 7 = .ok (.newarray .int, 2) := by decide +kernel
theorem dX2_init_9 : decode cX2_init 9 = .ok (.putfield 9, 3) := by decide +kernel
theorem dX2_init_12 : decode cX2_init 12 = .ok (.aload_n 0, 1) := by decide +kernel
theorem dX2_init_13 : decode cX2_init 13 = .ok (.getfield 9, 3) := by decide +kernel
theorem dX2_init_16 : decode cX2_init 16 = .ok (.bipush (-9), 2) := by decide +kernel
theorem dX2_init_18 : decode cX2_init 18 = .ok (.invokestatic 15, 3) := by decide +kernel
theorem dX2_init_21 : decode cX2_init 21 = .ok (.return_, 1) := by decide +kernel
theorem dX2_count_0 : decode cX2_count 0 = .ok (.aload_n 0, 1) := by decide +kernel
theorem dX2_count_1 : decode cX2_count 1 = .ok (.getfield 21, 3) := by decide +kernel
theorem dX2_count_4 : decode cX2_count 4 = .ok (.ireturn, 1) := by decide +kernel
theorem dX2_valueOf_0 : decode cX2_valueOf 0 = .ok (.iload_n 1, 1) := by decide +kernel
theorem dX2_valueOf_1 : decode cX2_valueOf 1 = .ok (.invokestatic 25, 3) := by decide +kernel
theorem dX2_valueOf_4 : decode cX2_valueOf 4 = .ok (.ifCond .eq 12, 3) := by decide +kernel
theorem dX2_valueOf_7 : decode cX2_valueOf 7 = .ok (.aload_n 0, 1) := by decide +kernel
theorem dX2_valueOf_8 : decode cX2_valueOf 8 = .ok (.getfield 9, 3) := by decide +kernel
theorem dX2_valueOf_11 : decode cX2_valueOf 11 = .ok (.iload_n 1, 1) := by decide +kernel
theorem dX2_valueOf_12 : decode cX2_valueOf 12 = .ok (.iaload, 1) := by decide +kernel
theorem dX2_valueOf_13 : decode cX2_valueOf 13 = .ok (.goto 5, 3) := by decide +kernel
theorem dX2_valueOf_16 : decode cX2_valueOf 16 = .ok (.bipush (-9), 2) := by decide +kernel
theorem dX2_valueOf_18 : decode cX2_valueOf 18 = .ok (.ireturn, 1) := by decide +kernel
theorem dX2_has_0 : decode cX2_has 0 = .ok (.aload_n 0, 1) := by decide +kernel
theorem dX2_has_1 : decode cX2_has 1 = .ok (.iload_n 1, 1) := by decide +kernel
theorem dX2_has_2 : decode cX2_has 2 = .ok (.invokevirtual 29, 3) := by decide +kernel
theorem dX2_has_5 : decode cX2_has 5 = .ok (.bipush (-9), 2) := by decide +kernel
theorem dX2_has_7 : decode cX2_has 7 = .ok (.if_icmp .eq 7, 3) := by decide +kernel
theorem dX2_has_10 : decode cX2_has 10 = .ok (.iconst 1, 1) := by decide +kernel
theorem dX2_has_11 : decode cX2_has 11 = .ok (.goto 4, 3) := by decide +kernel
theorem dX2_has_14 : decode cX2_has 14 = .ok (.iconst 0, 1) := by decide +kernel
theorem dX2_has_15 : decode cX2_has 15 = .ok (.ireturn, 1) := by decide +kernel
theorem dX2_hasRoomFor_0 : decode cX2_hasRoomFor 0 = .ok (.aload_n 0, 1) := by decide +kernel
theorem dX2_hasRoomFor_1 : decode cX2_hasRoomFor 1 = .ok (.iload_n 1, 1) := by decide +kernel
theorem dX2_hasRoomFor_2 : decode cX2_hasRoomFor 2 = .ok (.invokevirtual 33, 3) := by decide +kernel
theorem dX2_hasRoomFor_5 : decode cX2_hasRoomFor 5 = .ok (.ifCond .ne 12, 3) := by decide +kernel
theorem dX2_hasRoomFor_8 : decode cX2_hasRoomFor 8 = .ok (.aload_n 0, 1) := by decide +kernel
theorem dX2_hasRoomFor_9 : decode cX2_hasRoomFor 9 = .ok (.getfield 21, 3) := by decide +kernel
theorem dX2_hasRoomFor_12 : decode cX2_hasRoomFor 12 = .ok (.bipush 40, 2) := by decide +kernel
theorem dX2_hasRoomFor_14 : decode cX2_hasRoomFor 14 = .ok (.if_icmp .ge 7, 3) := by decide +kernel
theorem dX2_hasRoomFor_17 : decode cX2_hasRoomFor 17 = .ok (.iconst 1, 1) := by decide +kernel
theorem dX2_hasRoomFor_18 : decode cX2_hasRoomFor 18 = .ok (.goto 4, 3) := by decide +kernel
theorem dX2_hasRoomFor_21 : decode cX2_hasRoomFor 21 = .ok (.iconst 0, 1) := by decide +kernel
theorem dX2_hasRoomFor_22 : decode cX2_hasRoomFor 22 = .ok (.ireturn, 1) := by decide +kernel
theorem dX2_give_0 : decode cX2_give 0 = .ok (.iload_n 1, 1) := by decide +kernel
theorem dX2_give_1 : decode cX2_give 1 = .ok (.invokestatic 25, 3) := by decide +kernel
theorem dX2_give_4 : decode cX2_give 4 = .ok (.ifCond .eq 31, 3) := by decide +kernel
theorem dX2_give_7 : decode cX2_give 7 = .ok (.aload_n 0, 1) := by decide +kernel
theorem dX2_give_8 : decode cX2_give 8 = .ok (.getfield 9, 3) := by decide +kernel
theorem dX2_give_11 : decode cX2_give 11 = .ok (.iload_n 1, 1) := by decide +kernel
theorem dX2_give_12 : decode cX2_give 12 = .ok (.iaload, 1) := by decide +kernel
theorem dX2_give_13 : decode cX2_give 13 = .ok (.bipush (-9), 2) := by decide +kernel
theorem dX2_give_15 : decode cX2_give 15 = .ok (.if_icmp .ne 13, 3) := by decide +kernel
theorem dX2_give_18 : decode cX2_give 18 = .ok (.aload_n 0, 1) := by decide +kernel
theorem dX2_give_19 : decode cX2_give 19 = .ok (.dup, 1) := by decide +kernel
theorem dX2_give_20 : decode cX2_give 20 = .ok (.getfield 21, 3) := by decide +kernel
theorem dX2_give_23 : decode cX2_give 23 = .ok (.iconst 1, 1) := by decide +kernel
theorem dX2_give_24 : decode cX2_give 24 = .ok (.iadd, 1) := by decide +kernel
theorem dX2_give_25 : decode cX2_give 25 = .ok (.putfield 21, 3) := by decide +kernel
theorem dX2_give_28 : decode cX2_give 28 = .ok (.aload_n 0, 1) := by decide +kernel
theorem dX2_give_29 : decode cX2_give 29 = .ok (.getfield 9, 3) := by decide +kernel
theorem dX2_give_32 : decode cX2_give 32 = .ok (.iload_n 1, 1) := by decide +kernel
theorem dX2_give_33 : decode cX2_give 33 = .ok (.iload_n 2, 1) := by decide +kernel
theorem dX2_give_34 : decode cX2_give 34 = .ok (.iastore, 1) := by decide +kernel
theorem dX2_give_35 : decode cX2_give 35 = .ok (.return_, 1) := by decide +kernel
theorem dX2_drop_0 : decode cX2_drop 0 = .ok (.aload_n 0, 1) := by decide +kernel
theorem dX2_drop_1 : decode cX2_drop 1 = .ok (.iload_n 1, 1) := by decide +kernel
theorem dX2_drop_2 : decode cX2_drop 2 = .ok (.invokevirtual 33, 3) := by decide +kernel
theorem dX2_drop_5 : decode cX2_drop 5 = .ok (.ifCond .eq 21, 3) := by decide +kernel
theorem dX2_drop_8 : decode cX2_drop 8 = .ok (.aload_n 0, 1) := by decide +kernel
theorem dX2_drop_9 : decode cX2_drop 9 = .ok (.dup, 1) := by decide +kernel
theorem dX2_drop_10 : decode cX2_drop 10 = .ok (.getfield 21, 3) := by decide +kernel
theorem dX2_drop_13 : decode cX2_drop 13 = .ok (.iconst 1, 1) := by decide +kernel
theorem dX2_drop_14 : decode cX2_drop 14 = .ok (.isub, 1) := by decide +kernel
theorem dX2_drop_15 : decode cX2_drop 15 = .ok (.putfield 21, 3) := by decide +kernel
theorem dX2_drop_18 : decode cX2_drop 18 = .ok (.aload_n 0, 1) := by decide +kernel
theorem dX2_drop_19 : decode cX2_drop 19 = .ok (.getfield 9, 3) := by decide +kernel
theorem dX2_drop_22 : decode cX2_drop 22 = .ok (.iload_n 1, 1) := by decide +kernel
theorem dX2_drop_23 : decode cX2_drop 23 = .ok (.bipush (-9), 2) := by decide +kernel
theorem dX2_drop_25 : decode cX2_drop 25 = .ok (.iastore, 1) := by decide +kernel
theorem dX2_drop_26 : decode cX2_drop 26 = .ok (.return_, 1) := by decide +kernel
theorem dX2_clear_0 : decode cX2_clear 0 = .ok (.aload_n 0, 1) := by decide +kernel
theorem dX2_clear_1 : decode cX2_clear 1 = .ok (.getfield 9, 3) := by decide +kernel
theorem dX2_clear_4 : decode cX2_clear 4 = .ok (.bipush (-9), 2) := by decide +kernel
theorem dX2_clear_6 : decode cX2_clear 6 = .ok (.invokestatic 15, 3) := by decide +kernel
theorem dX2_clear_9 : decode cX2_clear 9 = .ok (.aload_n 0, 1) := by decide +kernel
theorem dX2_clear_10 : decode cX2_clear 10 = .ok (.iconst 0, 1) := by decide +kernel
theorem dX2_clear_11 : decode cX2_clear 11 = .ok (.putfield 21, 3) := by decide +kernel
theorem dX2_clear_14 : decode cX2_clear 14 = .ok (.return_, 1) := by decide +kernel
theorem dX2_become_0 : decode cX2_become 0 = .ok (.aload_n 1, 1) := by decide +kernel
theorem dX2_become_1 : decode cX2_become 1 = .ok (.getfield 9, 3) := by decide +kernel
theorem dX2_become_4 : decode cX2_become 4 = .ok (.iconst 0, 1) := by decide +kernel
theorem dX2_become_5 : decode cX2_become 5 = .ok (.aload_n 0, 1) := by decide +kernel
theorem dX2_become_6 : decode cX2_become 6 = .ok (.getfield 9, 3) := by decide +kernel
theorem dX2_become_9 : decode cX2_become 9 = .ok (.iconst 0, 1) := by decide +kernel
theorem dX2_become_10 : decode cX2_become 10 = .ok (.bipush 100, 2) := by decide +kernel
theorem dX2_become_12 : decode cX2_become 12 = .ok (.invokestatic 36, 3) := by decide +kernel
theorem dX2_become_15 : decode cX2_become 15 = .ok (.aload_n 0, 1) := by decide +kernel
theorem dX2_become_16 : decode cX2_become 16 = .ok (.aload_n 1, 1) := by decide +kernel
theorem dX2_become_17 : decode cX2_become 17 = .ok (.getfield 21, 3) := by decide +kernel
theorem dX2_become_20 : decode cX2_become 20 = .ok (.putfield 21, 3) := by decide +kernel
theorem dX2_become_23 : decode cX2_become 23 = .ok (.return_, 1) := by decide +kernel
theorem dX2_countWithin_0 : decode cX2_countWithin 0 = .ok (.iconst 0, 1) := by decide +kernel
theorem dX2_countWithin_1 : decode cX2_countWithin 1 = .ok (.istore_n 3, 1) := by decide +kernel
theorem dX2_countWithin_2 : decode cX2_countWithin 2 = .ok (.iconst 0, 1) := by decide +kernel
theorem dX2_countWithin_3 : decode cX2_countWithin 3 = .ok (.istore 4, 2) := by decide +kernel
theorem dX2_countWithin_5 : decode cX2_countWithin 5 = .ok (.iload 4, 2) := by decide +kernel
theorem dX2_countWithin_7 : decode cX2_countWithin 7 = .ok (.bipush 100, 2) := by decide +kernel
theorem dX2_countWithin_9 : decode cX2_countWithin 9 = .ok (.if_icmp .ge 33, 3) := by decide +kernel
theorem dX2_countWithin_12 : decode cX2_countWithin 12 = .ok (.iload_n 1, 1) := by decide +kernel
theorem dX2_countWithin_13 : decode cX2_countWithin 13 = .ok (.iload 4, 2) := by decide +kernel
theorem dX2_countWithin_15 : decode cX2_countWithin 15 = .ok (.if_icmp .gt 21, 3) := by decide +kernel
theorem dX2_countWithin_18 : decode cX2_countWithin 18 = .ok (.iload 4, 2) := by decide +kernel
theorem dX2_countWithin_20 : decode cX2_countWithin 20 = .ok (.iload_n 2, 1) := by decide +kernel
theorem dX2_countWithin_21 : decode cX2_countWithin 21 = .ok (.if_icmp .gt 15, 3) := by decide +kernel
theorem dX2_countWithin_24 : decode cX2_countWithin 24 = .ok (.aload_n 0, 1) := by decide +kernel
theorem dX2_countWithin_25 : decode cX2_countWithin 25 = .ok (.iload 4, 2) := by decide +kernel
theorem dX2_countWithin_27 : decode cX2_countWithin 27 = .ok (.invokevirtual 33, 3) := by decide +kernel
theorem dX2_countWithin_30 : decode cX2_countWithin 30 = .ok (.ifCond .eq 6, 3) := by decide +kernel
theorem dX2_countWithin_33 : decode cX2_countWithin 33 = .ok (.iinc 3 1, 3) := by decide +kernel
theorem dX2_countWithin_36 : decode cX2_countWithin 36 = .ok (.iinc 4 1, 3) := by decide +kernel
theorem dX2_countWithin_39 : decode cX2_countWithin 39 = .ok (.goto (-34), 3) := by decide +kernel
theorem dX2_countWithin_42 : decode cX2_countWithin 42 = .ok (.iload_n 3, 1) := by decide +kernel
theorem dX2_countWithin_43 : decode cX2_countWithin 43 = .ok (.ireturn, 1) := by decide +kernel
theorem dX2_sumWithin_0 : decode cX2_sumWithin 0 = .ok (.iconst 0, 1) := by decide +kernel
theorem dX2_sumWithin_1 : decode cX2_sumWithin 1 = .ok (.istore_n 3, 1) := by decide +kernel
theorem dX2_sumWithin_2 : decode cX2_sumWithin 2 = .ok (.iconst 0, 1) := by decide +kernel
theorem dX2_sumWithin_3 : decode cX2_sumWithin 3 = .ok (.istore 4, 2) := by decide +kernel
theorem dX2_sumWithin_5 : decode cX2_sumWithin 5 = .ok (.iload 4, 2) := by decide +kernel
theorem dX2_sumWithin_7 : decode cX2_sumWithin 7 = .ok (.bipush 100, 2) := by decide +kernel
theorem dX2_sumWithin_9 : decode cX2_sumWithin 9 = .ok (.if_icmp .ge 40, 3) := by decide +kernel
theorem dX2_sumWithin_12 : decode cX2_sumWithin 12 = .ok (.iload_n 1, 1) := by decide +kernel
theorem dX2_sumWithin_13 : decode cX2_sumWithin 13 = .ok (.iload 4, 2) := by decide +kernel
theorem dX2_sumWithin_15 : decode cX2_sumWithin 15 = .ok (.if_icmp .gt 28, 3) := by decide +kernel
theorem dX2_sumWithin_18 : decode cX2_sumWithin 18 = .ok (.iload 4, 2) := by decide +kernel
theorem dX2_sumWithin_20 : decode cX2_sumWithin 20 = .ok (.iload_n 2, 1) := by decide +kernel
theorem dX2_sumWithin_21 : decode cX2_sumWithin 21 = .ok (.if_icmp .gt 22, 3) := by decide +kernel
theorem dX2_sumWithin_24 : decode cX2_sumWithin 24 = .ok (.aload_n 0, 1) := by decide +kernel
theorem dX2_sumWithin_25 : decode cX2_sumWithin 25 = .ok (.iload 4, 2) := by decide +kernel
theorem dX2_sumWithin_27 : decode cX2_sumWithin 27 = .ok (.invokevirtual 33, 3) := by decide +kernel
theorem dX2_sumWithin_30 : decode cX2_sumWithin 30 = .ok (.ifCond .eq 13, 3) := by decide +kernel
theorem dX2_sumWithin_33 : decode cX2_sumWithin 33 = .ok (.iload_n 3, 1) := by decide +kernel
theorem dX2_sumWithin_34 : decode cX2_sumWithin 34 = .ok (.aload_n 0, 1) := by decide +kernel
theorem dX2_sumWithin_35 : decode cX2_sumWithin 35 = .ok (.getfield 9, 3) := by decide +kernel
theorem dX2_sumWithin_38 : decode cX2_sumWithin 38 = .ok (.iload 4, 2) := by decide +kernel
theorem dX2_sumWithin_40 : decode cX2_sumWithin 40 = .ok (.iaload, 1) := by decide +kernel
theorem dX2_sumWithin_41 : decode cX2_sumWithin 41 = .ok (.iadd, 1) := by decide +kernel
theorem dX2_sumWithin_42 : decode cX2_sumWithin 42 = .ok (.istore_n 3, 1) := by decide +kernel
theorem dX2_sumWithin_43 : decode cX2_sumWithin 43 = .ok (.iinc 4 1, 3) := by decide +kernel
theorem dX2_sumWithin_46 : decode cX2_sumWithin 46 = .ok (.goto (-41), 3) := by decide +kernel
theorem dX2_sumWithin_49 : decode cX2_sumWithin 49 = .ok (.iload_n 3, 1) := by decide +kernel
theorem dX2_sumWithin_50 : decode cX2_sumWithin 50 = .ok (.ireturn, 1) := by decide +kernel
theorem dX2_greatestBelow_0 : decode cX2_greatestBelow 0 = .ok (.bipush (-9), 2) := by decide +kernel
theorem dX2_greatestBelow_2 : decode cX2_greatestBelow 2 = .ok (.istore_n 2, 1) := by decide +kernel
theorem dX2_greatestBelow_3 : decode cX2_greatestBelow 3 = .ok (.iconst 0, 1) := by decide +kernel
theorem dX2_greatestBelow_4 : decode cX2_greatestBelow 4 = .ok (.istore_n 3, 1) := by decide +kernel
theorem dX2_greatestBelow_5 : decode cX2_greatestBelow 5 = .ok (.iload_n 3, 1) := by decide +kernel
theorem dX2_greatestBelow_6 : decode cX2_greatestBelow 6 = .ok (.bipush 100, 2) := by decide +kernel
theorem dX2_greatestBelow_8 : decode cX2_greatestBelow 8 = .ok (.if_icmp .ge 24, 3) := by decide +kernel
theorem dX2_greatestBelow_11 : decode cX2_greatestBelow 11 = .ok (.iload_n 3, 1) := by decide +kernel
theorem dX2_greatestBelow_12 : decode cX2_greatestBelow 12 = .ok (.iload_n 1, 1) := by decide +kernel
theorem dX2_greatestBelow_13 : decode cX2_greatestBelow 13 = .ok (.if_icmp .ge 13, 3) := by decide +kernel
theorem dX2_greatestBelow_16 : decode cX2_greatestBelow 16 = .ok (.aload_n 0, 1) := by decide +kernel
theorem dX2_greatestBelow_17 : decode cX2_greatestBelow 17 = .ok (.iload_n 3, 1) := by decide +kernel
theorem dX2_greatestBelow_18 : decode cX2_greatestBelow 18 = .ok (.invokevirtual 33, 3) := by decide +kernel
theorem dX2_greatestBelow_21 : decode cX2_greatestBelow 21 = .ok (.ifCond .eq 5, 3) := by decide +kernel
theorem dX2_greatestBelow_24 : decode cX2_greatestBelow 24 = .ok (.iload_n 3, 1) := by decide +kernel
theorem dX2_greatestBelow_25 : decode cX2_greatestBelow 25 = .ok (.istore_n 2, 1) := by decide +kernel
theorem dX2_greatestBelow_26 : decode cX2_greatestBelow 26 = .ok (.iinc 3 1, 3) := by decide +kernel
theorem dX2_greatestBelow_29 : decode cX2_greatestBelow 29 = .ok (.goto (-24), 3) := by decide +kernel
theorem dX2_greatestBelow_32 : decode cX2_greatestBelow 32 = .ok (.iload_n 2, 1) := by decide +kernel
theorem dX2_greatestBelow_33 : decode cX2_greatestBelow 33 = .ok (.ireturn, 1) := by decide +kernel
theorem dX2_leastAbove_0 : decode cX2_leastAbove 0 = .ok (.iconst 0, 1) := by decide +kernel
theorem dX2_leastAbove_1 : decode cX2_leastAbove 1 = .ok (.istore_n 2, 1) := by decide +kernel
theorem dX2_leastAbove_2 : decode cX2_leastAbove 2 = .ok (.iload_n 2, 1) := by decide +kernel
theorem dX2_leastAbove_3 : decode cX2_leastAbove 3 = .ok (.bipush 100, 2) := by decide +kernel
theorem dX2_leastAbove_5 : decode cX2_leastAbove 5 = .ok (.if_icmp .ge 24, 3) := by decide +kernel
theorem dX2_leastAbove_8 : decode cX2_leastAbove 8 = .ok (.iload_n 2, 1) := by decide +kernel
theorem dX2_leastAbove_9 : decode cX2_leastAbove 9 = .ok (.iload_n 1, 1) := by decide +kernel
theorem dX2_leastAbove_10 : decode cX2_leastAbove 10 = .ok (.if_icmp .le 13, 3) := by decide +kernel
theorem dX2_leastAbove_13 : decode cX2_leastAbove 13 = .ok (.aload_n 0, 1) := by decide +kernel
theorem dX2_leastAbove_14 : decode cX2_leastAbove 14 = .ok (.iload_n 2, 1) := by decide +kernel
theorem dX2_leastAbove_15 : decode cX2_leastAbove 15 = .ok (.invokevirtual 33, 3) := by decide +kernel
theorem dX2_leastAbove_18 : decode cX2_leastAbove 18 = .ok (.ifCond .eq 5, 3) := by decide +kernel
theorem dX2_leastAbove_21 : decode cX2_leastAbove 21 = .ok (.iload_n 2, 1) := by decide +kernel
theorem dX2_leastAbove_22 : decode cX2_leastAbove 22 = .ok (.ireturn, 1) := by decide +kernel
theorem dX2_leastAbove_23 : decode cX2_leastAbove 23 = .ok (.iinc 2 1, 3) := by decide +kernel
theorem dX2_leastAbove_26 : decode cX2_leastAbove 26 = .ok (.goto (-24), 3) := by decide +kernel
theorem dX2_leastAbove_29 : decode cX2_leastAbove 29 = .ok (.bipush (-9), 2) := by decide +kernel
theorem dX2_leastAbove_31 : decode cX2_leastAbove 31 = .ok (.ireturn, 1) := by decide +kernel
theorem dX2_keyOfPlace_0 : decode cX2_keyOfPlace 0 = .ok (.iconst 0, 1) := by decide +kernel
theorem dX2_keyOfPlace_1 : decode cX2_keyOfPlace 1 = .ok (.istore 4, 2) := by decide +kernel
theorem dX2_keyOfPlace_3 : decode cX2_keyOfPlace 3 = .ok (.iconst 0, 1) := by decide +kernel
theorem dX2_keyOfPlace_4 : decode cX2_keyOfPlace 4 = .ok (.istore 5, 2) := by decide +kernel
theorem dX2_keyOfPlace_6 : decode cX2_keyOfPlace 6 = .ok (.iload 5, 2) := by decide +kernel
theorem dX2_keyOfPlace_8 : decode cX2_keyOfPlace 8 = .ok (.bipush 100, 2) := by decide +kernel
theorem dX2_keyOfPlace_10 : decode cX2_keyOfPlace 10 = .ok (.if_icmp .ge 42, 3) := by decide +kernel
theorem dX2_keyOfPlace_13 : decode cX2_keyOfPlace 13 = .ok (.iload_n 1, 1) := by decide +kernel
theorem dX2_keyOfPlace_14 : decode cX2_keyOfPlace 14 = .ok (.iload 5, 2) := by decide +kernel
theorem dX2_keyOfPlace_16 : decode cX2_keyOfPlace 16 = .ok (.if_icmp .gt 30, 3) := by decide +kernel
theorem dX2_keyOfPlace_19 : decode cX2_keyOfPlace 19 = .ok (.iload 5, 2) := by decide +kernel
theorem dX2_keyOfPlace_21 : decode cX2_keyOfPlace 21 = .ok (.iload_n 2, 1) := by decide +kernel
theorem dX2_keyOfPlace_22 : decode cX2_keyOfPlace 22 = .ok (.if_icmp .gt 24, 3) := by decide +kernel
theorem dX2_keyOfPlace_25 : decode cX2_keyOfPlace 25 = .ok (.aload_n 0, 1) := by decide +kernel
theorem dX2_keyOfPlace_26 : decode cX2_keyOfPlace 26 = .ok (.iload 5, 2) := by decide +kernel
theorem dX2_keyOfPlace_28 : decode cX2_keyOfPlace 28 = .ok (.invokevirtual 33, 3) := by decide +kernel
theorem dX2_keyOfPlace_31 : decode cX2_keyOfPlace 31 = .ok (.ifCond .eq 15, 3) := by decide +kernel
theorem dX2_keyOfPlace_34 : decode cX2_keyOfPlace 34 = .ok (.iload 4, 2) := by decide +kernel
theorem dX2_keyOfPlace_36 : decode cX2_keyOfPlace 36 = .ok (.iload_n 3, 1) := by decide +kernel
theorem dX2_keyOfPlace_37 : decode cX2_keyOfPlace 37 = .ok (.if_icmp .ne 6, 3) := by decide +kernel
theorem dX2_keyOfPlace_40 : decode cX2_keyOfPlace 40 = .ok (.iload 5, 2) := by decide +kernel
theorem dX2_keyOfPlace_42 : decode cX2_keyOfPlace 42 = .ok (.ireturn, 1) := by decide +kernel
theorem dX2_keyOfPlace_43 : decode cX2_keyOfPlace 43 = .ok (.iinc 4 1, 3) := by decide +kernel
theorem dX2_keyOfPlace_46 : decode cX2_keyOfPlace 46 = .ok (.iinc 5 1, 3) := by decide +kernel
theorem dX2_keyOfPlace_49 : decode cX2_keyOfPlace 49 = .ok (.goto (-43), 3) := by decide +kernel
theorem dX2_keyOfPlace_52 : decode cX2_keyOfPlace 52 = .ok (.bipush (-9), 2) := by decide +kernel
theorem dX2_keyOfPlace_54 : decode cX2_keyOfPlace 54 = .ok (.ireturn, 1) := by decide +kernel
theorem dX3_init_0 : decode cX3_init 0 = .ok (.aload_n 0, 1) := by decide +kernel
theorem dX3_init_1 : decode cX3_init 1 = .ok (.invokespecial 3, 3) := by decide +kernel
theorem dX3_init_4 : decode cX3_init 4 = .ok (.aload_n 0, 1) := by decide +kernel
theorem dX3_init_5 : decode cX3_init 5 = .ok (.bipush 100, 2) := by decide +kernel
theorem dX3_init_7 : decode cX3_init 7 = .ok (.newarray .int, 2) := by decide +kernel
theorem dX3_init_9 : decode cX3_init 9 = .ok (.putfield 9, 3) := by decide +kernel
theorem dX3_init_12 : decode cX3_init 12 = .ok (.aload_n 0, 1) := by decide +kernel
theorem dX3_init_13 : decode cX3_init 13 = .ok (.bipush 100, 2) := by decide +kernel
theorem dX3_init_15 : decode cX3_init 15 = .ok (.newarray .int, 2) := by decide +kernel
theorem dX3_init_17 : decode cX3_init 17 = .ok (.putfield 15, 3) := by decide +kernel
theorem dX3_init_20 : decode cX3_init 20 = .ok (.return_, 1) := by decide +kernel
theorem dX3_clear_0 : decode cX3_clear 0 = .ok (.aload_n 0, 1) := by decide +kernel
theorem dX3_clear_1 : decode cX3_clear 1 = .ok (.iconst 0, 1) := by decide +kernel
theorem dX3_clear_2 : decode cX3_clear 2 = .ok (.putfield 18, 3) := by decide +kernel
theorem dX3_clear_5 : decode cX3_clear 5 = .ok (.return_, 1) := by decide +kernel
theorem dX3_push_0 : decode cX3_push 0 = .ok (.aload_n 0, 1) := by decide +kernel
theorem dX3_push_1 : decode cX3_push 1 = .ok (.getfield 18, 3) := by decide +kernel
theorem dX3_push_4 : decode cX3_push 4 = .ok (.bipush 100, 2) := by decide +kernel
theorem dX3_push_6 : decode cX3_push 6 = .ok (.if_icmp .ge 33, 3) := by decide +kernel
theorem dX3_push_9 : decode cX3_push 9 = .ok (.aload_n 0, 1) := by decide +kernel
theorem dX3_push_10 : decode cX3_push 10 = .ok (.getfield 9, 3) := by decide +kernel
theorem dX3_push_13 : decode cX3_push 13 = .ok (.aload_n 0, 1) := by decide +kernel
theorem dX3_push_14 : decode cX3_push 14 = .ok (.getfield 18, 3) := by decide +kernel
theorem dX3_push_17 : decode cX3_push 17 = .ok (.iload_n 1, 1) := by decide +kernel
theorem dX3_push_18 : decode cX3_push 18 = .ok (.iastore, 1) := by decide +kernel
theorem dX3_push_19 : decode cX3_push 19 = .ok (.aload_n 0, 1) := by decide +kernel
theorem dX3_push_20 : decode cX3_push 20 = .ok (.getfield 15, 3) := by decide +kernel
theorem dX3_push_23 : decode cX3_push 23 = .ok (.aload_n 0, 1) := by decide +kernel
theorem dX3_push_24 : decode cX3_push 24 = .ok (.getfield 18, 3) := by decide +kernel
theorem dX3_push_27 : decode cX3_push 27 = .ok (.iload_n 2, 1) := by decide +kernel
theorem dX3_push_28 : decode cX3_push 28 = .ok (.iastore, 1) := by decide +kernel
theorem dX3_push_29 : decode cX3_push 29 = .ok (.aload_n 0, 1) := by decide +kernel
theorem dX3_push_30 : decode cX3_push 30 = .ok (.dup, 1) := by decide +kernel
theorem dX3_push_31 : decode cX3_push 31 = .ok (.getfield 18, 3) := by decide +kernel
theorem dX3_push_34 : decode cX3_push 34 = .ok (.iconst 1, 1) := by decide +kernel
theorem dX3_push_35 : decode cX3_push 35 = .ok (.iadd, 1) := by decide +kernel
theorem dX3_push_36 : decode cX3_push 36 = .ok (.putfield 18, 3) := by decide +kernel
theorem dX3_push_39 : decode cX3_push 39 = .ok (.return_, 1) := by decide +kernel
theorem dX3_pop_0 : decode cX3_pop 0 = .ok (.aload_n 0, 1) := by decide +kernel
theorem dX3_pop_1 : decode cX3_pop 1 = .ok (.getfield 18, 3) := by decide +kernel
theorem dX3_pop_4 : decode cX3_pop 4 = .ok (.ifCond .gt 5, 3) := by decide +kernel
theorem dX3_pop_7 : decode cX3_pop 7 = .ok (.iconst 0, 1) := by decide +kernel
theorem dX3_pop_8 : decode cX3_pop 8 = .ok (.ireturn, 1) := by decide +kernel
theorem dX3_pop_9 : decode cX3_pop 9 = .ok (.aload_n 0, 1) := by decide +kernel
theorem dX3_pop_10 : decode cX3_pop 10 = .ok (.dup, 1) := by decide +kernel
theorem dX3_pop_11 : decode cX3_pop 11 = .ok (.getfield 18, 3) := by decide +kernel
theorem dX3_pop_14 : decode cX3_pop 14 = .ok (.iconst 1, 1) := by decide +kernel
theorem dX3_pop_15 : decode cX3_pop 15 = .ok (.isub, 1) := by decide +kernel
theorem dX3_pop_16 : decode cX3_pop 16 = .ok (.putfield 18, 3) := by decide +kernel
theorem dX3_pop_19 : decode cX3_pop 19 = .ok (.aload_n 0, 1) := by decide +kernel
theorem dX3_pop_20 : decode cX3_pop 20 = .ok (.aload_n 0, 1) := by decide +kernel
theorem dX3_pop_21 : decode cX3_pop 21 = .ok (.getfield 9, 3) := by decide +kernel
theorem dX3_pop_24 : decode cX3_pop 24 = .ok (.aload_n 0, 1) := by decide +kernel
theorem dX3_pop_25 : decode cX3_pop 25 = .ok (.getfield 18, 3) := by decide +kernel
theorem dX3_pop_28 : decode cX3_pop 28 = .ok (.iaload, 1) := by decide +kernel
theorem dX3_pop_29 : decode cX3_pop 29 = .ok (.putfield 22, 3) := by decide +kernel
theorem dX3_pop_32 : decode cX3_pop 32 = .ok (.aload_n 0, 1) := by decide +kernel
theorem dX3_pop_33 : decode cX3_pop 33 = .ok (.aload_n 0, 1) := by decide +kernel
theorem dX3_pop_34 : decode cX3_pop 34 = .ok (.getfield 15, 3) := by decide +kernel
theorem dX3_pop_37 : decode cX3_pop 37 = .ok (.aload_n 0, 1) := by decide +kernel
theorem dX3_pop_38 : decode cX3_pop 38 = .ok (.getfield 18, 3) := by decide +kernel
theorem dX3_pop_41 : decode cX3_pop 41 = .ok (.iaload, 1) := by decide +kernel
theorem dX3_pop_42 : decode cX3_pop 42 = .ok (.putfield 25, 3) := by decide +kernel
theorem dX3_pop_45 : decode cX3_pop 45 = .ok (.iconst 1, 1) := by decide +kernel
theorem dX3_pop_46 : decode cX3_pop 46 = .ok (.ireturn, 1) := by decide +kernel
theorem dX3_key_0 : decode cX3_key 0 = .ok (.aload_n 0, 1) := by decide +kernel
theorem dX3_key_1 : decode cX3_key 1 = .ok (.getfield 22, 3) := by decide +kernel
theorem dX3_key_4 : decode cX3_key 4 = .ok (.ireturn, 1) := by decide +kernel
theorem dX3_hi_0 : decode cX3_hi 0 = .ok (.aload_n 0, 1) := by decide +kernel
theorem dX3_hi_1 : decode cX3_hi 1 = .ok (.getfield 25, 3) := by decide +kernel
theorem dX3_hi_4 : decode cX3_hi 4 = .ok (.ireturn, 1) := by decide +kernel
theorem dX4_init_0 : decode cX4_init 0 = .ok (.aload_n 0, 1) := by decide +kernel
theorem dX4_init_1 : decode cX4_init 1 = .ok (.invokespecial 1, 3) := by decide +kernel
theorem dX4_init_4 : decode cX4_init 4 = .ok (.aload_n 0, 1) := by decide +kernel
theorem dX4_init_5 : decode cX4_init 5 = .ok (.iload_n 1, 1) := by decide +kernel
theorem dX4_init_6 : decode cX4_init 6 = .ok (.putfield 7, 3) := by decide +kernel
theorem dX4_init_9 : decode cX4_init 9 = .ok (.aload_n 0, 1) := by decide +kernel
theorem dX4_init_10 : decode cX4_init 10 = .ok (.iload_n 2, 1) := by decide +kernel
theorem dX4_init_11 : decode cX4_init 11 = .ok (.putfield 13, 3) := by decide +kernel
theorem dX4_init_14 : decode cX4_init 14 = .ok (.aload_n 0, 1) := by decide +kernel
theorem dX4_init_15 : decode cX4_init 15 = .ok (.iload_n 3, 1) := by decide +kernel
theorem dX4_init_16 : decode cX4_init 16 = .ok (.putfield 16, 3) := by decide +kernel
theorem dX4_init_19 : decode cX4_init 19 = .ok (.aload_n 0, 1) := by decide +kernel
theorem dX4_init_20 : decode cX4_init 20 = .ok (.iload 4, 2) := by decide +kernel
theorem dX4_init_22 : decode cX4_init 22 = .ok (.putfield 19, 3) := by decide +kernel
theorem dX4_init_25 : decode cX4_init 25 = .ok (.return_, 1) := by decide +kernel
theorem dX5_init_0 : decode cX5_init 0 = .ok (.aload_n 0, 1) := by decide +kernel
theorem dX5_init_1 : decode cX5_init 1 = .ok (.invokespecial 3, 3) := by decide +kernel
theorem dX5_init_4 : decode cX5_init 4 = .ok (.aload_n 0, 1) := by decide +kernel
theorem dX5_init_5 : decode cX5_init 5 = .ok (.new 9, 3) := by decide +kernel
theorem dX5_init_8 : decode cX5_init 8 = .ok (.dup, 1) := by decide +kernel
theorem dX5_init_9 : decode cX5_init 9 = .ok (.invokespecial 11, 3) := by decide +kernel
theorem dX5_init_12 : decode cX5_init 12 = .ok (.putfield 12, 3) := by decide +kernel
theorem dX5_init_15 : decode cX5_init 15 = .ok (.aload_n 0, 1) := by decide +kernel
theorem dX5_init_16 : decode cX5_init 16 = .ok (.bipush 8, 2) := by decide +kernel
theorem dX5_init_18 : decode cX5_init 18 = .ok (.newarray .int, 2) := by decide +kernel
theorem dX5_init_20 : decode cX5_init 20 = .ok (.putfield 18, 3) := by decide +kernel
theorem dX5_init_23 : decode cX5_init 23 = .ok (.aload_n 0, 1) := by decide +kernel
theorem dX5_init_24 : decode cX5_init 24 = .ok (.new 22, 3) := by decide +kernel
theorem dX5_init_27 : decode cX5_init 27 = .ok (.dup, 1) := by decide +kernel
theorem dX5_init_28 : decode cX5_init 28 = .ok (.invokespecial 24, 3) := by decide +kernel
theorem dX5_init_31 : decode cX5_init 31 = .ok (.putfield 25, 3) := by decide +kernel
theorem dX5_init_34 : decode cX5_init 34 = .ok (.aload_n 0, 1) := by decide +kernel
theorem dX5_init_35 : decode cX5_init 35 = .ok (.new 29, 3) := by decide +kernel
theorem dX5_init_38 : decode cX5_init 38 = .ok (.dup, 1) := by decide +kernel
theorem dX5_init_39 : decode cX5_init 39 = .ok (.invokespecial 31, 3) := by decide +kernel
theorem dX5_init_42 : decode cX5_init 42 = .ok (.putfield 32, 3) := by decide +kernel
theorem dX5_init_45 : decode cX5_init 45 = .ok (.aload_n 0, 1) := by decide +kernel
theorem dX5_init_46 : decode cX5_init 46 = .ok (.new 36, 3) := by decide +kernel
theorem dX5_init_49 : decode cX5_init 49 = .ok (.dup, 1) := by decide +kernel
theorem dX5_init_50 : decode cX5_init 50 = .ok (.invokespecial 38, 3) := by decide +kernel
theorem dX5_init_53 : decode cX5_init 53 = .ok (.putfield 39, 3) := by decide +kernel
theorem dX5_init_56 : decode cX5_init 56 = .ok (.return_, 1) := by decide +kernel
theorem dX5_row_0 : decode cX5_row 0 = .ok (.aload_n 0, 1) := by decide +kernel
theorem dX5_row_1 : decode cX5_row 1 = .ok (.getfield 12, 3) := by decide +kernel
theorem dX5_row_4 : decode cX5_row 4 = .ok (.areturn, 1) := by decide +kernel
theorem dX5_shown_0 : decode cX5_shown 0 = .ok (.aload_n 0, 1) := by decide +kernel
theorem dX5_shown_1 : decode cX5_shown 1 = .ok (.getfield 25, 3) := by decide +kernel
theorem dX5_shown_4 : decode cX5_shown 4 = .ok (.areturn, 1) := by decide +kernel
theorem dX5_trusted_0 : decode cX5_trusted 0 = .ok (.aload_n 0, 1) := by decide +kernel
theorem dX5_trusted_1 : decode cX5_trusted 1 = .ok (.getfield 43, 3) := by decide +kernel
theorem dX5_trusted_4 : decode cX5_trusted 4 = .ok (.ireturn, 1) := by decide +kernel
theorem dX5_formerCount_0 : decode cX5_formerCount 0 = .ok (.aload_n 0, 1) := by decide +kernel
theorem dX5_formerCount_1 : decode cX5_formerCount 1 = .ok (.getfield 47, 3) := by decide +kernel
theorem dX5_formerCount_4 : decode cX5_formerCount 4 = .ok (.ireturn, 1) := by decide +kernel
theorem dX5_formerAt_0 : decode cX5_formerAt 0 = .ok (.iload_n 1, 1) := by decide +kernel
theorem dX5_formerAt_1 : decode cX5_formerAt 1 = .ok (.ifCond .lt 20, 3) := by decide +kernel
theorem dX5_formerAt_4 : decode cX5_formerAt 4 = .ok (.iload_n 1, 1) := by decide +kernel
theorem dX5_formerAt_5 : decode cX5_formerAt 5 = .ok (.aload_n 0, 1) := by decide +kernel
theorem dX5_formerAt_6 : decode cX5_formerAt 6 = .ok (.getfield 47, 3) := by decide +kernel
theorem dX5_formerAt_9 : decode cX5_formerAt 9 = .ok (.if_icmp .ge 12, 3) := by decide +kernel
theorem dX5_formerAt_12 : decode cX5_formerAt 12 = .ok (.aload_n 0, 1) := by decide +kernel
theorem dX5_formerAt_13 : decode cX5_formerAt 13 = .ok (.getfield 18, 3) := by decide +kernel
theorem dX5_formerAt_16 : decode cX5_formerAt 16 = .ok (.iload_n 1, 1) := by decide +kernel
theorem dX5_formerAt_17 : decode cX5_formerAt 17 = .ok (.iaload, 1) := by decide +kernel
theorem dX5_formerAt_18 : decode cX5_formerAt 18 = .ok (.goto 4, 3) := by decide +kernel
theorem dX5_formerAt_21 : decode cX5_formerAt 21 = .ok (.iconst 0, 1) := by decide +kernel
theorem dX5_formerAt_22 : decode cX5_formerAt 22 = .ok (.ireturn, 1) := by decide +kernel
theorem dX5_nowTrust_0 : decode cX5_nowTrust 0 = .ok (.bipush 7, 2) := by decide +kernel
theorem dX5_nowTrust_2 : decode cX5_nowTrust 2 = .ok (.istore_n 2, 1) := by decide +kernel
theorem dX5_nowTrust_3 : decode cX5_nowTrust 3 = .ok (.iload_n 2, 1) := by decide +kernel
theorem dX5_nowTrust_4 : decode cX5_nowTrust 4 = .ok (.ifCond .le 23, 3) := by decide +kernel
theorem dX5_nowTrust_7 : decode cX5_nowTrust 7 = .ok (.aload_n 0, 1) := by decide +kernel
theorem dX5_nowTrust_8 : decode cX5_nowTrust 8 = .ok (.getfield 18, 3) := by decide +kernel
theorem dX5_nowTrust_11 : decode cX5_nowTrust 11 = .ok (.iload_n 2, 1) := by decide +kernel
theorem dX5_nowTrust_12 : decode cX5_nowTrust 12 = .ok (.aload_n 0, 1) := by decide +kernel
theorem dX5_nowTrust_13 : decode cX5_nowTrust 13 = .ok (.getfield 18, 3) := by decide +kernel
theorem dX5_nowTrust_16 : decode cX5_nowTrust 16 = .ok (.iload_n 2, 1) := by decide +kernel
theorem dX5_nowTrust_17 : decode cX5_nowTrust 17 = .ok (.iconst 1, 1) := by decide +kernel
theorem dX5_nowTrust_18 : decode cX5_nowTrust 18 = .ok (.isub, 1) := by decide +kernel
theorem dX5_nowTrust_19 : decode cX5_nowTrust 19 = .ok (.iaload, 1) := by decide +kernel
theorem dX5_nowTrust_20 : decode cX5_nowTrust 20 = .ok (.iastore, 1) := by decide +kernel
theorem dX5_nowTrust_21 : decode cX5_nowTrust 21 = .ok (.iinc 2 (-1), 3) := by decide +kernel
theorem dX5_nowTrust_24 : decode cX5_nowTrust 24 = .ok (.goto (-21), 3) := by decide +kernel
theorem dX5_nowTrust_27 : decode cX5_nowTrust 27 = .ok (.aload_n 0, 1) := by decide +kernel
theorem dX5_nowTrust_28 : decode cX5_nowTrust 28 = .ok (.getfield 18, 3) := by decide +kernel
theorem dX5_nowTrust_31 : decode cX5_nowTrust 31 = .ok (.iconst 0, 1) := by decide +kernel
theorem dX5_nowTrust_32 : decode cX5_nowTrust 32 = .ok (.aload_n 0, 1) := by decide +kernel
theorem dX5_nowTrust_33 : decode cX5_nowTrust 33 = .ok (.getfield 43, 3) := by decide +kernel
theorem dX5_nowTrust_36 : decode cX5_nowTrust 36 = .ok (.iastore, 1) := by decide +kernel
theorem dX5_nowTrust_37 : decode cX5_nowTrust 37 = .ok (.aload_n 0, 1) := by decide +kernel
theorem dX5_nowTrust_38 : decode cX5_nowTrust 38 = .ok (.aload_n 0, 1) := by decide +kernel
theorem dX5_nowTrust_39 : decode cX5_nowTrust 39 = .ok (.getfield 47, 3) := by decide +kernel
theorem dX5_nowTrust_42 : decode cX5_nowTrust 42 = .ok (.iconst 1, 1) := by decide +kernel
theorem dX5_nowTrust_43 : decode cX5_nowTrust 43 = .ok (.iadd, 1) := by decide +kernel
theorem dX5_nowTrust_44 : decode cX5_nowTrust 44 = .ok (.bipush 8, 2) := by decide +kernel
theorem dX5_nowTrust_46 : decode cX5_nowTrust 46 = .ok (.invokestatic 50, 3) := by decide +kernel
theorem dX5_nowTrust_49 : decode cX5_nowTrust 49 = .ok (.putfield 47, 3) := by decide +kernel
theorem dX5_nowTrust_52 : decode cX5_nowTrust 52 = .ok (.aload_n 0, 1) := by decide +kernel
theorem dX5_nowTrust_53 : decode cX5_nowTrust 53 = .ok (.iload_n 1, 1) := by decide +kernel
theorem dX5_nowTrust_54 : decode cX5_nowTrust 54 = .ok (.putfield 43, 3) := by decide +kernel
theorem dX5_nowTrust_57 : decode cX5_nowTrust 57 = .ok (.aload_n 0, 1) := by decide +kernel
theorem dX5_nowTrust_58 : decode cX5_nowTrust 58 = .ok (.getfield 47, 3) := by decide +kernel
theorem dX5_nowTrust_61 : decode cX5_nowTrust 61 = .ok (.ireturn, 1) := by decide +kernel
theorem dX5_isFormer_0 : decode cX5_isFormer 0 = .ok (.iconst 0, 1) := by decide +kernel
theorem dX5_isFormer_1 : decode cX5_isFormer 1 = .ok (.istore_n 2, 1) := by decide +kernel
theorem dX5_isFormer_2 : decode cX5_isFormer 2 = .ok (.iload_n 2, 1) := by decide +kernel
theorem dX5_isFormer_3 : decode cX5_isFormer 3 = .ok (.aload_n 0, 1) := by decide +kernel
theorem dX5_isFormer_4 : decode cX5_isFormer 4 = .ok (.getfield 47, 3) := by decide +kernel
theorem dX5_isFormer_7 : decode cX5_isFormer 7 = .ok (.if_icmp .ge 20, 3) := by decide +kernel
theorem dX5_isFormer_10 : decode cX5_isFormer 10 = .ok (.aload_n 0, 1) := by decide +kernel
theorem dX5_isFormer_11 : decode cX5_isFormer 11 = .ok (.iload_n 2, 1) := by decide +kernel
theorem dX5_isFormer_12 : decode cX5_isFormer 12 = .ok (.invokevirtual 56, 3) := by decide +kernel
theorem dX5_isFormer_15 : decode cX5_isFormer 15 = .ok (.iload_n 1, 1) := by decide +kernel
theorem dX5_isFormer_16 : decode cX5_isFormer 16 = .ok (.if_icmp .ne 5, 3) := by decide +kernel
theorem dX5_isFormer_19 : decode cX5_isFormer 19 = .ok (.iconst 1, 1) := by decide +kernel
theorem dX5_isFormer_20 : decode cX5_isFormer 20 = .ok (.ireturn, 1) := by decide +kernel
theorem dX5_isFormer_21 : decode cX5_isFormer 21 = .ok (.iinc 2 1, 3) := by decide +kernel
theorem dX5_isFormer_24 : decode cX5_isFormer 24 = .ok (.goto (-22), 3) := by decide +kernel
theorem dX5_isFormer_27 : decode cX5_isFormer 27 = .ok (.iconst 0, 1) := by decide +kernel
theorem dX5_isFormer_28 : decode cX5_isFormer 28 = .ok (.ireturn, 1) := by decide +kernel
theorem dX5_reasonBy_0 : decode cX5_reasonBy 0 = .ok (.aload_n 0, 1) := by decide +kernel
theorem dX5_reasonBy_1 : decode cX5_reasonBy 1 = .ok (.iload_n 1, 1) := by decide +kernel
theorem dX5_reasonBy_2 : decode cX5_reasonBy 2 = .ok (.iload_n 2, 1) := by decide +kernel
theorem dX5_reasonBy_3 : decode cX5_reasonBy 3 = .ok (.invokevirtual 60, 3) := by decide +kernel
theorem dX5_reasonBy_6 : decode cX5_reasonBy 6 = .ok (.istore_n 3, 1) := by decide +kernel
theorem dX5_reasonBy_7 : decode cX5_reasonBy 7 = .ok (.iload_n 3, 1) := by decide +kernel
theorem dX5_reasonBy_8 : decode cX5_reasonBy 8 = .ok (.ifCond .eq 5, 3) := by decide +kernel
theorem dX5_reasonBy_11 : decode cX5_reasonBy 11 = .ok (.iload_n 3, 1) := by decide +kernel
theorem dX5_reasonBy_12 : decode cX5_reasonBy 12 = .ok (.ireturn, 1) := by decide +kernel
theorem dX5_reasonBy_13 : decode cX5_reasonBy 13 = .ok (.aload_n 0, 1) := by decide +kernel
theorem dX5_reasonBy_14 : decode cX5_reasonBy 14 = .ok (.getfield 32, 3) := by decide +kernel
theorem dX5_reasonBy_17 : decode cX5_reasonBy 17 = .ok (.aload_n 0, 1) := by decide +kernel
theorem dX5_reasonBy_18 : decode cX5_reasonBy 18 = .ok (.getfield 25, 3) := by decide +kernel
theorem dX5_reasonBy_21 : decode cX5_reasonBy 21 = .ok (.invokevirtual 63, 3) := by decide +kernel
theorem dX5_reasonBy_24 : decode cX5_reasonBy 24 = .ok (.aload_n 0, 1) := by decide +kernel
theorem dX5_reasonBy_25 : decode cX5_reasonBy 25 = .ok (.getfield 32, 3) := by decide +kernel
theorem dX5_reasonBy_28 : decode cX5_reasonBy 28 = .ok (.invokevirtual 67, 3) := by decide +kernel
theorem dX5_reasonBy_31 : decode cX5_reasonBy 31 = .ok (.istore 4, 2) := by decide +kernel
theorem dX5_reasonBy_33 : decode cX5_reasonBy 33 = .ok (.iload 4, 2) := by decide +kernel
theorem dX5_reasonBy_35 : decode cX5_reasonBy 35 = .ok (.aload_n 0, 1) := by decide +kernel
theorem dX5_reasonBy_36 : decode cX5_reasonBy 36 = .ok (.getfield 43, 3) := by decide +kernel
theorem dX5_reasonBy_39 : decode cX5_reasonBy 39 = .ok (.if_icmp .ne 5, 3) := by decide +kernel
theorem dX5_reasonBy_42 : decode cX5_reasonBy 42 = .ok (.iconst 0, 1) := by decide +kernel
theorem dX5_reasonBy_43 : decode cX5_reasonBy 43 = .ok (.ireturn, 1) := by decide +kernel
theorem dX5_reasonBy_44 : decode cX5_reasonBy 44 = .ok (.aload_n 0, 1) := by decide +kernel
theorem dX5_reasonBy_45 : decode cX5_reasonBy 45 = .ok (.iload 4, 2) := by decide +kernel
theorem dX5_reasonBy_47 : decode cX5_reasonBy 47 = .ok (.invokevirtual 71, 3) := by decide +kernel
theorem dX5_reasonBy_50 : decode cX5_reasonBy 50 = .ok (.ifCond .eq 8, 3) := by decide +kernel
theorem dX5_reasonBy_53 : decode cX5_reasonBy 53 = .ok (.bipush 7, 2) := by decide +kernel
theorem dX5_reasonBy_55 : decode cX5_reasonBy 55 = .ok (.goto 5, 3) := by decide +kernel
theorem dX5_reasonBy_58 : decode cX5_reasonBy 58 = .ok (.bipush 6, 2) := by decide +kernel
theorem dX5_reasonBy_60 : decode cX5_reasonBy 60 = .ok (.ireturn, 1) := by decide +kernel
theorem dX5_takeIn_0 : decode cX5_takeIn 0 = .ok (.aload_n 0, 1) := by decide +kernel
theorem dX5_takeIn_1 : decode cX5_takeIn 1 = .ok (.getfield 25, 3) := by decide +kernel
theorem dX5_takeIn_4 : decode cX5_takeIn 4 = .ok (.invokevirtual 75, 3) := by decide +kernel
theorem dX5_takeIn_7 : decode cX5_takeIn 7 = .ok (.aload_n 0, 1) := by decide +kernel
theorem dX5_takeIn_8 : decode cX5_takeIn 8 = .ok (.getfield 32, 3) := by decide +kernel
theorem dX5_takeIn_11 : decode cX5_takeIn 11 = .ok (.invokevirtual 78, 3) := by decide +kernel
theorem dX5_takeIn_14 : decode cX5_takeIn 14 = .ok (.aload_n 0, 1) := by decide +kernel
theorem dX5_takeIn_15 : decode cX5_takeIn 15 = .ok (.getfield 39, 3) := by decide +kernel
theorem dX5_takeIn_18 : decode cX5_takeIn 18 = .ok (.invokevirtual 81, 3) := by decide +kernel
theorem dX5_takeIn_21 : decode cX5_takeIn 21 = .ok (.bipush (-9), 2) := by decide +kernel
theorem dX5_takeIn_23 : decode cX5_takeIn 23 = .ok (.istore_n 3, 1) := by decide +kernel
theorem dX5_takeIn_24 : decode cX5_takeIn 24 = .ok (.iconst 0, 1) := by decide +kernel
theorem dX5_takeIn_25 : decode cX5_takeIn 25 = .ok (.istore 4, 2) := by decide +kernel
theorem dX5_takeIn_27 : decode cX5_takeIn 27 = .ok (.bipush 99, 2) := by decide +kernel
theorem dX5_takeIn_29 : decode cX5_takeIn 29 = .ok (.istore 5, 2) := by decide +kernel
theorem dX5_takeIn_31 : decode cX5_takeIn 31 = .ok (.iconst 0, 1) := by decide +kernel
theorem dX5_takeIn_32 : decode cX5_takeIn 32 = .ok (.istore 6, 2) := by decide +kernel
theorem dX5_takeIn_34 : decode cX5_takeIn 34 = .ok (.iload 6, 2) := by decide +kernel
theorem dX5_takeIn_36 : decode cX5_takeIn 36 = .ok (.aload_n 0, 1) := by decide +kernel
theorem dX5_takeIn_37 : decode cX5_takeIn 37 = .ok (.getfield 12, 3) := by decide +kernel
theorem dX5_takeIn_40 : decode cX5_takeIn 40 = .ok (.invokevirtual 82, 3) := by decide +kernel
theorem dX5_takeIn_43 : decode cX5_takeIn 43 = .ok (.if_icmp .ge 184, 3) := by decide +kernel
theorem dX5_takeIn_46 : decode cX5_takeIn 46 = .ok (.aload_n 0, 1) := by decide +kernel
theorem dX5_takeIn_47 : decode cX5_takeIn 47 = .ok (.getfield 12, 3) := by decide +kernel
theorem dX5_takeIn_50 : decode cX5_takeIn 50 = .ok (.iload 6, 2) := by decide +kernel
theorem dX5_takeIn_52 : decode cX5_takeIn 52 = .ok (.invokevirtual 85, 3) := by decide +kernel
theorem dX5_takeIn_55 : decode cX5_takeIn 55 = .ok (.istore 7, 2) := by decide +kernel
theorem dX5_takeIn_57 : decode cX5_takeIn 57 = .ok (.iload 7, 2) := by decide +kernel
theorem dX5_takeIn_59 : decode cX5_takeIn 59 = .ok (.ifCond .ge 19, 3) := by decide +kernel
theorem dX5_takeIn_62 : decode cX5_takeIn 62 = .ok (.iload 7, 2) := by decide +kernel
theorem dX5_takeIn_64 : decode cX5_takeIn 64 = .ok (.invokestatic 88, 3) := by decide +kernel
theorem dX5_takeIn_67 : decode cX5_takeIn 67 = .ok (.iload_n 3, 1) := by decide +kernel
theorem dX5_takeIn_68 : decode cX5_takeIn 68 = .ok (.iload 4, 2) := by decide +kernel
theorem dX5_takeIn_70 : decode cX5_takeIn 70 = .ok (.iload 5, 2) := by decide +kernel
theorem dX5_takeIn_72 : decode cX5_takeIn 72 = .ok (.invokestatic 91, 3) := by decide +kernel
theorem dX5_takeIn_75 : decode cX5_takeIn 75 = .ok (.goto 29, 3) := by decide +kernel
theorem dX5_takeIn_78 : decode cX5_takeIn 78 = .ok (.iload 7, 2) := by decide +kernel
theorem dX5_takeIn_80 : decode cX5_takeIn 80 = .ok (.iload 4, 2) := by decide +kernel
theorem dX5_takeIn_82 : decode cX5_takeIn 82 = .ok (.iload 5, 2) := by decide +kernel
theorem dX5_takeIn_84 : decode cX5_takeIn 84 = .ok (.iload 4, 2) := by decide +kernel
theorem dX5_takeIn_86 : decode cX5_takeIn 86 = .ok (.iload_n 2, 1) := by decide +kernel
theorem dX5_takeIn_87 : decode cX5_takeIn 87 = .ok (.if_icmp .gt 13, 3) := by decide +kernel
theorem dX5_takeIn_90 : decode cX5_takeIn 90 = .ok (.iload_n 1, 1) := by decide +kernel
theorem dX5_takeIn_91 : decode cX5_takeIn 91 = .ok (.iload 5, 2) := by decide +kernel
theorem dX5_takeIn_93 : decode cX5_takeIn 93 = .ok (.if_icmp .gt 7, 3) := by decide +kernel
theorem dX5_takeIn_96 : decode cX5_takeIn 96 = .ok (.iconst 1, 1) := by decide +kernel
theorem dX5_takeIn_97 : decode cX5_takeIn 97 = .ok (.goto 4, 3) := by decide +kernel
theorem dX5_takeIn_100 : decode cX5_takeIn 100 = .ok (.iconst 0, 1) := by decide +kernel
theorem dX5_takeIn_101 : decode cX5_takeIn 101 = .ok (.invokestatic 95, 3) := by decide +kernel
theorem dX5_takeIn_104 : decode cX5_takeIn 104 = .ok (.istore 8, 2) := by decide +kernel
theorem dX5_takeIn_106 : decode cX5_takeIn 106 = .ok (.iload 8, 2) := by decide +kernel
theorem dX5_takeIn_108 : decode cX5_takeIn 108 = .ok (.ifCond .eq 6, 3) := by decide +kernel
theorem dX5_takeIn_111 : decode cX5_takeIn 111 = .ok (.iload 8, 2) := by decide +kernel
theorem dX5_takeIn_113 : decode cX5_takeIn 113 = .ok (.ireturn, 1) := by decide +kernel
theorem dX5_takeIn_114 : decode cX5_takeIn 114 = .ok (.iload 7, 2) := by decide +kernel
theorem dX5_takeIn_116 : decode cX5_takeIn 116 = .ok (.ifCond .ge 40, 3) := by decide +kernel
theorem dX5_takeIn_119 : decode cX5_takeIn 119 = .ok (.iload 7, 2) := by decide +kernel
theorem dX5_takeIn_121 : decode cX5_takeIn 121 = .ok (.invokestatic 88, 3) := by decide +kernel
theorem dX5_takeIn_124 : decode cX5_takeIn 124 = .ok (.istore_n 3, 1) := by decide +kernel
theorem dX5_takeIn_125 : decode cX5_takeIn 125 = .ok (.aload_n 0, 1) := by decide +kernel
theorem dX5_takeIn_126 : decode cX5_takeIn 126 = .ok (.getfield 25, 3) := by decide +kernel
theorem dX5_takeIn_129 : decode cX5_takeIn 129 = .ok (.iload_n 3, 1) := by decide +kernel
theorem dX5_takeIn_130 : decode cX5_takeIn 130 = .ok (.iload 7, 2) := by decide +kernel
theorem dX5_takeIn_132 : decode cX5_takeIn 132 = .ok (.invokestatic 99, 3) := by decide +kernel
theorem dX5_takeIn_135 : decode cX5_takeIn 135 = .ok (.invokevirtual 102, 3) := by decide +kernel
theorem dX5_takeIn_138 : decode cX5_takeIn 138 = .ok (.aload_n 0, 1) := by decide +kernel
theorem dX5_takeIn_139 : decode cX5_takeIn 139 = .ok (.getfield 39, 3) := by decide +kernel
theorem dX5_takeIn_142 : decode cX5_takeIn 142 = .ok (.iload_n 3, 1) := by decide +kernel
theorem dX5_takeIn_143 : decode cX5_takeIn 143 = .ok (.iload 5, 2) := by decide +kernel
theorem dX5_takeIn_145 : decode cX5_takeIn 145 = .ok (.invokevirtual 106, 3) := by decide +kernel
theorem dX5_takeIn_148 : decode cX5_takeIn 148 = .ok (.iload_n 3, 1) := by decide +kernel
theorem dX5_takeIn_149 : decode cX5_takeIn 149 = .ok (.iconst 1, 1) := by decide +kernel
theorem dX5_takeIn_150 : decode cX5_takeIn 150 = .ok (.isub, 1) := by decide +kernel
theorem dX5_takeIn_151 : decode cX5_takeIn 151 = .ok (.istore 5, 2) := by decide +kernel
theorem dX5_takeIn_153 : decode cX5_takeIn 153 = .ok (.goto 68, 3) := by decide +kernel
theorem dX5_takeIn_156 : decode cX5_takeIn 156 = .ok (.aload_n 0, 1) := by decide +kernel
theorem dX5_takeIn_157 : decode cX5_takeIn 157 = .ok (.getfield 32, 3) := by decide +kernel
theorem dX5_takeIn_160 : decode cX5_takeIn 160 = .ok (.iload 5, 2) := by decide +kernel
theorem dX5_takeIn_162 : decode cX5_takeIn 162 = .ok (.iconst 1, 1) := by decide +kernel
theorem dX5_takeIn_163 : decode cX5_takeIn 163 = .ok (.iadd, 1) := by decide +kernel
theorem dX5_takeIn_164 : decode cX5_takeIn 164 = .ok (.iload 7, 2) := by decide +kernel
theorem dX5_takeIn_166 : decode cX5_takeIn 166 = .ok (.invokevirtual 109, 3) := by decide +kernel
theorem dX5_takeIn_169 : decode cX5_takeIn 169 = .ok (.aload_n 0, 1) := by decide +kernel
theorem dX5_takeIn_170 : decode cX5_takeIn 170 = .ok (.getfield 39, 3) := by decide +kernel
theorem dX5_takeIn_173 : decode cX5_takeIn 173 = .ok (.invokevirtual 112, 3) := by decide +kernel
theorem dX5_takeIn_176 : decode cX5_takeIn 176 = .ok (.ifCond .ne 23, 3) := by decide +kernel
theorem dX5_takeIn_179 : decode cX5_takeIn 179 = .ok (.iload 6, 2) := by decide +kernel
theorem dX5_takeIn_181 : decode cX5_takeIn 181 = .ok (.iconst 1, 1) := by decide +kernel
theorem dX5_takeIn_182 : decode cX5_takeIn 182 = .ok (.iadd, 1) := by decide +kernel
theorem dX5_takeIn_183 : decode cX5_takeIn 183 = .ok (.aload_n 0, 1) := by decide +kernel
theorem dX5_takeIn_184 : decode cX5_takeIn 184 = .ok (.getfield 12, 3) := by decide +kernel
theorem dX5_takeIn_187 : decode cX5_takeIn 187 = .ok (.invokevirtual 82, 3) := by decide +kernel
theorem dX5_takeIn_190 : decode cX5_takeIn 190 = .ok (.if_icmp .ge 7, 3) := by decide +kernel
theorem dX5_takeIn_193 : decode cX5_takeIn 193 = .ok (.iconst 2, 1) := by decide +kernel
theorem dX5_takeIn_194 : decode cX5_takeIn 194 = .ok (.goto 4, 3) := by decide +kernel
theorem dX5_takeIn_197 : decode cX5_takeIn 197 = .ok (.iconst 0, 1) := by decide +kernel
theorem dX5_takeIn_198 : decode cX5_takeIn 198 = .ok (.ireturn, 1) := by decide +kernel
theorem dX5_takeIn_199 : decode cX5_takeIn 199 = .ok (.aload_n 0, 1) := by decide +kernel
theorem dX5_takeIn_200 : decode cX5_takeIn 200 = .ok (.getfield 39, 3) := by decide +kernel
theorem dX5_takeIn_203 : decode cX5_takeIn 203 = .ok (.invokevirtual 116, 3) := by decide +kernel
theorem dX5_takeIn_206 : decode cX5_takeIn 206 = .ok (.istore_n 3, 1) := by decide +kernel
theorem dX5_takeIn_207 : decode cX5_takeIn 207 = .ok (.iload_n 3, 1) := by decide +kernel
theorem dX5_takeIn_208 : decode cX5_takeIn 208 = .ok (.iconst 1, 1) := by decide +kernel
theorem dX5_takeIn_209 : decode cX5_takeIn 209 = .ok (.iadd, 1) := by decide +kernel
theorem dX5_takeIn_210 : decode cX5_takeIn 210 = .ok (.istore 4, 2) := by decide +kernel
theorem dX5_takeIn_212 : decode cX5_takeIn 212 = .ok (.aload_n 0, 1) := by decide +kernel
theorem dX5_takeIn_213 : decode cX5_takeIn 213 = .ok (.getfield 39, 3) := by decide +kernel
theorem dX5_takeIn_216 : decode cX5_takeIn 216 = .ok (.invokevirtual 119, 3) := by decide +kernel
theorem dX5_takeIn_219 : decode cX5_takeIn 219 = .ok (.istore 5, 2) := by decide +kernel
theorem dX5_takeIn_221 : decode cX5_takeIn 221 = .ok (.iinc 6 1, 3) := by decide +kernel
theorem dX5_takeIn_224 : decode cX5_takeIn 224 = .ok (.goto (-190), 3) := by decide +kernel
theorem dX5_takeIn_227 : decode cX5_takeIn 227 = .ok (.iconst 1, 1) := by decide +kernel
theorem dX5_takeIn_228 : decode cX5_takeIn 228 = .ok (.ireturn, 1) := by decide +kernel
