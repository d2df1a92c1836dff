theorem dX8_tryPut_0 : decode cX8_tryPut 0 = .ok (.aload_n 0, 1) := by decide +kernel
theorem dX8_tryPut_1 : decode cX8_tryPut 1 = .ok (.getfield 43, 3) := by decide +kernel
theorem dX8_tryPut_4 : decode cX8_tryPut 4 = .ok (.iload_n 1, 1) := by decide +kernel
theorem dX8_tryPut_5 : decode cX8_tryPut 5 = .ok (.invokevirtual 61, 3) := by decide +kernel
theorem dX8_tryPut_8 : decode cX8_tryPut 8 = .ok (.ifCond .ne 5, 3) := by decide +kernel
theorem dX8_tryPut_11 : decode cX8_tryPut 11 = .ok (.iconst 0, 1) := by decide +kernel
theorem dX8_tryPut_12 : decode cX8_tryPut 12 = .ok (.ireturn, 1) := by decide +kernel
theorem dX8_tryPut_13 : decode cX8_tryPut 13 = .ok (.aload_n 0, 1) := by decide +kernel
theorem dX8_tryPut_14 : decode cX8_tryPut 14 = .ok (.getfield 43, 3) := by decide +kernel
theorem dX8_tryPut_17 : decode cX8_tryPut 17 = .ok (.iload_n 1, 1) := by decide +kernel
theorem dX8_tryPut_18 : decode cX8_tryPut 18 = .ok (.iload_n 2, 1) := by decide +kernel
theorem dX8_tryPut_19 : decode cX8_tryPut 19 = .ok (.invokevirtual 72, 3) := by decide +kernel
theorem dX8_tryPut_22 : decode cX8_tryPut 22 = .ok (.iconst 1, 1) := by decide +kernel
theorem dX8_tryPut_23 : decode cX8_tryPut 23 = .ok (.ireturn, 1) := by decide +kernel
theorem dX8_tryRemove_0 : decode cX8_tryRemove 0 = .ok (.aload_n 0, 1) := by decide +kernel
theorem dX8_tryRemove_1 : decode cX8_tryRemove 1 = .ok (.getfield 43, 3) := by decide +kernel
theorem dX8_tryRemove_4 : decode cX8_tryRemove 4 = .ok (.iload_n 1, 1) := by decide +kernel
theorem dX8_tryRemove_5 : decode cX8_tryRemove 5 = .ok (.invokevirtual 79, 3) := by decide +kernel
theorem dX8_tryRemove_8 : decode cX8_tryRemove 8 = .ok (.ifCond .ne 5, 3) := by decide +kernel
theorem dX8_tryRemove_11 : decode cX8_tryRemove 11 = .ok (.iconst 0, 1) := by decide +kernel
theorem dX8_tryRemove_12 : decode cX8_tryRemove 12 = .ok (.ireturn, 1) := by decide +kernel
theorem dX8_tryRemove_13 : decode cX8_tryRemove 13 = .ok (.aload_n 0, 1) := by decide +kernel
theorem dX8_tryRemove_14 : decode cX8_tryRemove 14 = .ok (.getfield 43, 3) := by decide +kernel
theorem dX8_tryRemove_17 : decode cX8_tryRemove 17 = .ok (.iload_n 1, 1) := by decide +kernel
theorem dX8_tryRemove_18 : decode cX8_tryRemove 18 = .ok (.invokevirtual 82, 3) := by decide +kernel
theorem dX8_tryRemove_21 : decode cX8_tryRemove 21 = .ok (.iconst 1, 1) := by decide +kernel
theorem dX8_tryRemove_22 : decode cX8_tryRemove 22 = .ok (.ireturn, 1) := by decide +kernel
theorem dX8_trialTree_0 : decode cX8_trialTree 0 = .ok (.aload_n 0, 1) := by decide +kernel
theorem dX8_trialTree_1 : decode cX8_trialTree 1 = .ok (.getfield 46, 3) := by decide +kernel
theorem dX8_trialTree_4 : decode cX8_trialTree 4 = .ok (.aload_n 0, 1) := by decide +kernel
theorem dX8_trialTree_5 : decode cX8_trialTree 5 = .ok (.getfield 43, 3) := by decide +kernel
theorem dX8_trialTree_8 : decode cX8_trialTree 8 = .ok (.invokevirtual 76, 3) := by decide +kernel
theorem dX8_trialTree_11 : decode cX8_trialTree 11 = .ok (.aload_n 0, 1) := by decide +kernel
theorem dX8_trialTree_12 : decode cX8_trialTree 12 = .ok (.getfield 46, 3) := by decide +kernel
theorem dX8_trialTree_15 : decode cX8_trialTree 15 = .ok (.areturn, 1) := by decide +kernel
theorem dX8_countOtherwise_0 : decode cX8_countOtherwise 0 = .ok (.iconst 0, 1) := by decide +kernel
theorem dX8_countOtherwise_1 : decode cX8_countOtherwise 1 = .ok (.istore_n 2, 1) := by decide +kernel
theorem dX8_countOtherwise_2 : decode cX8_countOtherwise 2 = .ok (.iconst 0, 1) := by decide +kernel
theorem dX8_countOtherwise_3 : decode cX8_countOtherwise 3 = .ok (.istore_n 3, 1) := by decide +kernel
theorem dX8_countOtherwise_4 : decode cX8_countOtherwise 4 = .ok (.iload_n 3, 1) := by decide +kernel
theorem dX8_countOtherwise_5 : decode cX8_countOtherwise 5 = .ok (.bipush 100, 2) := by decide +kernel
theorem dX8_countOtherwise_7 : decode cX8_countOtherwise 7 = .ok (.if_icmp .ge 28, 3) := by decide +kernel
theorem dX8_countOtherwise_10 : decode cX8_countOtherwise 10 = .ok (.aload_n 0, 1) := by decide +kernel
theorem dX8_countOtherwise_11 : decode cX8_countOtherwise 11 = .ok (.getfield 12, 3) := by decide +kernel
theorem dX8_countOtherwise_14 : decode cX8_countOtherwise 14 = .ok (.iload_n 3, 1) := by decide +kernel
theorem dX8_countOtherwise_15 : decode cX8_countOtherwise 15 = .ok (.invokevirtual 64, 3) := by decide +kernel
theorem dX8_countOtherwise_18 : decode cX8_countOtherwise 18 = .ok (.aload_n 1, 1) := by decide +kernel
theorem dX8_countOtherwise_19 : decode cX8_countOtherwise 19 = .ok (.iload_n 3, 1) := by decide +kernel
theorem dX8_countOtherwise_20 : decode cX8_countOtherwise 20 = .ok (.invokevirtual 64, 3) := by decide +kernel
theorem dX8_countOtherwise_23 : decode cX8_countOtherwise 23 = .ok (.if_icmp .eq 6, 3) := by decide +kernel
theorem dX8_countOtherwise_26 : decode cX8_countOtherwise 26 = .ok (.iinc 2 1, 3) := by decide +kernel
theorem dX8_countOtherwise_29 : decode cX8_countOtherwise 29 = .ok (.iinc 3 1, 3) := by decide +kernel
theorem dX8_countOtherwise_32 : decode cX8_countOtherwise 32 = .ok (.goto (-28), 3) := by decide +kernel
theorem dX8_countOtherwise_35 : decode cX8_countOtherwise 35 = .ok (.iload_n 2, 1) := by decide +kernel
theorem dX8_countOtherwise_36 : decode cX8_countOtherwise 36 = .ok (.ireturn, 1) := by decide +kernel
theorem dX8_leastOtherwise_0 : decode cX8_leastOtherwise 0 = .ok (.iconst 0, 1) := by decide +kernel
theorem dX8_leastOtherwise_1 : decode cX8_leastOtherwise 1 = .ok (.istore_n 2, 1) := by decide +kernel
theorem dX8_leastOtherwise_2 : decode cX8_leastOtherwise 2 = .ok (.iload_n 2, 1) := by decide +kernel
theorem dX8_leastOtherwise_3 : decode cX8_leastOtherwise 3 = .ok (.bipush 100, 2) := by decide +kernel
theorem dX8_leastOtherwise_5 : decode cX8_leastOtherwise 5 = .ok (.if_icmp .ge 27, 3) := by decide +kernel
theorem dX8_leastOtherwise_8 : decode cX8_leastOtherwise 8 = .ok (.aload_n 0, 1) := by decide +kernel
theorem dX8_leastOtherwise_9 : decode cX8_leastOtherwise 9 = .ok (.getfield 12, 3) := by decide +kernel
theorem dX8_leastOtherwise_12 : decode cX8_leastOtherwise 12 = .ok (.iload_n 2, 1) := by decide +kernel
theorem dX8_leastOtherwise_13 : decode cX8_leastOtherwise 13 = .ok (.invokevirtual 64, 3) := by decide +kernel
theorem dX8_leastOtherwise_16 : decode cX8_leastOtherwise 16 = .ok (.aload_n 1, 1) := by decide +kernel
theorem dX8_leastOtherwise_17 : decode cX8_leastOtherwise 17 = .ok (.iload_n 2, 1) := by decide +kernel
theorem dX8_leastOtherwise_18 : decode cX8_leastOtherwise 18 = .ok (.invokevirtual 64, 3) := by decide +kernel
theorem dX8_leastOtherwise_21 : decode cX8_leastOtherwise 21 = .ok (.if_icmp .eq 5, 3) := by decide +kernel
theorem dX8_leastOtherwise_24 : decode cX8_leastOtherwise 24 = .ok (.iload_n 2, 1) := by decide +kernel
theorem dX8_leastOtherwise_25 : decode cX8_leastOtherwise 25 = .ok (.ireturn, 1) := by decide +kernel
theorem dX8_leastOtherwise_26 : decode cX8_leastOtherwise 26 = .ok (.iinc 2 1, 3) := by decide +kernel
theorem dX8_leastOtherwise_29 : decode cX8_leastOtherwise 29 = .ok (.goto (-27), 3) := by decide +kernel
theorem dX8_leastOtherwise_32 : decode cX8_leastOtherwise 32 = .ok (.bipush (-9), 2) := by decide +kernel
theorem dX8_leastOtherwise_34 : decode cX8_leastOtherwise 34 = .ok (.ireturn, 1) := by decide +kernel
theorem dX8_countPassedOver_0 : decode cX8_countPassedOver 0 = .ok (.aload_n 0, 1) := by decide +kernel
theorem dX8_countPassedOver_1 : decode cX8_countPassedOver 1 = .ok (.getfield 46, 3) := by decide +kernel
theorem dX8_countPassedOver_4 : decode cX8_countPassedOver 4 = .ok (.aload_n 1, 1) := by decide +kernel
theorem dX8_countPassedOver_5 : decode cX8_countPassedOver 5 = .ok (.invokevirtual 76, 3) := by decide +kernel
theorem dX8_countPassedOver_8 : decode cX8_countPassedOver 8 = .ok (.iconst 0, 1) := by decide +kernel
theorem dX8_countPassedOver_9 : decode cX8_countPassedOver 9 = .ok (.istore_n 2, 1) := by decide +kernel
theorem dX8_countPassedOver_10 : decode cX8_countPassedOver 10 = .ok (.iconst 0, 1) := by decide +kernel
theorem dX8_countPassedOver_11 : decode cX8_countPassedOver 11 = .ok (.istore_n 3, 1) := by decide +kernel
theorem dX8_countPassedOver_12 : decode cX8_countPassedOver 12 = .ok (.iload_n 3, 1) := by decide +kernel
theorem dX8_countPassedOver_13 : decode cX8_countPassedOver 13 = .ok (.bipush 100, 2) := by decide +kernel
theorem dX8_countPassedOver_15 : decode cX8_countPassedOver 15 = .ok (.if_icmp .ge 27, 3) := by decide +kernel
theorem dX8_countPassedOver_18 : decode cX8_countPassedOver 18 = .ok (.aload_n 0, 1) := by decide +kernel
theorem dX8_countPassedOver_19 : decode cX8_countPassedOver 19 = .ok (.getfield 19, 3) := by decide +kernel
theorem dX8_countPassedOver_22 : decode cX8_countPassedOver 22 = .ok (.iload_n 3, 1) := by decide +kernel
theorem dX8_countPassedOver_23 : decode cX8_countPassedOver 23 = .ok (.aload_n 0, 1) := by decide +kernel
theorem dX8_countPassedOver_24 : decode cX8_countPassedOver 24 = .ok (.getfield 46, 3) := by decide +kernel
theorem dX8_countPassedOver_27 : decode cX8_countPassedOver 27 = .ok (.invokevirtual 271, 3) := by decide +kernel
theorem dX8_countPassedOver_30 : decode cX8_countPassedOver 30 = .ok (.ifCond .eq 6, 3) := by decide +kernel
theorem dX8_countPassedOver_33 : decode cX8_countPassedOver 33 = .ok (.iinc 2 1, 3) := by decide +kernel
theorem dX8_countPassedOver_36 : decode cX8_countPassedOver 36 = .ok (.iinc 3 1, 3) := by decide +kernel
theorem dX8_countPassedOver_39 : decode cX8_countPassedOver 39 = .ok (.goto (-27), 3) := by decide +kernel
theorem dX8_countPassedOver_42 : decode cX8_countPassedOver 42 = .ok (.iload_n 2, 1) := by decide +kernel
theorem dX8_countPassedOver_43 : decode cX8_countPassedOver 43 = .ok (.ireturn, 1) := by decide +kernel
theorem dX8_countNodesPassedOver_0 : decode cX8_countNodesPassedOver 0 = .ok (.aload_n 0, 1) := by decide +kernel
theorem dX8_countNodesPassedOver_1 : decode cX8_countNodesPassedOver 1 = .ok (.getfield 46, 3) := by decide +kernel
theorem dX8_countNodesPassedOver_4 : decode cX8_countNodesPassedOver 4 = .ok (.aload_n 1, 1) := by decide +kernel
theorem dX8_countNodesPassedOver_5 : decode cX8_countNodesPassedOver 5 = .ok (.invokevirtual 76, 3) := by decide +kernel
theorem dX8_countNodesPassedOver_8 : decode cX8_countNodesPassedOver 8 = .ok (.iconst 0, 1) := by decide +kernel
theorem dX8_countNodesPassedOver_9 : decode cX8_countNodesPassedOver 9 = .ok (.istore_n 2, 1) := by decide +kernel
theorem dX8_countNodesPassedOver_10 : decode cX8_countNodesPassedOver 10 = .ok (.iconst 0, 1) := by decide +kernel
theorem dX8_countNodesPassedOver_11 : decode cX8_countNodesPassedOver 11 = .ok (.istore_n 3, 1) := by decide +kernel
theorem dX8_countNodesPassedOver_12 : decode cX8_countNodesPassedOver 12 = .ok (.iload_n 3, 1) := by decide +kernel
theorem dX8_countNodesPassedOver_13 : decode cX8_countNodesPassedOver 13 = .ok (.bipush 100, 2) := by decide +kernel
theorem dX8_countNodesPassedOver_15 : decode cX8_countNodesPassedOver 15 = .ok (.if_icmp .ge 54, 3) := by decide +kernel
theorem dX8_countNodesPassedOver_18 : decode cX8_countNodesPassedOver 18 = .ok (.aload_n 0, 1) := by decide +kernel
theorem dX8_countNodesPassedOver_19 : decode cX8_countNodesPassedOver 19 = .ok (.getfield 19, 3) := by decide +kernel
theorem dX8_countNodesPassedOver_22 : decode cX8_countNodesPassedOver 22 = .ok (.iload_n 3, 1) := by decide +kernel
theorem dX8_countNodesPassedOver_23 : decode cX8_countNodesPassedOver 23 = .ok (.aload_n 0, 1) := by decide +kernel
theorem dX8_countNodesPassedOver_24 : decode cX8_countNodesPassedOver 24 = .ok (.getfield 46, 3) := by decide +kernel
theorem dX8_countNodesPassedOver_27 : decode cX8_countNodesPassedOver 27 = .ok (.invokevirtual 271, 3) := by decide +kernel
theorem dX8_countNodesPassedOver_30 : decode cX8_countNodesPassedOver 30 = .ok (.ifCond .eq 33, 3) := by decide +kernel
theorem dX8_countNodesPassedOver_33 : decode cX8_countNodesPassedOver 33 = .ok (.aload_n 0, 1) := by decide +kernel
theorem dX8_countNodesPassedOver_34 : decode cX8_countNodesPassedOver 34 = .ok (.getfield 19, 3) := by decide +kernel
theorem dX8_countNodesPassedOver_37 : decode cX8_countNodesPassedOver 37 = .ok (.iload_n 3, 1) := by decide +kernel
theorem dX8_countNodesPassedOver_38 : decode cX8_countNodesPassedOver 38 = .ok (.invokevirtual 119, 3) := by decide +kernel
theorem dX8_countNodesPassedOver_41 : decode cX8_countNodesPassedOver 41 = .ok (.astore 4, 2) := by decide +kernel
theorem dX8_countNodesPassedOver_43 : decode cX8_countNodesPassedOver 43 = .ok (.iload_n 2, 1) := by decide +kernel
theorem dX8_countNodesPassedOver_44 : decode cX8_countNodesPassedOver 44 = .ok (.aload_n 0, 1) := by decide +kernel
theorem dX8_countNodesPassedOver_45 : decode cX8_countNodesPassedOver 45 = .ok (.getfield 12, 3) := by decide +kernel
theorem dX8_countNodesPassedOver_48 : decode cX8_countNodesPassedOver 48 = .ok (.aload 4, 2) := by decide +kernel
theorem dX8_countNodesPassedOver_50 : decode cX8_countNodesPassedOver 50 = .ok (.getfield 138, 3) := by decide +kernel
theorem dX8_countNodesPassedOver_53 : decode cX8_countNodesPassedOver 53 = .ok (.aload 4, 2) := by decide +kernel
theorem dX8_countNodesPassedOver_55 : decode cX8_countNodesPassedOver 55 = .ok (.getfield 141, 3) := by decide +kernel
theorem dX8_countNodesPassedOver_58 : decode cX8_countNodesPassedOver 58 = .ok (.invokevirtual 144, 3) := by decide +kernel
theorem dX8_countNodesPassedOver_61 : decode cX8_countNodesPassedOver 61 = .ok (.iadd, 1) := by decide +kernel
theorem dX8_countNodesPassedOver_62 : decode cX8_countNodesPassedOver 62 = .ok (.istore_n 2, 1) := by decide +kernel
theorem dX8_countNodesPassedOver_63 : decode cX8_countNodesPassedOver 63 = .ok (.iinc 3 1, 3) := by decide +kernel
theorem dX8_countNodesPassedOver_66 : decode cX8_countNodesPassedOver 66 = .ok (.goto (-54), 3) := by decide +kernel
theorem dX8_countNodesPassedOver_69 : decode cX8_countNodesPassedOver 69 = .ok (.iload_n 2, 1) := by decide +kernel
theorem dX8_countNodesPassedOver_70 : decode cX8_countNodesPassedOver 70 = .ok (.ireturn, 1) := by decide +kernel
theorem dX8_isNumber_0 : decode cX8_isNumber 0 = .ok (.iload_n 0, 1) := by decide +kernel
theorem dX8_isNumber_1 : decode cX8_isNumber 1 = .ok (.ifCond .lt 13, 3) := by decide +kernel
theorem dX8_isNumber_4 : decode cX8_isNumber 4 = .ok (.iload_n 0, 1) := by decide +kernel
theorem dX8_isNumber_5 : decode cX8_isNumber 5 = .ok (.bipush 100, 2) := by decide +kernel
theorem dX8_isNumber_7 : decode cX8_isNumber 7 = .ok (.if_icmp .ge 7, 3) := by decide +kernel
theorem dX8_isNumber_10 : decode cX8_isNumber 10 = .ok (.iconst 1, 1) := by decide +kernel
theorem dX8_isNumber_11 : decode cX8_isNumber 11 = .ok (.goto 4, 3) := by decide +kernel
theorem dX8_isNumber_14 : decode cX8_isNumber 14 = .ok (.iconst 0, 1) := by decide +kernel
theorem dX8_isNumber_15 : decode cX8_isNumber 15 = .ok (.ireturn, 1) := by decide +kernel
theorem dX8_isRange_0 : decode cX8_isRange 0 = .ok (.iconst 0, 1) := by decide +kernel
theorem dX8_isRange_1 : decode cX8_isRange 1 = .ok (.iload_n 0, 1) := by decide +kernel
theorem dX8_isRange_2 : decode cX8_isRange 2 = .ok (.if_icmp .gt 18, 3) := by decide +kernel
theorem dX8_isRange_5 : decode cX8_isRange 5 = .ok (.iload_n 0, 1) := by decide +kernel
theorem dX8_isRange_6 : decode cX8_isRange 6 = .ok (.iload_n 1, 1) := by decide +kernel
theorem dX8_isRange_7 : decode cX8_isRange 7 = .ok (.if_icmp .gt 13, 3) := by decide +kernel
theorem dX8_isRange_10 : decode cX8_isRange 10 = .ok (.iload_n 1, 1) := by decide +kernel
theorem dX8_isRange_11 : decode cX8_isRange 11 = .ok (.bipush 100, 2) := by decide +kernel
theorem dX8_isRange_13 : decode cX8_isRange 13 = .ok (.if_icmp .ge 7, 3) := by decide +kernel
theorem dX8_isRange_16 : decode cX8_isRange 16 = .ok (.iconst 1, 1) := by decide +kernel
theorem dX8_isRange_17 : decode cX8_isRange 17 = .ok (.goto 4, 3) := by decide +kernel
theorem dX8_isRange_20 : decode cX8_isRange 20 = .ok (.iconst 0, 1) := by decide +kernel
theorem dX8_isRange_21 : decode cX8_isRange 21 = .ok (.ireturn, 1) := by decide +kernel
theorem dX8_isItem_0 : decode cX8_isItem 0 = .ok (.iload_n 0, 1) := by decide +kernel
theorem dX8_isItem_1 : decode cX8_isItem 1 = .ok (.ifCond .ge 10, 3) := by decide +kernel
theorem dX8_isItem_4 : decode cX8_isItem 4 = .ok (.iload_n 0, 1) := by decide +kernel
theorem dX8_isItem_5 : decode cX8_isItem 5 = .ok (.invokestatic 275, 3) := by decide +kernel
theorem dX8_isItem_8 : decode cX8_isItem 8 = .ok (.ifCond .eq 7, 3) := by decide +kernel
theorem dX8_isItem_11 : decode cX8_isItem 11 = .ok (.iconst 1, 1) := by decide +kernel
theorem dX8_isItem_12 : decode cX8_isItem 12 = .ok (.goto 4, 3) := by decide +kernel
theorem dX8_isItem_15 : decode cX8_isItem 15 = .ok (.iconst 0, 1) := by decide +kernel
theorem dX8_isItem_16 : decode cX8_isItem 16 = .ok (.ireturn, 1) := by decide +kernel
theorem dX8_isNodeItem_0 : decode cX8_isNodeItem 0 = .ok (.iload_n 0, 1) := by decide +kernel
theorem dX8_isNodeItem_1 : decode cX8_isNodeItem 1 = .ok (.bipush (-100), 2) := by decide +kernel
theorem dX8_isNodeItem_3 : decode cX8_isNodeItem 3 = .ok (.if_icmp .gt 14, 3) := by decide +kernel
theorem dX8_isNodeItem_6 : decode cX8_isNodeItem 6 = .ok (.iload_n 0, 1) := by decide +kernel
theorem dX8_isNodeItem_7 : decode cX8_isNodeItem 7 = .ok (.sipush (-10099), 3) := by decide +kernel
theorem dX8_isNodeItem_10 : decode cX8_isNodeItem 10 = .ok (.if_icmp .lt 7, 3) := by decide +kernel
theorem dX8_isNodeItem_13 : decode cX8_isNodeItem 13 = .ok (.iconst 1, 1) := by decide +kernel
theorem dX8_isNodeItem_14 : decode cX8_isNodeItem 14 = .ok (.goto 4, 3) := by decide +kernel
theorem dX8_isNodeItem_17 : decode cX8_isNodeItem 17 = .ok (.iconst 0, 1) := by decide +kernel
theorem dX8_isNodeItem_18 : decode cX8_isNodeItem 18 = .ok (.ireturn, 1) := by decide +kernel
theorem dX8_isStep_0 : decode cX8_isStep 0 = .ok (.iload_n 0, 1) := by decide +kernel
theorem dX8_isStep_1 : decode cX8_isStep 1 = .ok (.invokestatic 57, 3) := by decide +kernel
theorem dX8_isStep_4 : decode cX8_isStep 4 = .ok (.ifCond .eq 20, 3) := by decide +kernel
theorem dX8_isStep_7 : decode cX8_isStep 7 = .ok (.iload_n 1, 1) := by decide +kernel
theorem dX8_isStep_8 : decode cX8_isStep 8 = .ok (.invokestatic 57, 3) := by decide +kernel
theorem dX8_isStep_11 : decode cX8_isStep 11 = .ok (.ifCond .ne 9, 3) := by decide +kernel
theorem dX8_isStep_14 : decode cX8_isStep 14 = .ok (.iload_n 1, 1) := by decide +kernel
theorem dX8_isStep_15 : decode cX8_isStep 15 = .ok (.bipush (-9), 2) := by decide +kernel
theorem dX8_isStep_17 : decode cX8_isStep 17 = .ok (.if_icmp .ne 7, 3) := by decide +kernel
theorem dX8_isStep_20 : decode cX8_isStep 20 = .ok (.iconst 1, 1) := by decide +kernel
theorem dX8_isStep_21 : decode cX8_isStep 21 = .ok (.goto 4, 3) := by decide +kernel
theorem dX8_isStep_24 : decode cX8_isStep 24 = .ok (.iconst 0, 1) := by decide +kernel
theorem dX8_isStep_25 : decode cX8_isStep 25 = .ok (.ireturn, 1) := by decide +kernel
theorem dX8_isSlot_0 : decode cX8_isSlot 0 = .ok (.iload_n 0, 1) := by decide +kernel
theorem dX8_isSlot_1 : decode cX8_isSlot 1 = .ok (.ifCond .lt 12, 3) := by decide +kernel
theorem dX8_isSlot_4 : decode cX8_isSlot 4 = .ok (.iload_n 0, 1) := by decide +kernel
theorem dX8_isSlot_5 : decode cX8_isSlot 5 = .ok (.iconst 2, 1) := by decide +kernel
theorem dX8_isSlot_6 : decode cX8_isSlot 6 = .ok (.if_icmp .ge 7, 3) := by decide +kernel
theorem dX8_isSlot_9 : decode cX8_isSlot 9 = .ok (.iconst 1, 1) := by decide +kernel
theorem dX8_isSlot_10 : decode cX8_isSlot 10 = .ok (.goto 4, 3) := by decide +kernel
theorem dX8_isSlot_13 : decode cX8_isSlot 13 = .ok (.iconst 0, 1) := by decide +kernel
theorem dX8_isSlot_14 : decode cX8_isSlot 14 = .ok (.ireturn, 1) := by decide +kernel
theorem dX8_rankOf_0 : decode cX8_rankOf 0 = .ok (.iload_n 0, 1) := by decide +kernel
theorem dX8_rankOf_1 : decode cX8_rankOf 1 = .ok (.i2l, 1) := by decide +kernel
theorem dX8_rankOf_2 : decode cX8_rankOf 2 = .ok (.ldc2_w 278, 3) := by decide +kernel
theorem dX8_rankOf_5 : decode cX8_rankOf 5 = .ok (.ladd, 1) := by decide +kernel
theorem dX8_rankOf_6 : decode cX8_rankOf 6 = .ok (.lstore_n 1, 1) := by decide +kernel
theorem dX8_rankOf_7 : decode cX8_rankOf 7 = .ok (.ldc2_w 280, 3) := by decide +kernel
theorem dX8_rankOf_10 : decode cX8_rankOf 10 = .ok (.lload_n 1, 1) := by decide +kernel
theorem dX8_rankOf_11 : decode cX8_rankOf 11 = .ok (.lmul, 1) := by decide +kernel
theorem dX8_rankOf_12 : decode cX8_rankOf 12 = .ok (.lload_n 1, 1) := by decide +kernel
theorem dX8_rankOf_13 : decode cX8_rankOf 13 = .ok (.lmul, 1) := by decide +kernel
theorem dX8_rankOf_14 : decode cX8_rankOf 14 = .ok (.lload_n 1, 1) := by decide +kernel
theorem dX8_rankOf_15 : decode cX8_rankOf 15 = .ok (.lmul, 1) := by decide +kernel
theorem dX8_rankOf_16 : decode cX8_rankOf 16 = .ok (.ldc2_w 282, 3) := by decide +kernel
theorem dX8_rankOf_19 : decode cX8_rankOf 19 = .ok (.lrem, 1) := by decide +kernel
theorem dX8_rankOf_20 : decode cX8_rankOf 20 = .ok (.l2i, 1) := by decide +kernel
theorem dX8_rankOf_21 : decode cX8_rankOf 21 = .ok (.ireturn, 1) := by decide +kernel
theorem dX8_isAbove_0 : decode cX8_isAbove 0 = .ok (.iload_n 0, 1) := by decide +kernel
theorem dX8_isAbove_1 : decode cX8_isAbove 1 = .ok (.invokestatic 150, 3) := by decide +kernel
theorem dX8_isAbove_4 : decode cX8_isAbove 4 = .ok (.istore_n 2, 1) := by decide +kernel
theorem dX8_isAbove_5 : decode cX8_isAbove 5 = .ok (.iload_n 1, 1) := by decide +kernel
theorem dX8_isAbove_6 : decode cX8_isAbove 6 = .ok (.invokestatic 150, 3) := by decide +kernel
theorem dX8_isAbove_9 : decode cX8_isAbove 9 = .ok (.istore_n 3, 1) := by decide +kernel
theorem dX8_isAbove_10 : decode cX8_isAbove 10 = .ok (.iload_n 2, 1) := by decide +kernel
theorem dX8_isAbove_11 : decode cX8_isAbove 11 = .ok (.iload_n 3, 1) := by decide +kernel
theorem dX8_isAbove_12 : decode cX8_isAbove 12 = .ok (.if_icmp .ne 16, 3) := by decide +kernel
theorem dX8_isAbove_15 : decode cX8_isAbove 15 = .ok (.iload_n 0, 1) := by decide +kernel
theorem dX8_isAbove_16 : decode cX8_isAbove 16 = .ok (.iload_n 1, 1) := by decide +kernel
theorem dX8_isAbove_17 : decode cX8_isAbove 17 = .ok (.if_icmp .ge 7, 3) := by decide +kernel
theorem dX8_isAbove_20 : decode cX8_isAbove 20 = .ok (.iconst 1, 1) := by decide +kernel
theorem dX8_isAbove_21 : decode cX8_isAbove 21 = .ok (.goto 17, 3) := by decide +kernel
theorem dX8_isAbove_24 : decode cX8_isAbove 24 = .ok (.iconst 0, 1) := by decide +kernel
theorem dX8_isAbove_25 : decode cX8_isAbove 25 = .ok (.goto 13, 3) := by decide +kernel
theorem dX8_isAbove_28 : decode cX8_isAbove 28 = .ok (.iload_n 2, 1) := by decide +kernel
theorem dX8_isAbove_29 : decode cX8_isAbove 29 = .ok (.iload_n 3, 1) := by decide +kernel
theorem dX8_isAbove_30 : decode cX8_isAbove 30 = .ok (.if_icmp .le 7, 3) := by decide +kernel
theorem dX8_isAbove_33 : decode cX8_isAbove 33 = .ok (.iconst 1, 1) := by decide +kernel
theorem dX8_isAbove_34 : decode cX8_isAbove 34 = .ok (.goto 4, 3) := by decide +kernel
theorem dX8_isAbove_37 : decode cX8_isAbove 37 = .ok (.iconst 0, 1) := by decide +kernel
theorem dX8_isAbove_38 : decode cX8_isAbove 38 = .ok (.ireturn, 1) := by decide +kernel
theorem dX8_digestOfNode_0 : decode cX8_digestOfNode 0 = .ok (.ldc2_w 284, 3) := by decide +kernel
theorem dX8_digestOfNode_3 : decode cX8_digestOfNode 3 = .ok (.lstore 4, 2) := by decide +kernel
theorem dX8_digestOfNode_5 : decode cX8_digestOfNode 5 = .ok (.lload 4, 2) := by decide +kernel
theorem dX8_digestOfNode_7 : decode cX8_digestOfNode 7 = .ok (.iload_n 0, 1) := by decide +kernel
theorem dX8_digestOfNode_8 : decode cX8_digestOfNode 8 = .ok (.invokestatic 286, 3) := by decide +kernel
theorem dX8_digestOfNode_11 : decode cX8_digestOfNode 11 = .ok (.lstore 4, 2) := by decide +kernel
theorem dX8_digestOfNode_13 : decode cX8_digestOfNode 13 = .ok (.lload 4, 2) := by decide +kernel
theorem dX8_digestOfNode_15 : decode cX8_digestOfNode 15 = .ok (.iload_n 1, 1) := by decide +kernel
theorem dX8_digestOfNode_16 : decode cX8_digestOfNode 16 = .ok (.invokestatic 286, 3) := by decide +kernel
theorem dX8_digestOfNode_19 : decode cX8_digestOfNode 19 = .ok (.lstore 4, 2) := by decide +kernel
theorem dX8_digestOfNode_21 : decode cX8_digestOfNode 21 = .ok (.lload 4, 2) := by decide +kernel
theorem dX8_digestOfNode_23 : decode cX8_digestOfNode 23 = .ok (.iload_n 2, 1) := by decide +kernel
theorem dX8_digestOfNode_24 : decode cX8_digestOfNode 24 = .ok (.invokestatic 286, 3) := by decide +kernel
theorem dX8_digestOfNode_27 : decode cX8_digestOfNode 27 = .ok (.lstore 4, 2) := by decide +kernel
theorem dX8_digestOfNode_29 : decode cX8_digestOfNode 29 = .ok (.lload 4, 2) := by decide +kernel
theorem dX8_digestOfNode_31 : decode cX8_digestOfNode 31 = .ok (.iload_n 3, 1) := by decide +kernel
theorem dX8_digestOfNode_32 : decode cX8_digestOfNode 32 = .ok (.invokestatic 286, 3) := by decide +kernel
theorem dX8_digestOfNode_35 : decode cX8_digestOfNode 35 = .ok (.lstore 4, 2) := by decide +kernel
theorem dX8_digestOfNode_37 : decode cX8_digestOfNode 37 = .ok (.lconst 1, 1) := by decide +kernel
theorem dX8_digestOfNode_38 : decode cX8_digestOfNode 38 = .ok (.lload 4, 2) := by decide +kernel
theorem dX8_digestOfNode_40 : decode cX8_digestOfNode 40 = .ok (.ladd, 1) := by decide +kernel
theorem dX8_digestOfNode_41 : decode cX8_digestOfNode 41 = .ok (.l2i, 1) := by decide +kernel
theorem dX8_digestOfNode_42 : decode cX8_digestOfNode 42 = .ok (.ireturn, 1) := by decide +kernel
theorem dX8_mixed_0 : decode cX8_mixed 0 = .ok (.ldc2_w 290, 3) := by decide +kernel
theorem dX8_mixed_3 : decode cX8_mixed 3 = .ok (.lload_n 0, 1) := by decide +kernel
theorem dX8_mixed_4 : decode cX8_mixed 4 = .ok (.lmul, 1) := by decide +kernel
theorem dX8_mixed_5 : decode cX8_mixed 5 = .ok (.iload_n 2, 1) := by decide +kernel
theorem dX8_mixed_6 : decode cX8_mixed 6 = .ok (.i2l, 1) := by decide +kernel
theorem dX8_mixed_7 : decode cX8_mixed 7 = .ok (.ladd, 1) := by decide +kernel
theorem dX8_mixed_8 : decode cX8_mixed 8 = .ok (.ldc2_w 292, 3) := by decide +kernel
theorem dX8_mixed_11 : decode cX8_mixed 11 = .ok (.lrem, 1) := by decide +kernel
theorem dX8_mixed_12 : decode cX8_mixed 12 = .ok (.lreturn, 1) := by decide +kernel
theorem dX8_nodeItem_0 : decode cX8_nodeItem 0 = .ok (.bipush (-100), 2) := by decide +kernel
theorem dX8_nodeItem_2 : decode cX8_nodeItem 2 = .ok (.bipush 100, 2) := by decide +kernel
theorem dX8_nodeItem_4 : decode cX8_nodeItem 4 = .ok (.iload_n 0, 1) := by decide +kernel
theorem dX8_nodeItem_5 : decode cX8_nodeItem 5 = .ok (.imul, 1) := by decide +kernel
theorem dX8_nodeItem_6 : decode cX8_nodeItem 6 = .ok (.iload_n 1, 1) := by decide +kernel
theorem dX8_nodeItem_7 : decode cX8_nodeItem 7 = .ok (.iadd, 1) := by decide +kernel
theorem dX8_nodeItem_8 : decode cX8_nodeItem 8 = .ok (.isub, 1) := by decide +kernel
theorem dX8_nodeItem_9 : decode cX8_nodeItem 9 = .ok (.ireturn, 1) := by decide +kernel
theorem dX8_keyOfItem_0 : decode cX8_keyOfItem 0 = .ok (.bipush (-100), 2) := by decide +kernel
theorem dX8_keyOfItem_2 : decode cX8_keyOfItem 2 = .ok (.iload_n 0, 1) := by decide +kernel
theorem dX8_keyOfItem_3 : decode cX8_keyOfItem 3 = .ok (.isub, 1) := by decide +kernel
theorem dX8_keyOfItem_4 : decode cX8_keyOfItem 4 = .ok (.bipush 100, 2) := by decide +kernel
theorem dX8_keyOfItem_6 : decode cX8_keyOfItem 6 = .ok (.idiv, 1) := by decide +kernel
theorem dX8_keyOfItem_7 : decode cX8_keyOfItem 7 = .ok (.ireturn, 1) := by decide +kernel
theorem dX8_valueOfItem_0 : decode cX8_valueOfItem 0 = .ok (.bipush (-100), 2) := by decide +kernel
theorem dX8_valueOfItem_2 : decode cX8_valueOfItem 2 = .ok (.iload_n 0, 1) := by decide +kernel
theorem dX8_valueOfItem_3 : decode cX8_valueOfItem 3 = .ok (.isub, 1) := by decide +kernel
theorem dX8_valueOfItem_4 : decode cX8_valueOfItem 4 = .ok (.bipush 100, 2) := by decide +kernel
theorem dX8_valueOfItem_6 : decode cX8_valueOfItem 6 = .ok (.irem, 1) := by decide +kernel
theorem dX8_valueOfItem_7 : decode cX8_valueOfItem 7 = .ok (.ireturn, 1) := by decide +kernel
theorem dX9_init_0 : decode cX9_init 0 = .ok (.aload_n 0, 1) := by decide +kernel
theorem dX9_init_1 : decode cX9_init 1 = .ok (.invokespecial 1, 3) := by decide +kernel
theorem dX9_init_4 : decode cX9_init 4 = .ok (.aload_n 0, 1) := by decide +kernel
theorem dX9_init_5 : decode cX9_init 5 = .ok (.bipush 100, 2) := by decide +kernel
theorem dX9_init_7 : decode cX9_init 7 = .ok (.newarray .int, 2) := by decide +kernel
theorem dX9_init_9 : decode cX9_init 9 = .ok (.putfield 7, 3) := by decide +kernel
theorem dX9_init_12 : decode cX9_init 12 = .ok (.aload_n 0, 1) := by decide +kernel
theorem dX9_init_13 : decode cX9_init 13 = .ok (.bipush 100, 2) := by decide +kernel
theorem dX9_init_15 : decode cX9_init 15 = .ok (.newarray .int, 2) := by decide +kernel
theorem dX9_init_17 : decode cX9_init 17 = .ok (.putfield 13, 3) := by decide +kernel
theorem dX9_init_20 : decode cX9_init 20 = .ok (.aload_n 0, 1) := by decide +kernel
theorem dX9_init_21 : decode cX9_init 21 = .ok (.sipush 1400, 3) := by decide +kernel
theorem dX9_init_24 : decode cX9_init 24 = .ok (.newarray .int, 2) := by decide +kernel
theorem dX9_init_26 : decode cX9_init 26 = .ok (.putfield 16, 3) := by decide +kernel
theorem dX9_init_29 : decode cX9_init 29 = .ok (.aload_n 0, 1) := by decide +kernel
theorem dX9_init_30 : decode cX9_init 30 = .ok (.sipush 200, 3) := by decide +kernel
theorem dX9_init_33 : decode cX9_init 33 = .ok (.newarray .int, 2) := by decide +kernel
theorem dX9_init_35 : decode cX9_init 35 = .ok (.putfield 19, 3) := by decide +kernel
theorem dX9_init_38 : decode cX9_init 38 = .ok (.aload_n 0, 1) := by decide +kernel
theorem dX9_init_39 : decode cX9_init 39 = .ok (.iconst 2, 1) := by decide +kernel
theorem dX9_init_40 : decode cX9_init 40 = .ok (.newarray .boolean, 2) := by decide +kernel
theorem dX9_init_42 : decode cX9_init 42 = .ok (.putfield 22, 3) := by decide +kernel
theorem dX9_init_45 : decode cX9_init 45 = .ok (.aload_n 0, 1) := by decide +kernel
theorem dX9_init_46 : decode cX9_init 46 = .ok (.sipush 200, 3) := by decide +kernel
theorem dX9_init_49 : decode cX9_init 49 = .ok (.newarray .int, 2) := by decide +kernel
theorem dX9_init_51 : decode cX9_init 51 = .ok (.putfield 26, 3) := by decide +kernel
theorem dX9_init_54 : decode cX9_init 54 = .ok (.aload_n 0, 1) := by decide +kernel
theorem dX9_init_55 : decode cX9_init 55 = .ok (.sipush 200, 3) := by decide +kernel
theorem dX9_init_58 : decode cX9_init 58 = .ok (.newarray .int, 2) := by decide +kernel
theorem dX9_init_60 : decode cX9_init 60 = .ok (.putfield 29, 3) := by decide +kernel
theorem dX9_init_63 : decode cX9_init 63 = .ok (.aload_n 0, 1) := by decide +kernel
theorem dX9_init_64 : decode cX9_init 64 = .ok (.sipush 200, 3) := by decide +kernel
theorem dX9_init_67 : decode cX9_init 67 = .ok (.newarray .int, 2) := by decide +kernel
theorem dX9_init_69 : decode cX9_init 69 = .ok (.putfield 32, 3) := by decide +kernel
theorem dX9_init_72 : decode cX9_init 72 = .ok (.aload_n 0, 1) := by decide +kernel
theorem dX9_init_73 : decode cX9_init 73 = .ok (.sipush 200, 3) := by decide +kernel
theorem dX9_init_76 : decode cX9_init 76 = .ok (.newarray .int, 2) := by decide +kernel
theorem dX9_init_78 : decode cX9_init 78 = .ok (.putfield 35, 3) := by decide +kernel
theorem dX9_init_81 : decode cX9_init 81 = .ok (.aload_n 0, 1) := by decide +kernel
theorem dX9_init_82 : decode cX9_init 82 = .ok (.sipush 200, 3) := by decide +kernel
theorem dX9_init_85 : decode cX9_init 85 = .ok (.newarray .int, 2) := by decide +kernel
theorem dX9_init_87 : decode cX9_init 87 = .ok (.putfield 38, 3) := by decide +kernel
theorem dX9_init_90 : decode cX9_init 90 = .ok (.aload_n 0, 1) := by decide +kernel
theorem dX9_init_91 : decode cX9_init 91 = .ok (.sipush 200, 3) := by decide +kernel
theorem dX9_init_94 : decode cX9_init 94 = .ok (.newarray .int, 2) := by decide +kernel
theorem dX9_init_96 : decode cX9_init 96 = .ok (.putfield 41, 3) := by decide +kernel
theorem dX9_init_99 : decode cX9_init 99 = .ok (.aload_n 0, 1) := by decide +kernel
theorem dX9_init_100 : decode cX9_init 100 = .ok (.sipush 200, 3) := by decide +kernel
theorem dX9_init_103 : decode cX9_init 103 = .ok (.newarray .int, 2) := by decide +kernel
theorem dX9_init_105 : decode cX9_init 105 = .ok (.putfield 44, 3) := by decide +kernel
theorem dX9_init_108 : decode cX9_init 108 = .ok (.aload_n 0, 1) := by decide +kernel
theorem dX9_init_109 : decode cX9_init 109 = .ok (.sipush 200, 3) := by decide +kernel
theorem dX9_init_112 : decode cX9_init 112 = .ok (.newarray .int, 2) := by decide +kernel
theorem dX9_init_114 : decode cX9_init 114 = .ok (.putfield 47, 3) := by decide +kernel
theorem dX9_init_117 : decode cX9_init 117 = .ok (.aload_n 0, 1) := by decide +kernel
theorem dX9_init_118 : decode cX9_init 118 = .ok (.iconst 2, 1) := by decide +kernel
theorem dX9_init_119 : decode cX9_init 119 = .ok (.newarray .int, 2) := by decide +kernel
theorem dX9_init_121 : decode cX9_init 121 = .ok (.putfield 50, 3) := by decide +kernel
theorem dX9_init_124 : decode cX9_init 124 = .ok (.aload_n 0, 1) := by decide +kernel
theorem dX9_init_125 : decode cX9_init 125 = .ok (.bipush 100, 2) := by decide +kernel
theorem dX9_init_127 : decode cX9_init 127 = .ok (.newarray .int, 2) := by decide +kernel
theorem dX9_init_129 : decode cX9_init 129 = .ok (.putfield 53, 3) := by decide +kernel
theorem dX9_init_132 : decode cX9_init 132 = .ok (.aload_n 0, 1) := by decide +kernel
theorem dX9_init_133 : decode cX9_init 133 = .ok (.bipush 110, 2) := by decide +kernel
theorem dX9_init_135 : decode cX9_init 135 = .ok (.newarray .int, 2) := by decide +kernel
theorem dX9_init_137 : decode cX9_init 137 = .ok (.putfield 56, 3) := by decide +kernel
theorem dX9_init_140 : decode cX9_init 140 = .ok (.aload_n 0, 1) := by decide +kernel
theorem dX9_init_141 : decode cX9_init 141 = .ok (.bipush 110, 2) := by decide +kernel
theorem dX9_init_143 : decode cX9_init 143 = .ok (.newarray .int, 2) := by decide +kernel
theorem dX9_init_145 : decode cX9_init 145 = .ok (.putfield 59, 3) := by decide +kernel
theorem dX9_init_148 : decode cX9_init 148 = .ok (.aload_n 0, 1) := by decide +kernel
theorem dX9_init_149 : decode cX9_init 149 = .ok (.bipush 110, 2) := by decide +kernel
theorem dX9_init_151 : decode cX9_init 151 = .ok (.newarray .int, 2) := by decide +kernel
theorem dX9_init_153 : decode cX9_init 153 = .ok (.putfield 62, 3) := by decide +kernel
theorem dX9_init_156 : decode cX9_init 156 = .ok (.aload_n 0, 1) := by decide +kernel
theorem dX9_init_157 : decode cX9_init 157 = .ok (.bipush 110, 2) := by decide +kernel
theorem dX9_init_159 : decode cX9_init 159 = .ok (.newarray .int, 2) := by decide +kernel
theorem dX9_init_161 : decode cX9_init 161 = .ok (.putfield 65, 3) := by decide +kernel
theorem dX9_init_164 : decode cX9_init 164 = .ok (.aload_n 0, 1) := by decide +kernel
theorem dX9_init_165 : decode cX9_init 165 = .ok (.bipush 100, 2) := by decide +kernel
theorem dX9_init_167 : decode cX9_init 167 = .ok (.newarray .int, 2) := by decide +kernel
theorem dX9_init_169 : decode cX9_init 169 = .ok (.putfield 68, 3) := by decide +kernel
theorem dX9_init_172 : decode cX9_init 172 = .ok (.aload_n 0, 1) := by decide +kernel
theorem dX9_init_173 : decode cX9_init 173 = .ok (.bipush 100, 2) := by decide +kernel
theorem dX9_init_175 : decode cX9_init 175 = .ok (.newarray .int, 2) := by decide +kernel
theorem dX9_init_177 : decode cX9_init 177 = .ok (.putfield 71, 3) := by decide +kernel
theorem dX9_init_180 : decode cX9_init 180 = .ok (.aload_n 0, 1) := by decide +kernel
theorem dX9_init_181 : decode cX9_init 181 = .ok (.bipush 8, 2) := by decide +kernel
theorem dX9_init_183 : decode cX9_init 183 = .ok (.newarray .int, 2) := by decide +kernel
theorem dX9_init_185 : decode cX9_init 185 = .ok (.putfield 74, 3) := by decide +kernel
theorem dX9_init_188 : decode cX9_init 188 = .ok (.aload_n 0, 1) := by decide +kernel
theorem dX9_init_189 : decode cX9_init 189 = .ok (.bipush 100, 2) := by decide +kernel
theorem dX9_init_191 : decode cX9_init 191 = .ok (.newarray .int, 2) := by decide +kernel
theorem dX9_init_193 : decode cX9_init 193 = .ok (.putfield 77, 3) := by decide +kernel
theorem dX9_init_196 : decode cX9_init 196 = .ok (.aload_n 0, 1) := by decide +kernel
theorem dX9_init_197 : decode cX9_init 197 = .ok (.bipush 100, 2) := by decide +kernel
theorem dX9_init_199 : decode cX9_init 199 = .ok (.newarray .int, 2) := by decide +kernel
theorem dX9_init_201 : decode cX9_init 201 = .ok (.putfield 80, 3) := by decide +kernel
theorem dX9_init_204 : decode cX9_init 204 = .ok (.aload_n 0, 1) := by decide +kernel
theorem dX9_init_205 : decode cX9_init 205 = .ok (.bipush 100, 2) := by decide +kernel
theorem dX9_init_207 : decode cX9_init 207 = .ok (.newarray .int, 2) := by decide +kernel
theorem dX9_init_209 : decode cX9_init 209 = .ok (.putfield 83, 3) := by decide +kernel
theorem dX9_init_212 : decode cX9_init 212 = .ok (.aload_n 0, 1) := by decide +kernel
theorem dX9_init_213 : decode cX9_init 213 = .ok (.bipush 100, 2) := by decide +kernel
theorem dX9_init_215 : decode cX9_init 215 = .ok (.newarray .int, 2) := by decide +kernel
theorem dX9_init_217 : decode cX9_init 217 = .ok (.putfield 86, 3) := by decide +kernel
theorem dX9_init_220 : decode cX9_init 220 = .ok (.aload_n 0, 1) := by decide +kernel
theorem dX9_init_221 : decode cX9_init 221 = .ok (.bipush 100, 2) := by decide +kernel
theorem dX9_init_223 : decode cX9_init 223 = .ok (.newarray .int, 2) := by decide +kernel
theorem dX9_init_225 : decode cX9_init 225 = .ok (.putfield 89, 3) := by decide +kernel
theorem dX9_init_228 : decode cX9_init 228 = .ok (.aload_n 0, 1) := by decide +kernel
theorem dX9_init_229 : decode cX9_init 229 = .ok (.bipush 100, 2) := by decide +kernel
theorem dX9_init_231 : decode cX9_init 231 = .ok (.newarray .int, 2) := by decide +kernel
theorem dX9_init_233 : decode cX9_init 233 = .ok (.putfield 92, 3) := by decide +kernel
theorem dX9_init_236 : decode cX9_init 236 = .ok (.aload_n 0, 1) := by decide +kernel
theorem dX9_init_237 : decode cX9_init 237 = .ok (.bipush 100, 2) := by decide +kernel
theorem dX9_init_239 : decode cX9_init 239 = .ok (.newarray .int, 2) := by decide +kernel
theorem dX9_init_241 : decode cX9_init 241 = .ok (.putfield 95, 3) := by decide +kernel
theorem dX9_init_244 : decode cX9_init 244 = .ok (.aload_n 0, 1) := by decide +kernel
theorem dX9_init_245 : decode cX9_init 245 = .ok (.bipush 102, 2) := by decide +kernel
theorem dX9_init_247 : decode cX9_init 247 = .ok (.newarray .int, 2) := by decide +kernel
theorem dX9_init_249 : decode cX9_init 249 = .ok (.putfield 98, 3) := by decide +kernel
theorem dX9_init_252 : decode cX9_init 252 = .ok (.aload_n 0, 1) := by decide +kernel
theorem dX9_init_253 : decode cX9_init 253 = .ok (.bipush 102, 2) := by decide +kernel
theorem dX9_init_255 : decode cX9_init 255 = .ok (.newarray .int, 2) := by decide +kernel
theorem dX9_init_257 : decode cX9_init 257 = .ok (.putfield 101, 3) := by decide +kernel
theorem dX9_init_260 : decode cX9_init 260 = .ok (.aload_n 0, 1) := by decide +kernel
theorem dX9_init_261 : decode cX9_init 261 = .ok (.bipush 103, 2) := by decide +kernel
theorem dX9_init_263 : decode cX9_init 263 = .ok (.newarray .int, 2) := by decide +kernel
theorem dX9_init_265 : decode cX9_init 265 = .ok (.putfield 104, 3) := by decide +kernel
theorem dX9_init_268 : decode cX9_init 268 = .ok (.aload_n 0, 1) := by decide +kernel
theorem dX9_init_269 : decode cX9_init 269 = .ok (.bipush 102, 2) := by decide +kernel
theorem dX9_init_271 : decode cX9_init 271 = .ok (.newarray .int, 2) := by decide +kernel
theorem dX9_init_273 : decode cX9_init 273 = .ok (.putfield 107, 3) := by decide +kernel
theorem dX9_init_276 : decode cX9_init 276 = .ok (.aload_n 0, 1) := by decide +kernel
theorem dX9_init_277 : decode cX9_init 277 = .ok (.bipush 102, 2) := by decide +kernel
theorem dX9_init_279 : decode cX9_init 279 = .ok (.newarray .int, 2) := by decide +kernel
theorem dX9_init_281 : decode cX9_init 281 = .ok (.putfield 110, 3) := by decide +kernel
theorem dX9_init_284 : decode cX9_init 284 = .ok (.aload_n 0, 1) := by decide +kernel
theorem dX9_init_285 : decode cX9_init 285 = .ok (.bipush 102, 2) := by decide +kernel
theorem dX9_init_287 : decode cX9_init 287 = .ok (.newarray .int, 2) := by decide +kernel
theorem dX9_init_289 : decode cX9_init 289 = .ok (.putfield 113, 3) := by decide +kernel
theorem dX9_init_292 : decode cX9_init 292 = .ok (.aload_n 0, 1) := by decide +kernel
theorem dX9_init_293 : decode cX9_init 293 = .ok (.bipush 102, 2) := by decide +kernel
theorem dX9_init_295 : decode cX9_init 295 = .ok (.newarray .int, 2) := by decide +kernel
theorem dX9_init_297 : decode cX9_init 297 = .ok (.putfield 116, 3) := by decide +kernel
theorem dX9_init_300 : decode cX9_init 300 = .ok (.iconst 0, 1) := by decide +kernel
theorem dX9_init_301 : decode cX9_init 301 = .ok (.istore_n 1, 1) := by decide +kernel
theorem dX9_init_302 : decode cX9_init 302 = .ok (.iload_n 1, 1) := by decide +kernel
theorem dX9_init_303 : decode cX9_init 303 = .ok (.bipush 100, 2) := by decide +kernel
theorem dX9_init_305 : decode cX9_init 305 = .ok (.if_icmp .ge 17, 3) := by decide +kernel
theorem dX9_init_308 : decode cX9_init 308 = .ok (.aload_n 0, 1) := by decide +kernel
theorem dX9_init_309 : decode cX9_init 309 = .ok (.getfield 7, 3) := by decide +kernel
theorem dX9_init_312 : decode cX9_init 312 = .ok (.iload_n 1, 1) := by decide +kernel
theorem dX9_init_313 : decode cX9_init 313 = .ok (.bipush (-9), 2) := by decide +kernel
theorem dX9_init_315 : decode cX9_init 315 = .ok (.iastore, 1) := by decide +kernel
theorem dX9_init_316 : decode cX9_init 316 = .ok (.iinc 1 1, 3) := by decide +kernel
theorem dX9_init_319 : decode cX9_init 319 = .ok (.goto (-17), 3) := by decide +kernel
theorem dX9_init_322 : decode cX9_init 322 = .ok (.return_, 1) := by decide +kernel
theorem dX9_in_0 : decode cX9_in 0 = .ok (.lload_n 0, 1) := by decide +kernel
theorem dX9_in_1 : decode cX9_in 1 = .ok (.lload_n 2, 1) := by decide +kernel
theorem dX9_in_2 : decode cX9_in 2 = .ok (.lcmp, 1) := by decide +kernel
theorem dX9_in_3 : decode cX9_in 3 = .ok (.ifCond .lt 14, 3) := by decide +kernel
theorem dX9_in_6 : decode cX9_in 6 = .ok (.lload_n 0, 1) := by decide +kernel
theorem dX9_in_7 : decode cX9_in 7 = .ok (.lload 4, 2) := by decide +kernel
theorem dX9_in_9 : decode cX9_in 9 = .ok (.lcmp, 1) := by decide +kernel
theorem dX9_in_10 : decode cX9_in 10 = .ok (.ifCond .gt 7, 3) := by decide +kernel
theorem dX9_in_13 : decode cX9_in 13 = .ok (.iconst 1, 1) := by decide +kernel
theorem dX9_in_14 : decode cX9_in 14 = .ok (.goto 4, 3) := by decide +kernel
theorem dX9_in_17 : decode cX9_in 17 = .ok (.iconst 0, 1) := by decide +kernel
theorem dX9_in_18 : decode cX9_in 18 = .ok (.ireturn, 1) := by decide +kernel
theorem dX9_isNumber_0 : decode cX9_isNumber 0 = .ok (.iload_n 0, 1) := by decide +kernel
theorem dX9_isNumber_1 : decode cX9_isNumber 1 = .ok (.i2l, 1) := by decide +kernel
theorem dX9_isNumber_2 : decode cX9_isNumber 2 = .ok (.lconst 0, 1) := by decide +kernel
theorem dX9_isNumber_3 : decode cX9_isNumber 3 = .ok (.ldc2_w 119, 3) := by decide +kernel
theorem dX9_isNumber_6 : decode cX9_isNumber 6 = .ok (.invokestatic 121, 3) := by decide +kernel
theorem dX9_isNumber_9 : decode cX9_isNumber 9 = .ok (.ireturn, 1) := by decide +kernel
theorem dX9_isRange_0 : decode cX9_isRange 0 = .ok (.iload_n 0, 1) := by decide +kernel
theorem dX9_isRange_1 : decode cX9_isRange 1 = .ok (.invokestatic 125, 3) := by decide +kernel
theorem dX9_isRange_4 : decode cX9_isRange 4 = .ok (.ifCond .eq 19, 3) := by decide +kernel
theorem dX9_isRange_7 : decode cX9_isRange 7 = .ok (.iload_n 1, 1) := by decide +kernel
theorem dX9_isRange_8 : decode cX9_isRange 8 = .ok (.invokestatic 125, 3) := by decide +kernel
theorem dX9_isRange_11 : decode cX9_isRange 11 = .ok (.ifCond .eq 12, 3) := by decide +kernel
theorem dX9_isRange_14 : decode cX9_isRange 14 = .ok (.iload_n 0, 1) := by decide +kernel
theorem dX9_isRange_15 : decode cX9_isRange 15 = .ok (.iload_n 1, 1) := by decide +kernel
theorem dX9_isRange_16 : decode cX9_isRange 16 = .ok (.if_icmp .gt 7, 3) := by decide +kernel
theorem dX9_isRange_19 : decode cX9_isRange 19 = .ok (.iconst 1, 1) := by decide +kernel
theorem dX9_isRange_20 : decode cX9_isRange 20 = .ok (.goto 4, 3) := by decide +kernel
theorem dX9_isRange_23 : decode cX9_isRange 23 = .ok (.iconst 0, 1) := by decide +kernel
theorem dX9_isRange_24 : decode cX9_isRange 24 = .ok (.ireturn, 1) := by decide +kernel
theorem dX9_rankOf_0 : decode cX9_rankOf 0 = .ok (.iload_n 0, 1) := by decide +kernel
theorem dX9_rankOf_1 : decode cX9_rankOf 1 = .ok (.i2l, 1) := by decide +kernel
theorem dX9_rankOf_2 : decode cX9_rankOf 2 = .ok (.ldc2_w 129, 3) := by decide +kernel
theorem dX9_rankOf_5 : decode cX9_rankOf 5 = .ok (.ladd, 1) := by decide +kernel
theorem dX9_rankOf_6 : decode cX9_rankOf 6 = .ok (.iload_n 0, 1) := by decide +kernel
theorem dX9_rankOf_7 : decode cX9_rankOf 7 = .ok (.i2l, 1) := by decide +kernel
theorem dX9_rankOf_8 : decode cX9_rankOf 8 = .ok (.ldc2_w 129, 3) := by decide +kernel
theorem dX9_rankOf_11 : decode cX9_rankOf 11 = .ok (.ladd, 1) := by decide +kernel
theorem dX9_rankOf_12 : decode cX9_rankOf 12 = .ok (.lmul, 1) := by decide +kernel
theorem dX9_rankOf_13 : decode cX9_rankOf 13 = .ok (.iload_n 0, 1) := by decide +kernel
theorem dX9_rankOf_14 : decode cX9_rankOf 14 = .ok (.i2l, 1) := by decide +kernel
theorem dX9_rankOf_15 : decode cX9_rankOf 15 = .ok (.ldc2_w 129, 3) := by decide +kernel
theorem dX9_rankOf_18 : decode cX9_rankOf 18 = .ok (.ladd, 1) := by decide +kernel
theorem dX9_rankOf_19 : decode cX9_rankOf 19 = .ok (.lmul, 1) := by decide +kernel
theorem dX9_rankOf_20 : decode cX9_rankOf 20 = .ok (.lstore_n 1, 1) := by decide +kernel
theorem dX9_rankOf_21 : decode cX9_rankOf 21 = .ok (.ldc2_w 131, 3) := by decide +kernel
theorem dX9_rankOf_24 : decode cX9_rankOf 24 = .ok (.lload_n 1, 1) := by decide +kernel
theorem dX9_rankOf_25 : decode cX9_rankOf 25 = .ok (.lmul, 1) := by decide +kernel
theorem dX9_rankOf_26 : decode cX9_rankOf 26 = .ok (.ldc2_w 133, 3) := by decide +kernel
theorem dX9_rankOf_29 : decode cX9_rankOf 29 = .ok (.lrem, 1) := by decide +kernel
theorem dX9_rankOf_30 : decode cX9_rankOf 30 = .ok (.l2i, 1) := by decide +kernel
theorem dX9_rankOf_31 : decode cX9_rankOf 31 = .ok (.ireturn, 1) := by decide +kernel
theorem dX9_isAbove_0 : decode cX9_isAbove 0 = .ok (.iload_n 0, 1) := by decide +kernel
theorem dX9_isAbove_1 : decode cX9_isAbove 1 = .ok (.invokestatic 135, 3) := by decide +kernel
theorem dX9_isAbove_4 : decode cX9_isAbove 4 = .ok (.iload_n 1, 1) := by decide +kernel
theorem dX9_isAbove_5 : decode cX9_isAbove 5 = .ok (.invokestatic 135, 3) := by decide +kernel
theorem dX9_isAbove_8 : decode cX9_isAbove 8 = .ok (.if_icmp .gt 19, 3) := by decide +kernel
theorem dX9_isAbove_11 : decode cX9_isAbove 11 = .ok (.iload_n 0, 1) := by decide +kernel
theorem dX9_isAbove_12 : decode cX9_isAbove 12 = .ok (.invokestatic 135, 3) := by decide +kernel
theorem dX9_isAbove_15 : decode cX9_isAbove 15 = .ok (.iload_n 1, 1) := by decide +kernel
theorem dX9_isAbove_16 : decode cX9_isAbove 16 = .ok (.invokestatic 135, 3) := by decide +kernel
theorem dX9_isAbove_19 : decode cX9_isAbove 19 = .ok (.if_icmp .ne 12, 3) := by decide +kernel
theorem dX9_isAbove_22 : decode cX9_isAbove 22 = .ok (.iload_n 0, 1) := by decide +kernel
theorem dX9_isAbove_23 : decode cX9_isAbove 23 = .ok (.iload_n 1, 1) := by decide +kernel
theorem dX9_isAbove_24 : decode cX9_isAbove 24 = .ok (.if_icmp .ge 7, 3) := by decide +kernel
theorem dX9_isAbove_27 : decode cX9_isAbove 27 = .ok (.iconst 1, 1) := by decide +kernel
theorem dX9_isAbove_28 : decode cX9_isAbove 28 = .ok (.goto 4, 3) := by decide +kernel
theorem dX9_isAbove_31 : decode cX9_isAbove 31 = .ok (.iconst 0, 1) := by decide +kernel
theorem dX9_isAbove_32 : decode cX9_isAbove 32 = .ok (.ireturn, 1) := by decide +kernel
theorem dX9_digestOf_0 : decode cX9_digestOf 0 = .ok (.ldc2_w 139, 3) := by decide +kernel
theorem dX9_digestOf_3 : decode cX9_digestOf 3 = .ok (.lstore 4, 2) := by decide +kernel
theorem dX9_digestOf_5 : decode cX9_digestOf 5 = .ok (.ldc2_w 141, 3) := by decide +kernel
theorem dX9_digestOf_8 : decode cX9_digestOf 8 = .ok (.lload 4, 2) := by decide +kernel
theorem dX9_digestOf_10 : decode cX9_digestOf 10 = .ok (.lmul, 1) := by decide +kernel
theorem dX9_digestOf_11 : decode cX9_digestOf 11 = .ok (.iload_n 0, 1) := by decide +kernel
theorem dX9_digestOf_12 : decode cX9_digestOf 12 = .ok (.i2l, 1) := by decide +kernel
theorem dX9_digestOf_13 : decode cX9_digestOf 13 = .ok (.ladd, 1) := by decide +kernel
theorem dX9_digestOf_14 : decode cX9_digestOf 14 = .ok (.ldc2_w 143, 3) := by decide +kernel
theorem dX9_digestOf_17 : decode cX9_digestOf 17 = .ok (.lrem, 1) := by decide +kernel
theorem dX9_digestOf_18 : decode cX9_digestOf 18 = .ok (.lstore 4, 2) := by decide +kernel
theorem dX9_digestOf_20 : decode cX9_digestOf 20 = .ok (.ldc2_w 141, 3) := by decide +kernel
theorem dX9_digestOf_23 : decode cX9_digestOf 23 = .ok (.lload 4, 2) := by decide +kernel
theorem dX9_digestOf_25 : decode cX9_digestOf 25 = .ok (.lmul, 1) := by decide +kernel
theorem dX9_digestOf_26 : decode cX9_digestOf 26 = .ok (.iload_n 1, 1) := by decide +kernel
theorem dX9_digestOf_27 : decode cX9_digestOf 27 = .ok (.i2l, 1) := by decide +kernel
theorem dX9_digestOf_28 : decode cX9_digestOf 28 = .ok (.ladd, 1) := by decide +kernel
theorem dX9_digestOf_29 : decode cX9_digestOf 29 = .ok (.ldc2_w 143, 3) := by decide +kernel
theorem dX9_digestOf_32 : decode cX9_digestOf 32 = .ok (.lrem, 1) := by decide +kernel
theorem dX9_digestOf_33 : decode cX9_digestOf 33 = .ok (.lstore 4, 2) := by decide +kernel
theorem dX9_digestOf_35 : decode cX9_digestOf 35 = .ok (.ldc2_w 141, 3) := by decide +kernel
theorem dX9_digestOf_38 : decode cX9_digestOf 38 = .ok (.lload 4, 2) := by decide +kernel
theorem dX9_digestOf_40 : decode cX9_digestOf 40 = .ok (.lmul, 1) := by decide +kernel
theorem dX9_digestOf_41 : decode cX9_digestOf 41 = .ok (.iload_n 2, 1) := by decide +kernel
theorem dX9_digestOf_42 : decode cX9_digestOf 42 = .ok (.i2l, 1) := by decide +kernel
theorem dX9_digestOf_43 : decode cX9_digestOf 43 = .ok (.ladd, 1) := by decide +kernel
theorem dX9_digestOf_44 : decode cX9_digestOf 44 = .ok (.ldc2_w 143, 3) := by decide +kernel
theorem dX9_digestOf_47 : decode cX9_digestOf 47 = .ok (.lrem, 1) := by decide +kernel
theorem dX9_digestOf_48 : decode cX9_digestOf 48 = .ok (.lstore 4, 2) := by decide +kernel
theorem dX9_digestOf_50 : decode cX9_digestOf 50 = .ok (.ldc2_w 141, 3) := by decide +kernel
theorem dX9_digestOf_53 : decode cX9_digestOf 53 = .ok (.lload 4, 2) := by decide +kernel
theorem dX9_digestOf_55 : decode cX9_digestOf 55 = .ok (.lmul, 1) := by decide +kernel
theorem dX9_digestOf_56 : decode cX9_digestOf 56 = .ok (.iload_n 3, 1) := by decide +kernel
theorem dX9_digestOf_57 : decode cX9_digestOf 57 = .ok (.i2l, 1) := by decide +kernel
theorem dX9_digestOf_58 : decode cX9_digestOf 58 = .ok (.ladd, 1) := by decide +kernel
theorem dX9_digestOf_59 : decode cX9_digestOf 59 = .ok (.ldc2_w 143, 3) := by decide +kernel
theorem dX9_digestOf_62 : decode cX9_digestOf 62 = .ok (.lrem, 1) := by decide +kernel
theorem dX9_digestOf_63 : decode cX9_digestOf 63 = .ok (.lstore 4, 2) := by decide +kernel
theorem dX9_digestOf_65 : decode cX9_digestOf 65 = .ok (.lload 4, 2) := by decide +kernel
theorem dX9_digestOf_67 : decode cX9_digestOf 67 = .ok (.l2i, 1) := by decide +kernel
theorem dX9_digestOf_68 : decode cX9_digestOf 68 = .ok (.iconst 1, 1) := by decide +kernel
theorem dX9_digestOf_69 : decode cX9_digestOf 69 = .ok (.iadd, 1) := by decide +kernel
theorem dX9_digestOf_70 : decode cX9_digestOf 70 = .ok (.ireturn, 1) := by decide +kernel
theorem dX9_manyOf_0 : decode cX9_manyOf 0 = .ok (.iconst 0, 1) := by decide +kernel
theorem dX9_manyOf_1 : decode cX9_manyOf 1 = .ok (.istore_n 1, 1) := by decide +kernel
theorem dX9_manyOf_2 : decode cX9_manyOf 2 = .ok (.iconst 0, 1) := by decide +kernel
theorem dX9_manyOf_3 : decode cX9_manyOf 3 = .ok (.istore_n 2, 1) := by decide +kernel
theorem dX9_manyOf_4 : decode cX9_manyOf 4 = .ok (.iload_n 2, 1) := by decide +kernel
theorem dX9_manyOf_5 : decode cX9_manyOf 5 = .ok (.bipush 100, 2) := by decide +kernel
theorem dX9_manyOf_7 : decode cX9_manyOf 7 = .ok (.if_icmp .ge 25, 3) := by decide +kernel
theorem dX9_manyOf_10 : decode cX9_manyOf 10 = .ok (.iload_n 1, 1) := by decide +kernel
theorem dX9_manyOf_11 : decode cX9_manyOf 11 = .ok (.aload_n 0, 1) := by decide +kernel
theorem dX9_manyOf_12 : decode cX9_manyOf 12 = .ok (.iload_n 2, 1) := by decide +kernel
theorem dX9_manyOf_13 : decode cX9_manyOf 13 = .ok (.iaload, 1) := by decide +kernel
theorem dX9_manyOf_14 : decode cX9_manyOf 14 = .ok (.bipush (-9), 2) := by decide +kernel
theorem dX9_manyOf_16 : decode cX9_manyOf 16 = .ok (.if_icmp .ne 7, 3) := by decide +kernel
theorem dX9_manyOf_19 : decode cX9_manyOf 19 = .ok (.iconst 0, 1) := by decide +kernel
theorem dX9_manyOf_20 : decode cX9_manyOf 20 = .ok (.goto 4, 3) := by decide +kernel
theorem dX9_manyOf_23 : decode cX9_manyOf 23 = .ok (.iconst 1, 1) := by decide +kernel
theorem dX9_manyOf_24 : decode cX9_manyOf 24 = .ok (.iadd, 1) := by decide +kernel
theorem dX9_manyOf_25 : decode cX9_manyOf 25 = .ok (.istore_n 1, 1) := by decide +kernel
theorem dX9_manyOf_26 : decode cX9_manyOf 26 = .ok (.iinc 2 1, 3) := by decide +kernel
theorem dX9_manyOf_29 : decode cX9_manyOf 29 = .ok (.goto (-25), 3) := by decide +kernel
theorem dX9_manyOf_32 : decode cX9_manyOf 32 = .ok (.iload_n 1, 1) := by decide +kernel
theorem dX9_manyOf_33 : decode cX9_manyOf 33 = .ok (.ireturn, 1) := by decide +kernel
theorem dX9_want_0 : decode cX9_want 0 = .ok (.aload_n 0, 1) := by decide +kernel
theorem dX9_want_1 : decode cX9_want 1 = .ok (.getfield 56, 3) := by decide +kernel
theorem dX9_want_4 : decode cX9_want 4 = .ok (.aload_n 0, 1) := by decide +kernel
theorem dX9_want_5 : decode cX9_want 5 = .ok (.getfield 145, 3) := by decide +kernel
theorem dX9_want_8 : decode cX9_want 8 = .ok (.iload_n 1, 1) := by decide +kernel
theorem dX9_want_9 : decode cX9_want 9 = .ok (.iastore, 1) := by decide +kernel
theorem dX9_want_10 : decode cX9_want 10 = .ok (.aload_n 0, 1) := by decide +kernel
theorem dX9_want_11 : decode cX9_want 11 = .ok (.getfield 59, 3) := by decide +kernel
theorem dX9_want_14 : decode cX9_want 14 = .ok (.aload_n 0, 1) := by decide +kernel
theorem dX9_want_15 : decode cX9_want 15 = .ok (.getfield 145, 3) := by decide +kernel
theorem dX9_want_18 : decode cX9_want 18 = .ok (.iload_n 2, 1) := by decide +kernel
theorem dX9_want_19 : decode cX9_want 19 = .ok (.iastore, 1) := by decide +kernel
theorem dX9_want_20 : decode cX9_want 20 = .ok (.aload_n 0, 1) := by decide +kernel
theorem dX9_want_21 : decode cX9_want 21 = .ok (.getfield 62, 3) := by decide +kernel
theorem dX9_want_24 : decode cX9_want 24 = .ok (.aload_n 0, 1) := by decide +kernel
theorem dX9_want_25 : decode cX9_want 25 = .ok (.getfield 145, 3) := by decide +kernel
theorem dX9_want_28 : decode cX9_want 28 = .ok (.iload_n 3, 1) := by decide +kernel
theorem dX9_want_29 : decode cX9_want 29 = .ok (.iastore, 1) := by decide +kernel
theorem dX9_want_30 : decode cX9_want 30 = .ok (.aload_n 0, 1) := by decide +kernel
theorem dX9_want_31 : decode cX9_want 31 = .ok (.getfield 65, 3) := by decide +kernel
theorem dX9_want_34 : decode cX9_want 34 = .ok (.aload_n 0, 1) := by decide +kernel
theorem dX9_want_35 : decode cX9_want 35 = .ok (.getfield 145, 3) := by decide +kernel
theorem dX9_want_38 : decode cX9_want 38 = .ok (.iload 4, 2) := by decide +kernel
theorem dX9_want_40 : decode cX9_want 40 = .ok (.iastore, 1) := by decide +kernel
theorem dX9_want_41 : decode cX9_want 41 = .ok (.aload_n 0, 1) := by decide +kernel
theorem dX9_want_42 : decode cX9_want 42 = .ok (.dup, 1) := by decide +kernel
theorem dX9_want_43 : decode cX9_want 43 = .ok (.getfield 145, 3) := by decide +kernel
theorem dX9_want_46 : decode cX9_want 46 = .ok (.iconst 1, 1) := by decide +kernel
theorem dX9_want_47 : decode cX9_want 47 = .ok (.iadd, 1) := by decide +kernel
theorem dX9_want_48 : decode cX9_want 48 = .ok (.putfield 145, 3) := by decide +kernel
theorem dX9_want_51 : decode cX9_want 51 = .ok (.return_, 1) := by decide +kernel
theorem dX9_uppermost_0 : decode cX9_uppermost 0 = .ok (.bipush (-9), 2) := by decide +kernel
theorem dX9_uppermost_2 : decode cX9_uppermost 2 = .ok (.istore_n 3, 1) := by decide +kernel
theorem dX9_uppermost_3 : decode cX9_uppermost 3 = .ok (.iload_n 1, 1) := by decide +kernel
theorem dX9_uppermost_4 : decode cX9_uppermost 4 = .ok (.istore 4, 2) := by decide +kernel
theorem dX9_uppermost_6 : decode cX9_uppermost 6 = .ok (.iload 4, 2) := by decide +kernel
theorem dX9_uppermost_8 : decode cX9_uppermost 8 = .ok (.iload_n 2, 1) := by decide +kernel
theorem dX9_uppermost_9 : decode cX9_uppermost 9 = .ok (.if_icmp .gt 40, 3) := by decide +kernel
theorem dX9_uppermost_12 : decode cX9_uppermost 12 = .ok (.aload_n 0, 1) := by decide +kernel
theorem dX9_uppermost_13 : decode cX9_uppermost 13 = .ok (.iload 4, 2) := by decide +kernel
theorem dX9_uppermost_15 : decode cX9_uppermost 15 = .ok (.iaload, 1) := by decide +kernel
theorem dX9_uppermost_16 : decode cX9_uppermost 16 = .ok (.bipush (-9), 2) := by decide +kernel
theorem dX9_uppermost_18 : decode cX9_uppermost 18 = .ok (.if_icmp .eq 23, 3) := by decide +kernel
theorem dX9_uppermost_21 : decode cX9_uppermost 21 = .ok (.iload_n 3, 1) := by decide +kernel
theorem dX9_uppermost_22 : decode cX9_uppermost 22 = .ok (.bipush (-9), 2) := by decide +kernel
theorem dX9_uppermost_24 : decode cX9_uppermost 24 = .ok (.if_icmp .eq 12, 3) := by decide +kernel
theorem dX9_uppermost_27 : decode cX9_uppermost 27 = .ok (.iload 4, 2) := by decide +kernel
theorem dX9_uppermost_29 : decode cX9_uppermost 29 = .ok (.iload_n 3, 1) := by decide +kernel
theorem dX9_uppermost_30 : decode cX9_uppermost 30 = .ok (.invokestatic 149, 3) := by decide +kernel
theorem dX9_uppermost_33 : decode cX9_uppermost 33 = .ok (.ifCond .eq 8, 3) := by decide +kernel
theorem dX9_uppermost_36 : decode cX9_uppermost 36 = .ok (.iload 4, 2) := by decide +kernel
theorem dX9_uppermost_38 : decode cX9_uppermost 38 = .ok (.goto 4, 3) := by decide +kernel
theorem dX9_uppermost_41 : decode cX9_uppermost 41 = .ok (.iload_n 3, 1) := by decide +kernel
theorem dX9_uppermost_42 : decode cX9_uppermost 42 = .ok (.istore_n 3, 1) := by decide +kernel
theorem dX9_uppermost_43 : decode cX9_uppermost 43 = .ok (.iinc 4 1, 3) := by decide +kernel
theorem dX9_uppermost_46 : decode cX9_uppermost 46 = .ok (.goto (-40), 3) := by decide +kernel
theorem dX9_uppermost_49 : decode cX9_uppermost 49 = .ok (.iload_n 3, 1) := by decide +kernel
theorem dX9_uppermost_50 : decode cX9_uppermost 50 = .ok (.ireturn, 1) := by decide +kernel
theorem dX9_make_0 : decode cX9_make 0 = .ok (.bipush 100, 2) := by decide +kernel
theorem dX9_make_2 : decode cX9_make 2 = .ok (.iload_n 2, 1) := by decide +kernel
theorem dX9_make_3 : decode cX9_make 3 = .ok (.imul, 1) := by decide +kernel
theorem dX9_make_4 : decode cX9_make 4 = .ok (.istore_n 3, 1) := by decide +kernel
theorem dX9_make_5 : decode cX9_make 5 = .ok (.iconst 0, 1) := by decide +kernel
theorem dX9_make_6 : decode cX9_make 6 = .ok (.istore 4, 2) := by decide +kernel
theorem dX9_make_8 : decode cX9_make 8 = .ok (.aload_n 0, 1) := by decide +kernel
theorem dX9_make_9 : decode cX9_make 9 = .ok (.iconst 0, 1) := by decide +kernel
theorem dX9_make_10 : decode cX9_make 10 = .ok (.putfield 145, 3) := by decide +kernel
theorem dX9_make_13 : decode cX9_make 13 = .ok (.aload_n 0, 1) := by decide +kernel
theorem dX9_make_14 : decode cX9_make 14 = .ok (.getfield 50, 3) := by decide +kernel
theorem dX9_make_17 : decode cX9_make 17 = .ok (.iload_n 2, 1) := by decide +kernel
theorem dX9_make_18 : decode cX9_make 18 = .ok (.bipush (-9), 2) := by decide +kernel
theorem dX9_make_20 : decode cX9_make 20 = .ok (.iastore, 1) := by decide +kernel
theorem dX9_make_21 : decode cX9_make 21 = .ok (.aload_n 0, 1) := by decide +kernel
theorem dX9_make_22 : decode cX9_make 22 = .ok (.iconst 0, 1) := by decide +kernel
theorem dX9_make_23 : decode cX9_make 23 = .ok (.bipush 99, 2) := by decide +kernel
theorem dX9_make_25 : decode cX9_make 25 = .ok (.bipush (-9), 2) := by decide +kernel
theorem dX9_make_27 : decode cX9_make 27 = .ok (.iconst 0, 1) := by decide +kernel
theorem dX9_make_28 : decode cX9_make 28 = .ok (.invokevirtual 153, 3) := by decide +kernel
theorem dX9_make_31 : decode cX9_make 31 = .ok (.aload_n 0, 1) := by decide +kernel
theorem dX9_make_32 : decode cX9_make 32 = .ok (.getfield 145, 3) := by decide +kernel
theorem dX9_make_35 : decode cX9_make 35 = .ok (.ifCond .le 227, 3) := by decide +kernel
theorem dX9_make_38 : decode cX9_make 38 = .ok (.aload_n 0, 1) := by decide +kernel
theorem dX9_make_39 : decode cX9_make 39 = .ok (.dup, 1) := by decide +kernel
theorem dX9_make_40 : decode cX9_make 40 = .ok (.getfield 145, 3) := by decide +kernel
theorem dX9_make_43 : decode cX9_make 43 = .ok (.iconst 1, 1) := by decide +kernel
theorem dX9_make_44 : decode cX9_make 44 = .ok (.isub, 1) := by decide +kernel
theorem dX9_make_45 : decode cX9_make 45 = .ok (.putfield 145, 3) := by decide +kernel
theorem dX9_make_48 : decode cX9_make 48 = .ok (.aload_n 0, 1) := by decide +kernel
theorem dX9_make_49 : decode cX9_make 49 = .ok (.getfield 56, 3) := by decide +kernel
theorem dX9_make_52 : decode cX9_make 52 = .ok (.aload_n 0, 1) := by decide +kernel
theorem dX9_make_53 : decode cX9_make 53 = .ok (.getfield 145, 3) := by decide +kernel
theorem dX9_make_56 : decode cX9_make 56 = .ok (.iaload, 1) := by decide +kernel
theorem dX9_make_57 : decode cX9_make 57 = .ok (.istore 5, 2) := by decide +kernel
theorem dX9_make_59 : decode cX9_make 59 = .ok (.aload_n 0, 1) := by decide +kernel
theorem dX9_make_60 : decode cX9_make 60 = .ok (.getfield 59, 3) := by decide +kernel
theorem dX9_make_63 : decode cX9_make 63 = .ok (.aload_n 0, 1) := by decide +kernel
theorem dX9_make_64 : decode cX9_make 64 = .ok (.getfield 145, 3) := by decide +kernel
theorem dX9_make_67 : decode cX9_make 67 = .ok (.iaload, 1) := by decide +kernel
theorem dX9_make_68 : decode cX9_make 68 = .ok (.istore 6, 2) := by decide +kernel
theorem dX9_make_70 : decode cX9_make 70 = .ok (.aload_n 0, 1) := by decide +kernel
theorem dX9_make_71 : decode cX9_make 71 = .ok (.getfield 62, 3) := by decide +kernel
theorem dX9_make_74 : decode cX9_make 74 = .ok (.aload_n 0, 1) := by decide +kernel
theorem dX9_make_75 : decode cX9_make 75 = .ok (.getfield 145, 3) := by decide +kernel
theorem dX9_make_78 : decode cX9_make 78 = .ok (.iaload, 1) := by decide +kernel
theorem dX9_make_79 : decode cX9_make 79 = .ok (.istore 7, 2) := by decide +kernel
theorem dX9_make_81 : decode cX9_make 81 = .ok (.aload_n 0, 1) := by decide +kernel
theorem dX9_make_82 : decode cX9_make 82 = .ok (.getfield 65, 3) := by decide +kernel
theorem dX9_make_85 : decode cX9_make 85 = .ok (.aload_n 0, 1) := by decide +kernel
theorem dX9_make_86 : decode cX9_make 86 = .ok (.getfield 145, 3) := by decide +kernel
theorem dX9_make_89 : decode cX9_make 89 = .ok (.iaload, 1) := by decide +kernel
theorem dX9_make_90 : decode cX9_make 90 = .ok (.istore 8, 2) := by decide +kernel
theorem dX9_make_92 : decode cX9_make 92 = .ok (.aload_n 1, 1) := by decide +kernel
theorem dX9_make_93 : decode cX9_make 93 = .ok (.iload 5, 2) := by decide +kernel
theorem dX9_make_95 : decode cX9_make 95 = .ok (.iload 6, 2) := by decide +kernel
theorem dX9_make_97 : decode cX9_make 97 = .ok (.invokestatic 157, 3) := by decide +kernel
theorem dX9_make_100 : decode cX9_make 100 = .ok (.istore 9, 2) := by decide +kernel
theorem dX9_make_102 : decode cX9_make 102 = .ok (.iload 7, 2) := by decide +kernel
theorem dX9_make_104 : decode cX9_make 104 = .ok (.bipush (-9), 2) := by decide +kernel
theorem dX9_make_106 : decode cX9_make 106 = .ok (.if_icmp .ne 14, 3) := by decide +kernel
theorem dX9_make_109 : decode cX9_make 109 = .ok (.aload_n 0, 1) := by decide +kernel
theorem dX9_make_110 : decode cX9_make 110 = .ok (.getfield 50, 3) := by decide +kernel
theorem dX9_make_113 : decode cX9_make 113 = .ok (.iload_n 2, 1) := by decide +kernel
theorem dX9_make_114 : decode cX9_make 114 = .ok (.iload 9, 2) := by decide +kernel
theorem dX9_make_116 : decode cX9_make 116 = .ok (.iastore, 1) := by decide +kernel
theorem dX9_make_117 : decode cX9_make 117 = .ok (.goto 33, 3) := by decide +kernel
theorem dX9_make_120 : decode cX9_make 120 = .ok (.iload 8, 2) := by decide +kernel
theorem dX9_make_122 : decode cX9_make 122 = .ok (.ifCond .ne 17, 3) := by decide +kernel
theorem dX9_make_125 : decode cX9_make 125 = .ok (.aload_n 0, 1) := by decide +kernel
theorem dX9_make_126 : decode cX9_make 126 = .ok (.getfield 29, 3) := by decide +kernel
theorem dX9_make_129 : decode cX9_make 129 = .ok (.iload_n 3, 1) := by decide +kernel
theorem dX9_make_130 : decode cX9_make 130 = .ok (.iload 7, 2) := by decide +kernel
theorem dX9_make_132 : decode cX9_make 132 = .ok (.iadd, 1) := by decide +kernel
theorem dX9_make_133 : decode cX9_make 133 = .ok (.iload 9, 2) := by decide +kernel
theorem dX9_make_135 : decode cX9_make 135 = .ok (.iastore, 1) := by decide +kernel
theorem dX9_make_136 : decode cX9_make 136 = .ok (.goto 14, 3) := by decide +kernel
theorem dX9_make_139 : decode cX9_make 139 = .ok (.aload_n 0, 1) := by decide +kernel
theorem dX9_make_140 : decode cX9_make 140 = .ok (.getfield 32, 3) := by decide +kernel
theorem dX9_make_143 : decode cX9_make 143 = .ok (.iload_n 3, 1) := by decide +kernel
theorem dX9_make_144 : decode cX9_make 144 = .ok (.iload 7, 2) := by decide +kernel
theorem dX9_make_146 : decode cX9_make 146 = .ok (.iadd, 1) := by decide +kernel
theorem dX9_make_147 : decode cX9_make 147 = .ok (.iload 9, 2) := by decide +kernel
theorem dX9_make_149 : decode cX9_make 149 = .ok (.iastore, 1) := by decide +kernel
theorem dX9_make_150 : decode cX9_make 150 = .ok (.iload 9, 2) := by decide +kernel
theorem dX9_make_152 : decode cX9_make 152 = .ok (.bipush (-9), 2) := by decide +kernel
theorem dX9_make_154 : decode cX9_make 154 = .ok (.if_icmp .eq 105, 3) := by decide +kernel
theorem dX9_make_157 : decode cX9_make 157 = .ok (.aload_n 0, 1) := by decide +kernel
theorem dX9_make_158 : decode cX9_make 158 = .ok (.getfield 53, 3) := by decide +kernel
theorem dX9_make_161 : decode cX9_make 161 = .ok (.iload 4, 2) := by decide +kernel
theorem dX9_make_163 : decode cX9_make 163 = .ok (.iload 9, 2) := by decide +kernel
theorem dX9_make_165 : decode cX9_make 165 = .ok (.iastore, 1) := by decide +kernel
theorem dX9_make_166 : decode cX9_make 166 = .ok (.iinc 4 1, 3) := by decide +kernel
theorem dX9_make_169 : decode cX9_make 169 = .ok (.aload_n 0, 1) := by decide +kernel
theorem dX9_make_170 : decode cX9_make 170 = .ok (.getfield 26, 3) := by decide +kernel
theorem dX9_make_173 : decode cX9_make 173 = .ok (.iload_n 3, 1) := by decide +kernel
theorem dX9_make_174 : decode cX9_make 174 = .ok (.iload 9, 2) := by decide +kernel
theorem dX9_make_176 : decode cX9_make 176 = .ok (.iadd, 1) := by decide +kernel
theorem dX9_make_177 : decode cX9_make 177 = .ok (.iload 7, 2) := by decide +kernel
theorem dX9_make_179 : decode cX9_make 179 = .ok (.iastore, 1) := by decide +kernel
theorem dX9_make_180 : decode cX9_make 180 = .ok (.aload_n 0, 1) := by decide +kernel
theorem dX9_make_181 : decode cX9_make 181 = .ok (.getfield 35, 3) := by decide +kernel
theorem dX9_make_184 : decode cX9_make 184 = .ok (.iload_n 3, 1) := by decide +kernel
theorem dX9_make_185 : decode cX9_make 185 = .ok (.iload 9, 2) := by decide +kernel
theorem dX9_make_187 : decode cX9_make 187 = .ok (.iadd, 1) := by decide +kernel
theorem dX9_make_188 : decode cX9_make 188 = .ok (.iload 7, 2) := by decide +kernel
theorem dX9_make_190 : decode cX9_make 190 = .ok (.bipush (-9), 2) := by decide +kernel
theorem dX9_make_192 : decode cX9_make 192 = .ok (.if_icmp .ne 7, 3) := by decide +kernel
theorem dX9_make_195 : decode cX9_make 195 = .ok (.iconst 0, 1) := by decide +kernel
theorem dX9_make_196 : decode cX9_make 196 = .ok (.goto 14, 3) := by decide +kernel
theorem dX9_make_199 : decode cX9_make 199 = .ok (.aload_n 0, 1) := by decide +kernel
theorem dX9_make_200 : decode cX9_make 200 = .ok (.getfield 35, 3) := by decide +kernel
theorem dX9_make_203 : decode cX9_make 203 = .ok (.iload_n 3, 1) := by decide +kernel
theorem dX9_make_204 : decode cX9_make 204 = .ok (.iload 7, 2) := by decide +kernel
theorem dX9_make_206 : decode cX9_make 206 = .ok (.iadd, 1) := by decide +kernel
theorem dX9_make_207 : decode cX9_make 207 = .ok (.iaload, 1) := by decide +kernel
theorem dX9_make_208 : decode cX9_make 208 = .ok (.iconst 1, 1) := by decide +kernel
theorem dX9_make_209 : decode cX9_make 209 = .ok (.iadd, 1) := by decide +kernel
theorem dX9_make_210 : decode cX9_make 210 = .ok (.iastore, 1) := by decide +kernel
theorem dX9_make_211 : decode cX9_make 211 = .ok (.aload_n 0, 1) := by decide +kernel
theorem dX9_make_212 : decode cX9_make 212 = .ok (.getfield 38, 3) := by decide +kernel
theorem dX9_make_215 : decode cX9_make 215 = .ok (.iload_n 3, 1) := by decide +kernel
theorem dX9_make_216 : decode cX9_make 216 = .ok (.iload 9, 2) := by decide +kernel
theorem dX9_make_218 : decode cX9_make 218 = .ok (.iadd, 1) := by decide +kernel
theorem dX9_make_219 : decode cX9_make 219 = .ok (.iload 5, 2) := by decide +kernel
theorem dX9_make_221 : decode cX9_make 221 = .ok (.iastore, 1) := by decide +kernel
theorem dX9_make_222 : decode cX9_make 222 = .ok (.aload_n 0, 1) := by decide +kernel
theorem dX9_make_223 : decode cX9_make 223 = .ok (.getfield 41, 3) := by decide +kernel
theorem dX9_make_226 : decode cX9_make 226 = .ok (.iload_n 3, 1) := by decide +kernel
theorem dX9_make_227 : decode cX9_make 227 = .ok (.iload 9, 2) := by decide +kernel
theorem dX9_make_229 : decode cX9_make 229 = .ok (.iadd, 1) := by decide +kernel
theorem dX9_make_230 : decode cX9_make 230 = .ok (.iload 6, 2) := by decide +kernel
theorem dX9_make_232 : decode cX9_make 232 = .ok (.iastore, 1) := by decide +kernel
theorem dX9_make_233 : decode cX9_make 233 = .ok (.aload_n 0, 1) := by decide +kernel
theorem dX9_make_234 : decode cX9_make 234 = .ok (.iload 9, 2) := by decide +kernel
theorem dX9_make_236 : decode cX9_make 236 = .ok (.iconst 1, 1) := by decide +kernel
theorem dX9_make_237 : decode cX9_make 237 = .ok (.iadd, 1) := by decide +kernel
theorem dX9_make_238 : decode cX9_make 238 = .ok (.iload 6, 2) := by decide +kernel
theorem dX9_make_240 : decode cX9_make 240 = .ok (.iload 9, 2) := by decide +kernel
theorem dX9_make_242 : decode cX9_make 242 = .ok (.iconst 1, 1) := by decide +kernel
theorem dX9_make_243 : decode cX9_make 243 = .ok (.invokevirtual 153, 3) := by decide +kernel
theorem dX9_make_246 : decode cX9_make 246 = .ok (.aload_n 0, 1) := by decide +kernel
theorem dX9_make_247 : decode cX9_make 247 = .ok (.iload 5, 2) := by decide +kernel
theorem dX9_make_249 : decode cX9_make 249 = .ok (.iload 9, 2) := by decide +kernel
theorem dX9_make_251 : decode cX9_make 251 = .ok (.iconst 1, 1) := by decide +kernel
theorem dX9_make_252 : decode cX9_make 252 = .ok (.isub, 1) := by decide +kernel
theorem dX9_make_253 : decode cX9_make 253 = .ok (.iload 9, 2) := by decide +kernel
theorem dX9_make_255 : decode cX9_make 255 = .ok (.iconst 0, 1) := by decide +kernel
theorem dX9_make_256 : decode cX9_make 256 = .ok (.invokevirtual 153, 3) := by decide +kernel
theorem dX9_make_259 : decode cX9_make 259 = .ok (.goto (-228), 3) := by decide +kernel
theorem dX9_make_262 : decode cX9_make 262 = .ok (.iload 4, 2) := by decide +kernel
theorem dX9_make_264 : decode cX9_make 264 = .ok (.iconst 1, 1) := by decide +kernel
theorem dX9_make_265 : decode cX9_make 265 = .ok (.isub, 1) := by decide +kernel
theorem dX9_make_266 : decode cX9_make 266 = .ok (.istore 5, 2) := by decide +kernel
theorem dX9_make_268 : decode cX9_make 268 = .ok (.iload 5, 2) := by decide +kernel
theorem dX9_make_270 : decode cX9_make 270 = .ok (.ifCond .lt 150, 3) := by decide +kernel
theorem dX9_make_273 : decode cX9_make 273 = .ok (.aload_n 0, 1) := by decide +kernel
theorem dX9_make_274 : decode cX9_make 274 = .ok (.getfield 53, 3) := by decide +kernel
theorem dX9_make_277 : decode cX9_make 277 = .ok (.iload 5, 2) := by decide +kernel
theorem dX9_make_279 : decode cX9_make 279 = .ok (.iaload, 1) := by decide +kernel
theorem dX9_make_280 : decode cX9_make 280 = .ok (.istore 6, 2) := by decide +kernel
theorem dX9_make_282 : decode cX9_make 282 = .ok (.aload_n 0, 1) := by decide +kernel
theorem dX9_make_283 : decode cX9_make 283 = .ok (.getfield 29, 3) := by decide +kernel
theorem dX9_make_286 : decode cX9_make 286 = .ok (.iload_n 3, 1) := by decide +kernel
theorem dX9_make_287 : decode cX9_make 287 = .ok (.iload 6, 2) := by decide +kernel
theorem dX9_make_289 : decode cX9_make 289 = .ok (.iadd, 1) := by decide +kernel
theorem dX9_make_290 : decode cX9_make 290 = .ok (.iaload, 1) := by decide +kernel
theorem dX9_make_291 : decode cX9_make 291 = .ok (.istore 7, 2) := by decide +kernel
theorem dX9_make_293 : decode cX9_make 293 = .ok (.aload_n 0, 1) := by decide +kernel
theorem dX9_make_294 : decode cX9_make 294 = .ok (.getfield 32, 3) := by decide +kernel
theorem dX9_make_297 : decode cX9_make 297 = .ok (.iload_n 3, 1) := by decide +kernel
theorem dX9_make_298 : decode cX9_make 298 = .ok (.iload 6, 2) := by decide +kernel
theorem dX9_make_300 : decode cX9_make 300 = .ok (.iadd, 1) := by decide +kernel
theorem dX9_make_301 : decode cX9_make 301 = .ok (.iaload, 1) := by decide +kernel
theorem dX9_make_302 : decode cX9_make 302 = .ok (.istore 8, 2) := by decide +kernel
theorem dX9_make_304 : decode cX9_make 304 = .ok (.aload_n 0, 1) := by decide +kernel
theorem dX9_make_305 : decode cX9_make 305 = .ok (.getfield 44, 3) := by decide +kernel
theorem dX9_make_308 : decode cX9_make 308 = .ok (.iload_n 3, 1) := by decide +kernel
theorem dX9_make_309 : decode cX9_make 309 = .ok (.iload 6, 2) := by decide +kernel
theorem dX9_make_311 : decode cX9_make 311 = .ok (.iadd, 1) := by decide +kernel
theorem dX9_make_312 : decode cX9_make 312 = .ok (.iconst 1, 1) := by decide +kernel
theorem dX9_make_313 : decode cX9_make 313 = .ok (.iload 7, 2) := by decide +kernel
theorem dX9_make_315 : decode cX9_make 315 = .ok (.bipush (-9), 2) := by decide +kernel
theorem dX9_make_317 : decode cX9_make 317 = .ok (.if_icmp .ne 7, 3) := by decide +kernel
theorem dX9_make_320 : decode cX9_make 320 = .ok (.iconst 0, 1) := by decide +kernel
theorem dX9_make_321 : decode cX9_make 321 = .ok (.goto 12, 3) := by decide +kernel
theorem dX9_make_324 : decode cX9_make 324 = .ok (.aload_n 0, 1) := by decide +kernel
theorem dX9_make_325 : decode cX9_make 325 = .ok (.getfield 44, 3) := by decide +kernel
theorem dX9_make_328 : decode cX9_make 328 = .ok (.iload_n 3, 1) := by decide +kernel
theorem dX9_make_329 : decode cX9_make 329 = .ok (.iload 7, 2) := by decide +kernel
theorem dX9_make_331 : decode cX9_make 331 = .ok (.iadd, 1) := by decide +kernel
theorem dX9_make_332 : decode cX9_make 332 = .ok (.iaload, 1) := by decide +kernel
theorem dX9_make_333 : decode cX9_make 333 = .ok (.iadd, 1) := by decide +kernel
theorem dX9_make_334 : decode cX9_make 334 = .ok (.iload 8, 2) := by decide +kernel
theorem dX9_make_336 : decode cX9_make 336 = .ok (.bipush (-9), 2) := by decide +kernel
theorem dX9_make_338 : decode cX9_make 338 = .ok (.if_icmp .ne 7, 3) := by decide +kernel
theorem dX9_make_341 : decode cX9_make 341 = .ok (.iconst 0, 1) := by decide +kernel
theorem dX9_make_342 : decode cX9_make 342 = .ok (.goto 12, 3) := by decide +kernel
theorem dX9_make_345 : decode cX9_make 345 = .ok (.aload_n 0, 1) := by decide +kernel
theorem dX9_make_346 : decode cX9_make 346 = .ok (.getfield 44, 3) := by decide +kernel
theorem dX9_make_349 : decode cX9_make 349 = .ok (.iload_n 3, 1) := by decide +kernel
theorem dX9_make_350 : decode cX9_make 350 = .ok (.iload 8, 2) := by decide +kernel
theorem dX9_make_352 : decode cX9_make 352 = .ok (.iadd, 1) := by decide +kernel
theorem dX9_make_353 : decode cX9_make 353 = .ok (.iaload, 1) := by decide +kernel
theorem dX9_make_354 : decode cX9_make 354 = .ok (.iadd, 1) := by decide +kernel
theorem dX9_make_355 : decode cX9_make 355 = .ok (.iastore, 1) := by decide +kernel
theorem dX9_make_356 : decode cX9_make 356 = .ok (.aload_n 0, 1) := by decide +kernel
theorem dX9_make_357 : decode cX9_make 357 = .ok (.getfield 47, 3) := by decide +kernel
theorem dX9_make_360 : decode cX9_make 360 = .ok (.iload_n 3, 1) := by decide +kernel
theorem dX9_make_361 : decode cX9_make 361 = .ok (.iload 6, 2) := by decide +kernel
theorem dX9_make_363 : decode cX9_make 363 = .ok (.iadd, 1) := by decide +kernel
theorem dX9_make_364 : decode cX9_make 364 = .ok (.iload 6, 2) := by decide +kernel
theorem dX9_make_366 : decode cX9_make 366 = .ok (.aload_n 1, 1) := by decide +kernel
theorem dX9_make_367 : decode cX9_make 367 = .ok (.iload 6, 2) := by decide +kernel
theorem dX9_make_369 : decode cX9_make 369 = .ok (.iaload, 1) := by decide +kernel
theorem dX9_make_370 : decode cX9_make 370 = .ok (.iload 7, 2) := by decide +kernel
theorem dX9_make_372 : decode cX9_make 372 = .ok (.bipush (-9), 2) := by decide +kernel
theorem dX9_make_374 : decode cX9_make 374 = .ok (.if_icmp .ne 7, 3) := by decide +kernel
theorem dX9_make_377 : decode cX9_make 377 = .ok (.iconst 0, 1) := by decide +kernel
theorem dX9_make_378 : decode cX9_make 378 = .ok (.goto 12, 3) := by decide +kernel
theorem dX9_make_381 : decode cX9_make 381 = .ok (.aload_n 0, 1) := by decide +kernel
theorem dX9_make_382 : decode cX9_make 382 = .ok (.getfield 47, 3) := by decide +kernel
theorem dX9_make_385 : decode cX9_make 385 = .ok (.iload_n 3, 1) := by decide +kernel
theorem dX9_make_386 : decode cX9_make 386 = .ok (.iload 7, 2) := by decide +kernel
theorem dX9_make_388 : decode cX9_make 388 = .ok (.iadd, 1) := by decide +kernel
theorem dX9_make_389 : decode cX9_make 389 = .ok (.iaload, 1) := by decide +kernel
theorem dX9_make_390 : decode cX9_make 390 = .ok (.iload 8, 2) := by decide +kernel
theorem dX9_make_392 : decode cX9_make 392 = .ok (.bipush (-9), 2) := by decide +kernel
theorem dX9_make_394 : decode cX9_make 394 = .ok (.if_icmp .ne 7, 3) := by decide +kernel
theorem dX9_make_397 : decode cX9_make 397 = .ok (.iconst 0, 1) := by decide +kernel
theorem dX9_make_398 : decode cX9_make 398 = .ok (.goto 12, 3) := by decide +kernel
theorem dX9_make_401 : decode cX9_make 401 = .ok (.aload_n 0, 1) := by decide +kernel
theorem dX9_make_402 : decode cX9_make 402 = .ok (.getfield 47, 3) := by decide +kernel
theorem dX9_make_405 : decode cX9_make 405 = .ok (.iload_n 3, 1) := by decide +kernel
theorem dX9_make_406 : decode cX9_make 406 = .ok (.iload 8, 2) := by decide +kernel
theorem dX9_make_408 : decode cX9_make 408 = .ok (.iadd, 1) := by decide +kernel
theorem dX9_make_409 : decode cX9_make 409 = .ok (.iaload, 1) := by decide +kernel
theorem dX9_make_410 : decode cX9_make 410 = .ok (.invokestatic 161, 3) := by decide +kernel
theorem dX9_make_413 : decode cX9_make 413 = .ok (.iastore, 1) := by decide +kernel
theorem dX9_make_414 : decode cX9_make 414 = .ok (.iinc 5 (-1), 3) := by decide +kernel
theorem dX9_make_417 : decode cX9_make 417 = .ok (.goto (-149), 3) := by decide +kernel
theorem dX9_make_420 : decode cX9_make 420 = .ok (.return_, 1) := by decide +kernel
