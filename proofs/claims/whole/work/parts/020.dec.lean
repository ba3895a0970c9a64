theorem dX0_init_0 : decode cX0_init 0 = .ok (.aload_n 0, 1) := by decide +kernel
theorem dX0_init_1 : decode cX0_init 1 = .ok (.invokespecial 3, 3) := by decide +kernel
theorem dX0_init_4 : decode cX0_init 4 = .ok (.aload_n 0, 1) := by decide +kernel
theorem dX0_init_5 : decode cX0_init 5 = .ok (.bipush 16, 2) := by decide +kernel
theorem dX0_init_7 : decode cX0_init 7 = .ok (.newarray .int, 2) := by decide +kernel
theorem dX0_init_9 : decode cX0_init 9 = .ok (.putfield 11, 3) := by decide +kernel
theorem dX0_init_12 : decode cX0_init 12 = .ok (.aload_n 0, 1) := by decide +kernel
theorem dX0_init_13 : decode cX0_init 13 = .ok (.bipush 17, 2) := by decide +kernel
theorem dX0_init_15 : decode cX0_init 15 = .ok (.newarray .int, 2) := by decide +kernel
theorem dX0_init_17 : decode cX0_init 17 = .ok (.putfield 17, 3) := by decide +kernel
theorem dX0_init_20 : decode cX0_init 20 = .ok (.aload_n 0, 1) := by decide +kernel
theorem dX0_init_21 : decode cX0_init 21 = .ok (.iconst 0, 1) := by decide +kernel
theorem dX0_init_22 : decode cX0_init 22 = .ok (.putfield 20, 3) := by decide +kernel
theorem dX0_init_25 : decode cX0_init 25 = .ok (.aload_n 0, 1) := by decide +kernel
theorem dX0_init_26 : decode cX0_init 26 = .ok (.aload_n 1, 1) := by decide +kernel
theorem dX0_init_27 : decode cX0_init 27 = .ok (.putfield 24, 3) := by decide +kernel
theorem dX0_init_30 : decode cX0_init 30 = .ok (.aload_n 0, 1) := by decide +kernel
theorem dX0_init_31 : decode cX0_init 31 = .ok (.getfield 11, 3) := by decide +kernel
theorem dX0_init_34 : decode cX0_init 34 = .ok (.bipush (-4), 2) := by decide +kernel
theorem dX0_init_36 : decode cX0_init 36 = .ok (.invokestatic 28, 3) := by decide +kernel
theorem dX0_init_39 : decode cX0_init 39 = .ok (.return_, 1) := by decide +kernel
theorem dX0_isSize_0 : decode cX0_isSize 0 = .ok (.iload_n 0, 1) := by decide +kernel
theorem dX0_isSize_1 : decode cX0_isSize 1 = .ok (.iconst 2, 1) := by decide +kernel
theorem dX0_isSize_2 : decode cX0_isSize 2 = .ok (.if_icmp .lt 12, 3) := by decide +kernel
theorem dX0_isSize_5 : decode cX0_isSize 5 = .ok (.iload_n 0, 1) := by decide +kernel
theorem dX0_isSize_6 : decode cX0_isSize 6 = .ok (.iconst 4, 1) := by decide +kernel
theorem dX0_isSize_7 : decode cX0_isSize 7 = .ok (.if_icmp .gt 7, 3) := by decide +kernel
theorem dX0_isSize_10 : decode cX0_isSize 10 = .ok (.iconst 1, 1) := by decide +kernel
theorem dX0_isSize_11 : decode cX0_isSize 11 = .ok (.goto 4, 3) := by decide +kernel
theorem dX0_isSize_14 : decode cX0_isSize 14 = .ok (.iconst 0, 1) := by decide +kernel
theorem dX0_isSize_15 : decode cX0_isSize 15 = .ok (.ireturn, 1) := by decide +kernel
theorem dX0_isComparer_0 : decode cX0_isComparer 0 = .ok (.iload_n 1, 1) := by decide +kernel
theorem dX0_isComparer_1 : decode cX0_isComparer 1 = .ok (.iconst 1, 1) := by decide +kernel
theorem dX0_isComparer_2 : decode cX0_isComparer 2 = .ok (.if_icmp .lt 16, 3) := by decide +kernel
theorem dX0_isComparer_5 : decode cX0_isComparer 5 = .ok (.iload_n 1, 1) := by decide +kernel
theorem dX0_isComparer_6 : decode cX0_isComparer 6 = .ok (.aload_n 0, 1) := by decide +kernel
theorem dX0_isComparer_7 : decode cX0_isComparer 7 = .ok (.getfield 11, 3) := by decide +kernel
theorem dX0_isComparer_10 : decode cX0_isComparer 10 = .ok (.arraylength, 1) := by decide +kernel
theorem dX0_isComparer_11 : decode cX0_isComparer 11 = .ok (.if_icmp .ge 7, 3) := by decide +kernel
theorem dX0_isComparer_14 : decode cX0_isComparer 14 = .ok (.iconst 1, 1) := by decide +kernel
theorem dX0_isComparer_15 : decode cX0_isComparer 15 = .ok (.goto 4, 3) := by decide +kernel
theorem dX0_isComparer_18 : decode cX0_isComparer 18 = .ok (.iconst 0, 1) := by decide +kernel
theorem dX0_isComparer_19 : decode cX0_isComparer 19 = .ok (.ireturn, 1) := by decide +kernel
theorem dX0_stickAt_0 : decode cX0_stickAt 0 = .ok (.aload_n 0, 1) := by decide +kernel
theorem dX0_stickAt_1 : decode cX0_stickAt 1 = .ok (.iload_n 1, 1) := by decide +kernel
theorem dX0_stickAt_2 : decode cX0_stickAt 2 = .ok (.invokevirtual 34, 3) := by decide +kernel
theorem dX0_stickAt_5 : decode cX0_stickAt 5 = .ok (.istore_n 3, 1) := by decide +kernel
theorem dX0_stickAt_6 : decode cX0_stickAt 6 = .ok (.aload_n 0, 1) := by decide +kernel
theorem dX0_stickAt_7 : decode cX0_stickAt 7 = .ok (.iload_n 1, 1) := by decide +kernel
theorem dX0_stickAt_8 : decode cX0_stickAt 8 = .ok (.invokevirtual 38, 3) := by decide +kernel
theorem dX0_stickAt_11 : decode cX0_stickAt 11 = .ok (.ifCond .eq 10, 3) := by decide +kernel
theorem dX0_stickAt_14 : decode cX0_stickAt 14 = .ok (.aload_n 0, 1) := by decide +kernel
theorem dX0_stickAt_15 : decode cX0_stickAt 15 = .ok (.getfield 11, 3) := by decide +kernel
theorem dX0_stickAt_18 : decode cX0_stickAt 18 = .ok (.iload_n 1, 1) := by decide +kernel
theorem dX0_stickAt_19 : decode cX0_stickAt 19 = .ok (.iload_n 2, 1) := by decide +kernel
theorem dX0_stickAt_20 : decode cX0_stickAt 20 = .ok (.iastore, 1) := by decide +kernel
theorem dX0_stickAt_21 : decode cX0_stickAt 21 = .ok (.iload_n 3, 1) := by decide +kernel
theorem dX0_stickAt_22 : decode cX0_stickAt 22 = .ok (.ireturn, 1) := by decide +kernel
theorem dX0_stuckAt_0 : decode cX0_stuckAt 0 = .ok (.aload_n 0, 1) := by decide +kernel
theorem dX0_stuckAt_1 : decode cX0_stuckAt 1 = .ok (.iload_n 1, 1) := by decide +kernel
theorem dX0_stuckAt_2 : decode cX0_stuckAt 2 = .ok (.invokevirtual 38, 3) := by decide +kernel
theorem dX0_stuckAt_5 : decode cX0_stuckAt 5 = .ok (.ifCond .eq 12, 3) := by decide +kernel
theorem dX0_stuckAt_8 : decode cX0_stuckAt 8 = .ok (.aload_n 0, 1) := by decide +kernel
theorem dX0_stuckAt_9 : decode cX0_stuckAt 9 = .ok (.getfield 11, 3) := by decide +kernel
theorem dX0_stuckAt_12 : decode cX0_stuckAt 12 = .ok (.iload_n 1, 1) := by decide +kernel
theorem dX0_stuckAt_13 : decode cX0_stuckAt 13 = .ok (.iaload, 1) := by decide +kernel
theorem dX0_stuckAt_14 : decode cX0_stuckAt 14 = .ok (.goto 5, 3) := by decide +kernel
theorem dX0_stuckAt_17 : decode cX0_stuckAt 17 = .ok (.bipush (-4), 2) := by decide +kernel
theorem dX0_stuckAt_19 : decode cX0_stuckAt 19 = .ok (.ireturn, 1) := by decide +kernel
theorem dX0_stuckOnes_0 : decode cX0_stuckOnes 0 = .ok (.iconst 0, 1) := by decide +kernel
theorem dX0_stuckOnes_1 : decode cX0_stuckOnes 1 = .ok (.istore_n 1, 1) := by decide +kernel
theorem dX0_stuckOnes_2 : decode cX0_stuckOnes 2 = .ok (.iconst 1, 1) := by decide +kernel
theorem dX0_stuckOnes_3 : decode cX0_stuckOnes 3 = .ok (.istore_n 2, 1) := by decide +kernel
theorem dX0_stuckOnes_4 : decode cX0_stuckOnes 4 = .ok (.iload_n 2, 1) := by decide +kernel
theorem dX0_stuckOnes_5 : decode cX0_stuckOnes 5 = .ok (.aload_n 0, 1) := by decide +kernel
theorem dX0_stuckOnes_6 : decode cX0_stuckOnes 6 = .ok (.getfield 11, 3) := by decide +kernel
theorem dX0_stuckOnes_9 : decode cX0_stuckOnes 9 = .ok (.arraylength, 1) := by decide +kernel
theorem dX0_stuckOnes_10 : decode cX0_stuckOnes 10 = .ok (.if_icmp .ge 23, 3) := by decide +kernel
theorem dX0_stuckOnes_13 : decode cX0_stuckOnes 13 = .ok (.aload_n 0, 1) := by decide +kernel
theorem dX0_stuckOnes_14 : decode cX0_stuckOnes 14 = .ok (.getfield 11, 3) := by decide +kernel
theorem dX0_stuckOnes_17 : decode cX0_stuckOnes 17 = .ok (.iload_n 2, 1) := by decide +kernel
theorem dX0_stuckOnes_18 : decode cX0_stuckOnes 18 = .ok (.iaload, 1) := by decide +kernel
theorem dX0_stuckOnes_19 : decode cX0_stuckOnes 19 = .ok (.bipush (-4), 2) := by decide +kernel
theorem dX0_stuckOnes_21 : decode cX0_stuckOnes 21 = .ok (.if_icmp .eq 6, 3) := by decide +kernel
theorem dX0_stuckOnes_24 : decode cX0_stuckOnes 24 = .ok (.iinc 1 1, 3) := by decide +kernel
theorem dX0_stuckOnes_27 : decode cX0_stuckOnes 27 = .ok (.iinc 2 1, 3) := by decide +kernel
theorem dX0_stuckOnes_30 : decode cX0_stuckOnes 30 = .ok (.goto (-26), 3) := by decide +kernel
theorem dX0_stuckOnes_33 : decode cX0_stuckOnes 33 = .ok (.iload_n 1, 1) := by decide +kernel
theorem dX0_stuckOnes_34 : decode cX0_stuckOnes 34 = .ok (.ireturn, 1) := by decide +kernel
theorem dX0_sumResistors_0 : decode cX0_sumResistors 0 = .ok (.aload_n 0, 1) := by decide +kernel
theorem dX0_sumResistors_1 : decode cX0_sumResistors 1 = .ok (.iconst 1, 1) := by decide +kernel
theorem dX0_sumResistors_2 : decode cX0_sumResistors 2 = .ok (.iload_n 1, 1) := by decide +kernel
theorem dX0_sumResistors_3 : decode cX0_sumResistors 3 = .ok (.ishl, 1) := by decide +kernel
theorem dX0_sumResistors_4 : decode cX0_sumResistors 4 = .ok (.putfield 20, 3) := by decide +kernel
theorem dX0_sumResistors_7 : decode cX0_sumResistors 7 = .ok (.iconst 0, 1) := by decide +kernel
theorem dX0_sumResistors_8 : decode cX0_sumResistors 8 = .ok (.istore_n 2, 1) := by decide +kernel
theorem dX0_sumResistors_9 : decode cX0_sumResistors 9 = .ok (.iload_n 2, 1) := by decide +kernel
theorem dX0_sumResistors_10 : decode cX0_sumResistors 10 = .ok (.aload_n 0, 1) := by decide +kernel
theorem dX0_sumResistors_11 : decode cX0_sumResistors 11 = .ok (.getfield 20, 3) := by decide +kernel
theorem dX0_sumResistors_14 : decode cX0_sumResistors 14 = .ok (.if_icmp .ge 43, 3) := by decide +kernel
theorem dX0_sumResistors_17 : decode cX0_sumResistors 17 = .ok (.iload_n 2, 1) := by decide +kernel
theorem dX0_sumResistors_18 : decode cX0_sumResistors 18 = .ok (.iconst 1, 1) := by decide +kernel
theorem dX0_sumResistors_19 : decode cX0_sumResistors 19 = .ok (.iadd, 1) := by decide +kernel
theorem dX0_sumResistors_20 : decode cX0_sumResistors 20 = .ok (.aload_n 0, 1) := by decide +kernel
theorem dX0_sumResistors_21 : decode cX0_sumResistors 21 = .ok (.getfield 17, 3) := by decide +kernel
theorem dX0_sumResistors_24 : decode cX0_sumResistors 24 = .ok (.arraylength, 1) := by decide +kernel
theorem dX0_sumResistors_25 : decode cX0_sumResistors 25 = .ok (.if_icmp .ge 32, 3) := by decide +kernel
theorem dX0_sumResistors_28 : decode cX0_sumResistors 28 = .ok (.aload_n 0, 1) := by decide +kernel
theorem dX0_sumResistors_29 : decode cX0_sumResistors 29 = .ok (.getfield 17, 3) := by decide +kernel
theorem dX0_sumResistors_32 : decode cX0_sumResistors 32 = .ok (.iload_n 2, 1) := by decide +kernel
theorem dX0_sumResistors_33 : decode cX0_sumResistors 33 = .ok (.iconst 1, 1) := by decide +kernel
theorem dX0_sumResistors_34 : decode cX0_sumResistors 34 = .ok (.iadd, 1) := by decide +kernel
theorem dX0_sumResistors_35 : decode cX0_sumResistors 35 = .ok (.aload_n 0, 1) := by decide +kernel
theorem dX0_sumResistors_36 : decode cX0_sumResistors 36 = .ok (.getfield 17, 3) := by decide +kernel
theorem dX0_sumResistors_39 : decode cX0_sumResistors 39 = .ok (.iload_n 2, 1) := by decide +kernel
theorem dX0_sumResistors_40 : decode cX0_sumResistors 40 = .ok (.iaload, 1) := by decide +kernel
theorem dX0_sumResistors_41 : decode cX0_sumResistors 41 = .ok (.aload_n 0, 1) := by decide +kernel
theorem dX0_sumResistors_42 : decode cX0_sumResistors 42 = .ok (.getfield 24, 3) := by decide +kernel
theorem dX0_sumResistors_45 : decode cX0_sumResistors 45 = .ok (.iload_n 2, 1) := by decide +kernel
theorem dX0_sumResistors_46 : decode cX0_sumResistors 46 = .ok (.invokevirtual 42, 3) := by decide +kernel
theorem dX0_sumResistors_49 : decode cX0_sumResistors 49 = .ok (.iadd, 1) := by decide +kernel
theorem dX0_sumResistors_50 : decode cX0_sumResistors 50 = .ok (.iastore, 1) := by decide +kernel
theorem dX0_sumResistors_51 : decode cX0_sumResistors 51 = .ok (.iinc 2 1, 3) := by decide +kernel
theorem dX0_sumResistors_54 : decode cX0_sumResistors 54 = .ok (.goto (-45), 3) := by decide +kernel
theorem dX0_sumResistors_57 : decode cX0_sumResistors 57 = .ok (.return_, 1) := by decide +kernel
theorem dX0_belowNode_0 : decode cX0_belowNode 0 = .ok (.iload_n 1, 1) := by decide +kernel
theorem dX0_belowNode_1 : decode cX0_belowNode 1 = .ok (.ifCond .lt 21, 3) := by decide +kernel
theorem dX0_belowNode_4 : decode cX0_belowNode 4 = .ok (.iload_n 1, 1) := by decide +kernel
theorem dX0_belowNode_5 : decode cX0_belowNode 5 = .ok (.aload_n 0, 1) := by decide +kernel
theorem dX0_belowNode_6 : decode cX0_belowNode 6 = .ok (.getfield 17, 3) := by decide +kernel
theorem dX0_belowNode_9 : decode cX0_belowNode 9 = .ok (.arraylength, 1) := by decide +kernel
theorem dX0_belowNode_10 : decode cX0_belowNode 10 = .ok (.if_icmp .ge 12, 3) := by decide +kernel
theorem dX0_belowNode_13 : decode cX0_belowNode 13 = .ok (.aload_n 0, 1) := by decide +kernel
theorem dX0_belowNode_14 : decode cX0_belowNode 14 = .ok (.getfield 17, 3) := by decide +kernel
theorem dX0_belowNode_17 : decode cX0_belowNode 17 = .ok (.iload_n 1, 1) := by decide +kernel
theorem dX0_belowNode_18 : decode cX0_belowNode 18 = .ok (.iaload, 1) := by decide +kernel
theorem dX0_belowNode_19 : decode cX0_belowNode 19 = .ok (.goto 4, 3) := by decide +kernel
theorem dX0_belowNode_22 : decode cX0_belowNode 22 = .ok (.iconst 0, 1) := by decide +kernel
theorem dX0_belowNode_23 : decode cX0_belowNode 23 = .ok (.ireturn, 1) := by decide +kernel
theorem dX0_saysOne_0 : decode cX0_saysOne 0 = .ok (.aload_n 0, 1) := by decide +kernel
theorem dX0_saysOne_1 : decode cX0_saysOne 1 = .ok (.iload_n 1, 1) := by decide +kernel
theorem dX0_saysOne_2 : decode cX0_saysOne 2 = .ok (.invokevirtual 34, 3) := by decide +kernel
theorem dX0_saysOne_5 : decode cX0_saysOne 5 = .ok (.istore_n 3, 1) := by decide +kernel
theorem dX0_saysOne_6 : decode cX0_saysOne 6 = .ok (.iload_n 3, 1) := by decide +kernel
theorem dX0_saysOne_7 : decode cX0_saysOne 7 = .ok (.bipush (-4), 2) := by decide +kernel
theorem dX0_saysOne_9 : decode cX0_saysOne 9 = .ok (.if_icmp .eq 14, 3) := by decide +kernel
theorem dX0_saysOne_12 : decode cX0_saysOne 12 = .ok (.iload_n 3, 1) := by decide +kernel
theorem dX0_saysOne_13 : decode cX0_saysOne 13 = .ok (.iconst 1, 1) := by decide +kernel
theorem dX0_saysOne_14 : decode cX0_saysOne 14 = .ok (.if_icmp .ne 7, 3) := by decide +kernel
theorem dX0_saysOne_17 : decode cX0_saysOne 17 = .ok (.iconst 1, 1) := by decide +kernel
theorem dX0_saysOne_18 : decode cX0_saysOne 18 = .ok (.goto 4, 3) := by decide +kernel
theorem dX0_saysOne_21 : decode cX0_saysOne 21 = .ok (.iconst 0, 1) := by decide +kernel
theorem dX0_saysOne_22 : decode cX0_saysOne 22 = .ok (.ireturn, 1) := by decide +kernel
theorem dX0_saysOne_23 : decode cX0_saysOne 23 = .ok (.iload_n 2, 1) := by decide +kernel
theorem dX0_saysOne_24 : decode cX0_saysOne 24 = .ok (.aload_n 0, 1) := by decide +kernel
theorem dX0_saysOne_25 : decode cX0_saysOne 25 = .ok (.aload_n 0, 1) := by decide +kernel
theorem dX0_saysOne_26 : decode cX0_saysOne 26 = .ok (.getfield 20, 3) := by decide +kernel
theorem dX0_saysOne_29 : decode cX0_saysOne 29 = .ok (.invokevirtual 45, 3) := by decide +kernel
theorem dX0_saysOne_32 : decode cX0_saysOne 32 = .ok (.imul, 1) := by decide +kernel
theorem dX0_saysOne_33 : decode cX0_saysOne 33 = .ok (.aload_n 0, 1) := by decide +kernel
theorem dX0_saysOne_34 : decode cX0_saysOne 34 = .ok (.getfield 24, 3) := by decide +kernel
theorem dX0_saysOne_37 : decode cX0_saysOne 37 = .ok (.getfield 48, 3) := by decide +kernel
theorem dX0_saysOne_40 : decode cX0_saysOne 40 = .ok (.aload_n 0, 1) := by decide +kernel
theorem dX0_saysOne_41 : decode cX0_saysOne 41 = .ok (.iload_n 1, 1) := by decide +kernel
theorem dX0_saysOne_42 : decode cX0_saysOne 42 = .ok (.invokevirtual 45, 3) := by decide +kernel
theorem dX0_saysOne_45 : decode cX0_saysOne 45 = .ok (.imul, 1) := by decide +kernel
theorem dX0_saysOne_46 : decode cX0_saysOne 46 = .ok (.if_icmp .lt 7, 3) := by decide +kernel
theorem dX0_saysOne_49 : decode cX0_saysOne 49 = .ok (.iconst 1, 1) := by decide +kernel
theorem dX0_saysOne_50 : decode cX0_saysOne 50 = .ok (.goto 4, 3) := by decide +kernel
theorem dX0_saysOne_53 : decode cX0_saysOne 53 = .ok (.iconst 0, 1) := by decide +kernel
theorem dX0_saysOne_54 : decode cX0_saysOne 54 = .ok (.ireturn, 1) := by decide +kernel
theorem dX0_wordsOf_0 : decode cX0_wordsOf 0 = .ok (.iconst 0, 1) := by decide +kernel
theorem dX0_wordsOf_1 : decode cX0_wordsOf 1 = .ok (.istore_n 2, 1) := by decide +kernel
theorem dX0_wordsOf_2 : decode cX0_wordsOf 2 = .ok (.iconst 1, 1) := by decide +kernel
theorem dX0_wordsOf_3 : decode cX0_wordsOf 3 = .ok (.istore_n 3, 1) := by decide +kernel
theorem dX0_wordsOf_4 : decode cX0_wordsOf 4 = .ok (.iload_n 3, 1) := by decide +kernel
theorem dX0_wordsOf_5 : decode cX0_wordsOf 5 = .ok (.aload_n 0, 1) := by decide +kernel
theorem dX0_wordsOf_6 : decode cX0_wordsOf 6 = .ok (.getfield 20, 3) := by decide +kernel
theorem dX0_wordsOf_9 : decode cX0_wordsOf 9 = .ok (.if_icmp .ge 26, 3) := by decide +kernel
theorem dX0_wordsOf_12 : decode cX0_wordsOf 12 = .ok (.aload_n 0, 1) := by decide +kernel
theorem dX0_wordsOf_13 : decode cX0_wordsOf 13 = .ok (.iload_n 3, 1) := by decide +kernel
theorem dX0_wordsOf_14 : decode cX0_wordsOf 14 = .ok (.iload_n 1, 1) := by decide +kernel
theorem dX0_wordsOf_15 : decode cX0_wordsOf 15 = .ok (.invokevirtual 51, 3) := by decide +kernel
theorem dX0_wordsOf_18 : decode cX0_wordsOf 18 = .ok (.ifCond .eq 11, 3) := by decide +kernel
theorem dX0_wordsOf_21 : decode cX0_wordsOf 21 = .ok (.iload_n 2, 1) := by decide +kernel
theorem dX0_wordsOf_22 : decode cX0_wordsOf 22 = .ok (.iconst 1, 1) := by decide +kernel
theorem dX0_wordsOf_23 : decode cX0_wordsOf 23 = .ok (.iload_n 3, 1) := by decide +kernel
theorem dX0_wordsOf_24 : decode cX0_wordsOf 24 = .ok (.iconst 1, 1) := by decide +kernel
theorem dX0_wordsOf_25 : decode cX0_wordsOf 25 = .ok (.isub, 1) := by decide +kernel
theorem dX0_wordsOf_26 : decode cX0_wordsOf 26 = .ok (.ishl, 1) := by decide +kernel
theorem dX0_wordsOf_27 : decode cX0_wordsOf 27 = .ok (.ior, 1) := by decide +kernel
theorem dX0_wordsOf_28 : decode cX0_wordsOf 28 = .ok (.istore_n 2, 1) := by decide +kernel
theorem dX0_wordsOf_29 : decode cX0_wordsOf 29 = .ok (.iinc 3 1, 3) := by decide +kernel
theorem dX0_wordsOf_32 : decode cX0_wordsOf 32 = .ok (.goto (-28), 3) := by decide +kernel
theorem dX0_wordsOf_35 : decode cX0_wordsOf 35 = .ok (.iload_n 2, 1) := by decide +kernel
theorem dX0_wordsOf_36 : decode cX0_wordsOf 36 = .ok (.ireturn, 1) := by decide +kernel
theorem dX0_saying_0 : decode cX0_saying 0 = .ok (.iload_n 0, 1) := by decide +kernel
theorem dX0_saying_1 : decode cX0_saying 1 = .ok (.invokestatic 55, 3) := by decide +kernel
theorem dX0_saying_4 : decode cX0_saying 4 = .ok (.ireturn, 1) := by decide +kernel
theorem dX0_edge_0 : decode cX0_edge 0 = .ok (.iload_n 0, 1) := by decide +kernel
theorem dX0_edge_1 : decode cX0_edge 1 = .ok (.iload_n 0, 1) := by decide +kernel
theorem dX0_edge_2 : decode cX0_edge 2 = .ok (.iconst 1, 1) := by decide +kernel
theorem dX0_edge_3 : decode cX0_edge 3 = .ok (.iadd, 1) := by decide +kernel
theorem dX0_edge_4 : decode cX0_edge 4 = .ok (.iconst (-1), 1) := by decide +kernel
theorem dX0_edge_5 : decode cX0_edge 5 = .ok (.ixor, 1) := by decide +kernel
theorem dX0_edge_6 : decode cX0_edge 6 = .ok (.iand, 1) := by decide +kernel
theorem dX0_edge_7 : decode cX0_edge 7 = .ok (.invokestatic 55, 3) := by decide +kernel
theorem dX0_edge_10 : decode cX0_edge 10 = .ok (.ireturn, 1) := by decide +kernel
theorem dX0_bubbles_0 : decode cX0_bubbles 0 = .ok (.iload_n 0, 1) := by decide +kernel
theorem dX0_bubbles_1 : decode cX0_bubbles 1 = .ok (.iconst (-1), 1) := by decide +kernel
theorem dX0_bubbles_2 : decode cX0_bubbles 2 = .ok (.ixor, 1) := by decide +kernel
theorem dX0_bubbles_3 : decode cX0_bubbles 3 = .ok (.iload_n 0, 1) := by decide +kernel
theorem dX0_bubbles_4 : decode cX0_bubbles 4 = .ok (.iconst 1, 1) := by decide +kernel
theorem dX0_bubbles_5 : decode cX0_bubbles 5 = .ok (.ishr, 1) := by decide +kernel
theorem dX0_bubbles_6 : decode cX0_bubbles 6 = .ok (.iand, 1) := by decide +kernel
theorem dX0_bubbles_7 : decode cX0_bubbles 7 = .ok (.invokestatic 55, 3) := by decide +kernel
theorem dX0_bubbles_10 : decode cX0_bubbles 10 = .ok (.ireturn, 1) := by decide +kernel
theorem dX0_leastVolt_0 : decode cX0_leastVolt 0 = .ok (.aload_n 0, 1) := by decide +kernel
theorem dX0_leastVolt_1 : decode cX0_leastVolt 1 = .ok (.getfield 24, 3) := by decide +kernel
theorem dX0_leastVolt_4 : decode cX0_leastVolt 4 = .ok (.getfield 48, 3) := by decide +kernel
theorem dX0_leastVolt_7 : decode cX0_leastVolt 7 = .ok (.aload_n 0, 1) := by decide +kernel
theorem dX0_leastVolt_8 : decode cX0_leastVolt 8 = .ok (.iload_n 1, 1) := by decide +kernel
theorem dX0_leastVolt_9 : decode cX0_leastVolt 9 = .ok (.invokevirtual 45, 3) := by decide +kernel
theorem dX0_leastVolt_12 : decode cX0_leastVolt 12 = .ok (.imul, 1) := by decide +kernel
theorem dX0_leastVolt_13 : decode cX0_leastVolt 13 = .ok (.aload_n 0, 1) := by decide +kernel
theorem dX0_leastVolt_14 : decode cX0_leastVolt 14 = .ok (.aload_n 0, 1) := by decide +kernel
theorem dX0_leastVolt_15 : decode cX0_leastVolt 15 = .ok (.getfield 20, 3) := by decide +kernel
theorem dX0_leastVolt_18 : decode cX0_leastVolt 18 = .ok (.invokevirtual 45, 3) := by decide +kernel
theorem dX0_leastVolt_21 : decode cX0_leastVolt 21 = .ok (.invokestatic 60, 3) := by decide +kernel
theorem dX0_leastVolt_24 : decode cX0_leastVolt 24 = .ok (.ireturn, 1) := by decide +kernel
theorem dX0_voltsWithGap_0 : decode cX0_voltsWithGap 0 = .ok (.iconst 0, 1) := by decide +kernel
theorem dX0_voltsWithGap_1 : decode cX0_voltsWithGap 1 = .ok (.istore_n 1, 1) := by decide +kernel
theorem dX0_voltsWithGap_2 : decode cX0_voltsWithGap 2 = .ok (.iconst 0, 1) := by decide +kernel
theorem dX0_voltsWithGap_3 : decode cX0_voltsWithGap 3 = .ok (.istore_n 2, 1) := by decide +kernel
theorem dX0_voltsWithGap_4 : decode cX0_voltsWithGap 4 = .ok (.iload_n 2, 1) := by decide +kernel
theorem dX0_voltsWithGap_5 : decode cX0_voltsWithGap 5 = .ok (.aload_n 0, 1) := by decide +kernel
theorem dX0_voltsWithGap_6 : decode cX0_voltsWithGap 6 = .ok (.getfield 24, 3) := by decide +kernel
theorem dX0_voltsWithGap_9 : decode cX0_voltsWithGap 9 = .ok (.getfield 48, 3) := by decide +kernel
theorem dX0_voltsWithGap_12 : decode cX0_voltsWithGap 12 = .ok (.if_icmp .gt 29, 3) := by decide +kernel
theorem dX0_voltsWithGap_15 : decode cX0_voltsWithGap 15 = .ok (.aload_n 0, 1) := by decide +kernel
theorem dX0_voltsWithGap_16 : decode cX0_voltsWithGap 16 = .ok (.iload_n 2, 1) := by decide +kernel
theorem dX0_voltsWithGap_17 : decode cX0_voltsWithGap 17 = .ok (.invokevirtual 64, 3) := by decide +kernel
theorem dX0_voltsWithGap_20 : decode cX0_voltsWithGap 20 = .ok (.istore_n 3, 1) := by decide +kernel
theorem dX0_voltsWithGap_21 : decode cX0_voltsWithGap 21 = .ok (.iload_n 3, 1) := by decide +kernel
theorem dX0_voltsWithGap_22 : decode cX0_voltsWithGap 22 = .ok (.invokestatic 67, 3) := by decide +kernel
theorem dX0_voltsWithGap_25 : decode cX0_voltsWithGap 25 = .ok (.iload_n 3, 1) := by decide +kernel
theorem dX0_voltsWithGap_26 : decode cX0_voltsWithGap 26 = .ok (.invokestatic 70, 3) := by decide +kernel
theorem dX0_voltsWithGap_29 : decode cX0_voltsWithGap 29 = .ok (.if_icmp .eq 6, 3) := by decide +kernel
theorem dX0_voltsWithGap_32 : decode cX0_voltsWithGap 32 = .ok (.iinc 1 1, 3) := by decide +kernel
theorem dX0_voltsWithGap_35 : decode cX0_voltsWithGap 35 = .ok (.iinc 2 1, 3) := by decide +kernel
theorem dX0_voltsWithGap_38 : decode cX0_voltsWithGap 38 = .ok (.goto (-34), 3) := by decide +kernel
theorem dX0_voltsWithGap_41 : decode cX0_voltsWithGap 41 = .ok (.iload_n 1, 1) := by decide +kernel
theorem dX0_voltsWithGap_42 : decode cX0_voltsWithGap 42 = .ok (.ireturn, 1) := by decide +kernel
theorem dX0_voltsOffEven_0 : decode cX0_voltsOffEven 0 = .ok (.iconst 0, 1) := by decide +kernel
theorem dX0_voltsOffEven_1 : decode cX0_voltsOffEven 1 = .ok (.istore_n 1, 1) := by decide +kernel
theorem dX0_voltsOffEven_2 : decode cX0_voltsOffEven 2 = .ok (.iconst 0, 1) := by decide +kernel
theorem dX0_voltsOffEven_3 : decode cX0_voltsOffEven 3 = .ok (.istore_n 2, 1) := by decide +kernel
theorem dX0_voltsOffEven_4 : decode cX0_voltsOffEven 4 = .ok (.iload_n 2, 1) := by decide +kernel
theorem dX0_voltsOffEven_5 : decode cX0_voltsOffEven 5 = .ok (.aload_n 0, 1) := by decide +kernel
theorem dX0_voltsOffEven_6 : decode cX0_voltsOffEven 6 = .ok (.getfield 24, 3) := by decide +kernel
theorem dX0_voltsOffEven_9 : decode cX0_voltsOffEven 9 = .ok (.getfield 48, 3) := by decide +kernel
theorem dX0_voltsOffEven_12 : decode cX0_voltsOffEven 12 = .ok (.if_icmp .gt 58, 3) := by decide +kernel
theorem dX0_voltsOffEven_15 : decode cX0_voltsOffEven 15 = .ok (.aload_n 0, 1) := by decide +kernel
theorem dX0_voltsOffEven_16 : decode cX0_voltsOffEven 16 = .ok (.getfield 24, 3) := by decide +kernel
theorem dX0_voltsOffEven_19 : decode cX0_voltsOffEven 19 = .ok (.getfield 48, 3) := by decide +kernel
theorem dX0_voltsOffEven_22 : decode cX0_voltsOffEven 22 = .ok (.ifCond .le 48, 3) := by decide +kernel
theorem dX0_voltsOffEven_25 : decode cX0_voltsOffEven 25 = .ok (.aload_n 0, 1) := by decide +kernel
theorem dX0_voltsOffEven_26 : decode cX0_voltsOffEven 26 = .ok (.getfield 20, 3) := by decide +kernel
theorem dX0_voltsOffEven_29 : decode cX0_voltsOffEven 29 = .ok (.iconst 1, 1) := by decide +kernel
theorem dX0_voltsOffEven_30 : decode cX0_voltsOffEven 30 = .ok (.isub, 1) := by decide +kernel
theorem dX0_voltsOffEven_31 : decode cX0_voltsOffEven 31 = .ok (.iload_n 2, 1) := by decide +kernel
theorem dX0_voltsOffEven_32 : decode cX0_voltsOffEven 32 = .ok (.aload_n 0, 1) := by decide +kernel
theorem dX0_voltsOffEven_33 : decode cX0_voltsOffEven 33 = .ok (.getfield 20, 3) := by decide +kernel
theorem dX0_voltsOffEven_36 : decode cX0_voltsOffEven 36 = .ok (.imul, 1) := by decide +kernel
theorem dX0_voltsOffEven_37 : decode cX0_voltsOffEven 37 = .ok (.aload_n 0, 1) := by decide +kernel
theorem dX0_voltsOffEven_38 : decode cX0_voltsOffEven 38 = .ok (.getfield 24, 3) := by decide +kernel
theorem dX0_voltsOffEven_41 : decode cX0_voltsOffEven 41 = .ok (.getfield 48, 3) := by decide +kernel
theorem dX0_voltsOffEven_44 : decode cX0_voltsOffEven 44 = .ok (.idiv, 1) := by decide +kernel
theorem dX0_voltsOffEven_45 : decode cX0_voltsOffEven 45 = .ok (.invokestatic 73, 3) := by decide +kernel
theorem dX0_voltsOffEven_48 : decode cX0_voltsOffEven 48 = .ok (.istore_n 3, 1) := by decide +kernel
theorem dX0_voltsOffEven_49 : decode cX0_voltsOffEven 49 = .ok (.aload_n 0, 1) := by decide +kernel
theorem dX0_voltsOffEven_50 : decode cX0_voltsOffEven 50 = .ok (.iload_n 2, 1) := by decide +kernel
theorem dX0_voltsOffEven_51 : decode cX0_voltsOffEven 51 = .ok (.invokevirtual 64, 3) := by decide +kernel
theorem dX0_voltsOffEven_54 : decode cX0_voltsOffEven 54 = .ok (.invokestatic 67, 3) := by decide +kernel
theorem dX0_voltsOffEven_57 : decode cX0_voltsOffEven 57 = .ok (.iload_n 3, 1) := by decide +kernel
theorem dX0_voltsOffEven_58 : decode cX0_voltsOffEven 58 = .ok (.if_icmp .eq 6, 3) := by decide +kernel
theorem dX0_voltsOffEven_61 : decode cX0_voltsOffEven 61 = .ok (.iinc 1 1, 3) := by decide +kernel
theorem dX0_voltsOffEven_64 : decode cX0_voltsOffEven 64 = .ok (.iinc 2 1, 3) := by decide +kernel
theorem dX0_voltsOffEven_67 : decode cX0_voltsOffEven 67 = .ok (.goto (-63), 3) := by decide +kernel
theorem dX0_voltsOffEven_70 : decode cX0_voltsOffEven 70 = .ok (.iload_n 1, 1) := by decide +kernel
theorem dX0_voltsOffEven_71 : decode cX0_voltsOffEven 71 = .ok (.ireturn, 1) := by decide +kernel
theorem dX1_init_0 : decode cX1_init 0 = .ok (.aload_n 0, 1) := by decide +kernel
theorem dX1_init_1 : decode cX1_init 1 = .ok (.invokespecial 1, 3) := by decide +kernel
theorem dX1_init_4 : decode cX1_init 4 = .ok (.aload_n 0, 1) := by decide +kernel
theorem dX1_init_5 : decode cX1_init 5 = .ok (.lconst 0, 1) := by decide +kernel
theorem dX1_init_6 : decode cX1_init 6 = .ok (.putfield 7, 3) := by decide +kernel
theorem dX1_init_9 : decode cX1_init 9 = .ok (.aload_n 0, 1) := by decide +kernel
theorem dX1_init_10 : decode cX1_init 10 = .ok (.lconst 1, 1) := by decide +kernel
theorem dX1_init_11 : decode cX1_init 11 = .ok (.putfield 13, 3) := by decide +kernel
theorem dX1_init_14 : decode cX1_init 14 = .ok (.return_, 1) := by decide +kernel
theorem dX1_put_0 : decode cX1_put 0 = .ok (.lload_n 1, 1) := by decide +kernel
theorem dX1_put_1 : decode cX1_put 1 = .ok (.invokestatic 16, 3) := by decide +kernel
theorem dX1_put_4 : decode cX1_put 4 = .ok (.lload_n 3, 1) := by decide +kernel
theorem dX1_put_5 : decode cX1_put 5 = .ok (.invokestatic 16, 3) := by decide +kernel
theorem dX1_put_8 : decode cX1_put 8 = .ok (.invokestatic 22, 3) := by decide +kernel
theorem dX1_put_11 : decode cX1_put 11 = .ok (.lstore 5, 2) := by decide +kernel
theorem dX1_put_13 : decode cX1_put 13 = .ok (.lload_n 3, 1) := by decide +kernel
theorem dX1_put_14 : decode cX1_put 14 = .ok (.lconst 0, 1) := by decide +kernel
theorem dX1_put_15 : decode cX1_put 15 = .ok (.lcmp, 1) := by decide +kernel
theorem dX1_put_16 : decode cX1_put 16 = .ok (.ifCond .eq 10, 3) := by decide +kernel
theorem dX1_put_19 : decode cX1_put 19 = .ok (.lload 5, 2) := by decide +kernel
theorem dX1_put_21 : decode cX1_put 21 = .ok (.lconst 0, 1) := by decide +kernel
theorem dX1_put_22 : decode cX1_put 22 = .ok (.lcmp, 1) := by decide +kernel
theorem dX1_put_23 : decode cX1_put 23 = .ok (.ifCond .ne 14, 3) := by decide +kernel
theorem dX1_put_26 : decode cX1_put 26 = .ok (.aload_n 0, 1) := by decide +kernel
theorem dX1_put_27 : decode cX1_put 27 = .ok (.lconst 0, 1) := by decide +kernel
theorem dX1_put_28 : decode cX1_put 28 = .ok (.putfield 7, 3) := by decide +kernel
theorem dX1_put_31 : decode cX1_put 31 = .ok (.aload_n 0, 1) := by decide +kernel
theorem dX1_put_32 : decode cX1_put 32 = .ok (.lconst 1, 1) := by decide +kernel
theorem dX1_put_33 : decode cX1_put 33 = .ok (.putfield 13, 3) := by decide +kernel
theorem dX1_put_36 : decode cX1_put 36 = .ok (.return_, 1) := by decide +kernel
theorem dX1_put_37 : decode cX1_put 37 = .ok (.lload_n 3, 1) := by decide +kernel
theorem dX1_put_38 : decode cX1_put 38 = .ok (.lconst 0, 1) := by decide +kernel
theorem dX1_put_39 : decode cX1_put 39 = .ok (.lcmp, 1) := by decide +kernel
theorem dX1_put_40 : decode cX1_put 40 = .ok (.ifCond .ge 9, 3) := by decide +kernel
theorem dX1_put_43 : decode cX1_put 43 = .ok (.ldc2_w 26, 3) := by decide +kernel
theorem dX1_put_46 : decode cX1_put 46 = .ok (.goto 4, 3) := by decide +kernel
theorem dX1_put_49 : decode cX1_put 49 = .ok (.lconst 1, 1) := by decide +kernel
theorem dX1_put_50 : decode cX1_put 50 = .ok (.lstore 7, 2) := by decide +kernel
theorem dX1_put_52 : decode cX1_put 52 = .ok (.aload_n 0, 1) := by decide +kernel
theorem dX1_put_53 : decode cX1_put 53 = .ok (.lload 7, 2) := by decide +kernel
theorem dX1_put_55 : decode cX1_put 55 = .ok (.lload_n 1, 1) := by decide +kernel
theorem dX1_put_56 : decode cX1_put 56 = .ok (.lmul, 1) := by decide +kernel
theorem dX1_put_57 : decode cX1_put 57 = .ok (.lload 5, 2) := by decide +kernel
theorem dX1_put_59 : decode cX1_put 59 = .ok (.ldiv, 1) := by decide +kernel
theorem dX1_put_60 : decode cX1_put 60 = .ok (.putfield 7, 3) := by decide +kernel
theorem dX1_put_63 : decode cX1_put 63 = .ok (.aload_n 0, 1) := by decide +kernel
theorem dX1_put_64 : decode cX1_put 64 = .ok (.lload 7, 2) := by decide +kernel
theorem dX1_put_66 : decode cX1_put 66 = .ok (.lload_n 3, 1) := by decide +kernel
theorem dX1_put_67 : decode cX1_put 67 = .ok (.lmul, 1) := by decide +kernel
theorem dX1_put_68 : decode cX1_put 68 = .ok (.lload 5, 2) := by decide +kernel
theorem dX1_put_70 : decode cX1_put 70 = .ok (.ldiv, 1) := by decide +kernel
theorem dX1_put_71 : decode cX1_put 71 = .ok (.putfield 13, 3) := by decide +kernel
theorem dX1_put_74 : decode cX1_put 74 = .ok (.return_, 1) := by decide +kernel
theorem dX1_side_0 : decode cX1_side 0 = .ok (.iload_n 1, 1) := by decide +kernel
theorem dX1_side_1 : decode cX1_side 1 = .ok (.ifCond .ne 10, 3) := by decide +kernel
theorem dX1_side_4 : decode cX1_side 4 = .ok (.aload_n 0, 1) := by decide +kernel
theorem dX1_side_5 : decode cX1_side 5 = .ok (.getfield 7, 3) := by decide +kernel
theorem dX1_side_8 : decode cX1_side 8 = .ok (.goto 7, 3) := by decide +kernel
theorem dX1_side_11 : decode cX1_side 11 = .ok (.aload_n 0, 1) := by decide +kernel
theorem dX1_side_12 : decode cX1_side 12 = .ok (.getfield 13, 3) := by decide +kernel
theorem dX1_side_15 : decode cX1_side 15 = .ok (.lreturn, 1) := by decide +kernel
theorem dX1_commonDivisor_0 : decode cX1_commonDivisor 0 = .ok (.iconst 0, 1) := by decide +kernel
theorem dX1_commonDivisor_1 : decode cX1_commonDivisor 1 = .ok (.istore 4, 2) := by decide +kernel
theorem dX1_commonDivisor_3 : decode cX1_commonDivisor 3 = .ok (.iload 4, 2) := by decide +kernel
theorem dX1_commonDivisor_5 : decode cX1_commonDivisor 5 = .ok (.sipush 200, 3) := by decide +kernel
theorem dX1_commonDivisor_8 : decode cX1_commonDivisor 8 = .ok (.if_icmp .ge 25, 3) := by decide +kernel
theorem dX1_commonDivisor_11 : decode cX1_commonDivisor 11 = .ok (.lload_n 2, 1) := by decide +kernel
theorem dX1_commonDivisor_12 : decode cX1_commonDivisor 12 = .ok (.lconst 0, 1) := by decide +kernel
theorem dX1_commonDivisor_13 : decode cX1_commonDivisor 13 = .ok (.lcmp, 1) := by decide +kernel
theorem dX1_commonDivisor_14 : decode cX1_commonDivisor 14 = .ok (.ifCond .eq 19, 3) := by decide +kernel
theorem dX1_commonDivisor_17 : decode cX1_commonDivisor 17 = .ok (.lload_n 0, 1) := by decide +kernel
theorem dX1_commonDivisor_18 : decode cX1_commonDivisor 18 = .ok (.lload_n 2, 1) := by decide +kernel
theorem dX1_commonDivisor_19 : decode cX1_commonDivisor 19 = .ok (.lrem, 1) := by decide +kernel
theorem dX1_commonDivisor_20 : decode cX1_commonDivisor 20 = .ok (.lstore 5, 2) := by decide +kernel
theorem dX1_commonDivisor_22 : decode cX1_commonDivisor 22 = .ok (.lload_n 2, 1) := by decide +kernel
theorem dX1_commonDivisor_23 : decode cX1_commonDivisor 23 = .ok (.lstore_n 0, 1) := by decide +kernel
theorem dX1_commonDivisor_24 : decode cX1_commonDivisor 24 = .ok (.lload 5, 2) := by decide +kernel
theorem dX1_commonDivisor_26 : decode cX1_commonDivisor 26 = .ok (.lstore_n 2, 1) := by decide +kernel
theorem dX1_commonDivisor_27 : decode cX1_commonDivisor 27 = .ok (.iinc 4 1, 3) := by decide +kernel
theorem dX1_commonDivisor_30 : decode cX1_commonDivisor 30 = .ok (.goto (-27), 3) := by decide +kernel
theorem dX1_commonDivisor_33 : decode cX1_commonDivisor 33 = .ok (.lload_n 0, 1) := by decide +kernel
theorem dX1_commonDivisor_34 : decode cX1_commonDivisor 34 = .ok (.lreturn, 1) := by decide +kernel
theorem dX2_init_0 : decode cX2_init 0 = .ok (.aload_n 0, 1) := by decide +kernel
theorem dX2_init_1 : decode cX2_init 1 = .ok (.invokespecial 3, 3) := by decide +kernel
theorem dX2_init_4 : decode cX2_init 4 = .ok (.aload_n 0, 1) := by decide +kernel
theorem dX2_init_5 : decode cX2_init 5 = .ok (.iconst 1, 1) := by decide +kernel
theorem dX2_init_6 : decode cX2_init 6 = .ok (.putfield 9, 3) := by decide +kernel
theorem dX2_init_9 : decode cX2_init 9 = .ok (.aload_n 0, 1) := by decide +kernel
theorem dX2_init_10 : decode cX2_init 10 = .ok (.iconst 0, 1) := by decide +kernel
theorem dX2_init_11 : decode cX2_init 11 = .ok (.putfield 15, 3) := by decide +kernel
theorem dX2_init_14 : decode cX2_init 14 = .ok (.aload_n 0, 1) := by decide +kernel
theorem dX2_init_15 : decode cX2_init 15 = .ok (.iconst 1, 1) := by decide +kernel
theorem dX2_init_16 : decode cX2_init 16 = .ok (.putfield 18, 3) := by decide +kernel
theorem dX2_init_19 : decode cX2_init 19 = .ok (.aload_n 0, 1) := by decide +kernel
theorem dX2_init_20 : decode cX2_init 20 = .ok (.iconst 0, 1) := by decide +kernel
theorem dX2_init_21 : decode cX2_init 21 = .ok (.putfield 21, 3) := by decide +kernel
theorem dX2_init_24 : decode cX2_init 24 = .ok (.aload_n 0, 1) := by decide +kernel
theorem dX2_init_25 : decode cX2_init 25 = .ok (.iconst 0, 1) := by decide +kernel
theorem dX2_init_26 : decode cX2_init 26 = .ok (.putfield 24, 3) := by decide +kernel
theorem dX2_init_29 : decode cX2_init 29 = .ok (.aload_n 0, 1) := by decide +kernel
theorem dX2_init_30 : decode cX2_init 30 = .ok (.bipush (-4), 2) := by decide +kernel
theorem dX2_init_32 : decode cX2_init 32 = .ok (.putfield 27, 3) := by decide +kernel
theorem dX2_init_35 : decode cX2_init 35 = .ok (.return_, 1) := by decide +kernel
theorem dX2_begin_0 : decode cX2_begin 0 = .ok (.aload_n 0, 1) := by decide +kernel
theorem dX2_begin_1 : decode cX2_begin 1 = .ok (.iload_n 1, 1) := by decide +kernel
theorem dX2_begin_2 : decode cX2_begin 2 = .ok (.putfield 9, 3) := by decide +kernel
theorem dX2_begin_5 : decode cX2_begin 5 = .ok (.aload_n 0, 1) := by decide +kernel
theorem dX2_begin_6 : decode cX2_begin 6 = .ok (.iload_n 2, 1) := by decide +kernel
theorem dX2_begin_7 : decode cX2_begin 7 = .ok (.putfield 15, 3) := by decide +kernel
theorem dX2_begin_10 : decode cX2_begin 10 = .ok (.aload_n 0, 1) := by decide +kernel
theorem dX2_begin_11 : decode cX2_begin 11 = .ok (.iload_n 3, 1) := by decide +kernel
theorem dX2_begin_12 : decode cX2_begin 12 = .ok (.putfield 18, 3) := by decide +kernel
theorem dX2_begin_15 : decode cX2_begin 15 = .ok (.aload_n 0, 1) := by decide +kernel
theorem dX2_begin_16 : decode cX2_begin 16 = .ok (.iconst 0, 1) := by decide +kernel
theorem dX2_begin_17 : decode cX2_begin 17 = .ok (.putfield 21, 3) := by decide +kernel
theorem dX2_begin_20 : decode cX2_begin 20 = .ok (.aload_n 0, 1) := by decide +kernel
theorem dX2_begin_21 : decode cX2_begin 21 = .ok (.iconst 0, 1) := by decide +kernel
theorem dX2_begin_22 : decode cX2_begin 22 = .ok (.putfield 24, 3) := by decide +kernel
theorem dX2_begin_25 : decode cX2_begin 25 = .ok (.aload_n 0, 1) := by decide +kernel
theorem dX2_begin_26 : decode cX2_begin 26 = .ok (.bipush (-4), 2) := by decide +kernel
theorem dX2_begin_28 : decode cX2_begin 28 = .ok (.putfield 27, 3) := by decide +kernel
theorem dX2_begin_31 : decode cX2_begin 31 = .ok (.return_, 1) := by decide +kernel
theorem dX2_tick_0 : decode cX2_tick 0 = .ok (.aload_n 0, 1) := by decide +kernel
theorem dX2_tick_1 : decode cX2_tick 1 = .ok (.getfield 9, 3) := by decide +kernel
theorem dX2_tick_4 : decode cX2_tick 4 = .ok (.iconst 1, 1) := by decide +kernel
theorem dX2_tick_5 : decode cX2_tick 5 = .ok (.if_icmp .ne 48, 3) := by decide +kernel
theorem dX2_tick_8 : decode cX2_tick 8 = .ok (.aload_n 0, 1) := by decide +kernel
theorem dX2_tick_9 : decode cX2_tick 9 = .ok (.dup, 1) := by decide +kernel
theorem dX2_tick_10 : decode cX2_tick 10 = .ok (.getfield 21, 3) := by decide +kernel
theorem dX2_tick_13 : decode cX2_tick 13 = .ok (.aload_n 0, 1) := by decide +kernel
theorem dX2_tick_14 : decode cX2_tick 14 = .ok (.getfield 15, 3) := by decide +kernel
theorem dX2_tick_17 : decode cX2_tick 17 = .ok (.iadd, 1) := by decide +kernel
theorem dX2_tick_18 : decode cX2_tick 18 = .ok (.putfield 21, 3) := by decide +kernel
theorem dX2_tick_21 : decode cX2_tick 21 = .ok (.aload_n 0, 1) := by decide +kernel
theorem dX2_tick_22 : decode cX2_tick 22 = .ok (.aload_n 0, 1) := by decide +kernel
theorem dX2_tick_23 : decode cX2_tick 23 = .ok (.getfield 21, 3) := by decide +kernel
theorem dX2_tick_26 : decode cX2_tick 26 = .ok (.ifCond .lt 7, 3) := by decide +kernel
theorem dX2_tick_29 : decode cX2_tick 29 = .ok (.iconst 1, 1) := by decide +kernel
theorem dX2_tick_30 : decode cX2_tick 30 = .ok (.goto 4, 3) := by decide +kernel
theorem dX2_tick_33 : decode cX2_tick 33 = .ok (.iconst 0, 1) := by decide +kernel
theorem dX2_tick_34 : decode cX2_tick 34 = .ok (.putfield 27, 3) := by decide +kernel
theorem dX2_tick_37 : decode cX2_tick 37 = .ok (.aload_n 0, 1) := by decide +kernel
theorem dX2_tick_38 : decode cX2_tick 38 = .ok (.dup, 1) := by decide +kernel
theorem dX2_tick_39 : decode cX2_tick 39 = .ok (.getfield 21, 3) := by decide +kernel
theorem dX2_tick_42 : decode cX2_tick 42 = .ok (.aload_n 0, 1) := by decide +kernel
theorem dX2_tick_43 : decode cX2_tick 43 = .ok (.invokevirtual 30, 3) := by decide +kernel
theorem dX2_tick_46 : decode cX2_tick 46 = .ok (.isub, 1) := by decide +kernel
theorem dX2_tick_47 : decode cX2_tick 47 = .ok (.putfield 21, 3) := by decide +kernel
theorem dX2_tick_50 : decode cX2_tick 50 = .ok (.goto 54, 3) := by decide +kernel
theorem dX2_tick_53 : decode cX2_tick 53 = .ok (.aload_n 0, 1) := by decide +kernel
theorem dX2_tick_54 : decode cX2_tick 54 = .ok (.invokevirtual 30, 3) := by decide +kernel
theorem dX2_tick_57 : decode cX2_tick 57 = .ok (.istore_n 1, 1) := by decide +kernel
theorem dX2_tick_58 : decode cX2_tick 58 = .ok (.aload_n 0, 1) := by decide +kernel
theorem dX2_tick_59 : decode cX2_tick 59 = .ok (.dup, 1) := by decide +kernel
theorem dX2_tick_60 : decode cX2_tick 60 = .ok (.getfield 21, 3) := by decide +kernel
theorem dX2_tick_63 : decode cX2_tick 63 = .ok (.aload_n 0, 1) := by decide +kernel
theorem dX2_tick_64 : decode cX2_tick 64 = .ok (.getfield 15, 3) := by decide +kernel
theorem dX2_tick_67 : decode cX2_tick 67 = .ok (.iload_n 1, 1) := by decide +kernel
theorem dX2_tick_68 : decode cX2_tick 68 = .ok (.isub, 1) := by decide +kernel
theorem dX2_tick_69 : decode cX2_tick 69 = .ok (.iadd, 1) := by decide +kernel
theorem dX2_tick_70 : decode cX2_tick 70 = .ok (.putfield 21, 3) := by decide +kernel
theorem dX2_tick_73 : decode cX2_tick 73 = .ok (.aload_n 0, 1) := by decide +kernel
theorem dX2_tick_74 : decode cX2_tick 74 = .ok (.dup, 1) := by decide +kernel
theorem dX2_tick_75 : decode cX2_tick 75 = .ok (.getfield 24, 3) := by decide +kernel
theorem dX2_tick_78 : decode cX2_tick 78 = .ok (.aload_n 0, 1) := by decide +kernel
theorem dX2_tick_79 : decode cX2_tick 79 = .ok (.getfield 21, 3) := by decide +kernel
theorem dX2_tick_82 : decode cX2_tick 82 = .ok (.iload_n 1, 1) := by decide +kernel
theorem dX2_tick_83 : decode cX2_tick 83 = .ok (.isub, 1) := by decide +kernel
theorem dX2_tick_84 : decode cX2_tick 84 = .ok (.iadd, 1) := by decide +kernel
theorem dX2_tick_85 : decode cX2_tick 85 = .ok (.putfield 24, 3) := by decide +kernel
theorem dX2_tick_88 : decode cX2_tick 88 = .ok (.aload_n 0, 1) := by decide +kernel
theorem dX2_tick_89 : decode cX2_tick 89 = .ok (.aload_n 0, 1) := by decide +kernel
theorem dX2_tick_90 : decode cX2_tick 90 = .ok (.getfield 24, 3) := by decide +kernel
theorem dX2_tick_93 : decode cX2_tick 93 = .ok (.ifCond .lt 7, 3) := by decide +kernel
theorem dX2_tick_96 : decode cX2_tick 96 = .ok (.iconst 1, 1) := by decide +kernel
theorem dX2_tick_97 : decode cX2_tick 97 = .ok (.goto 4, 3) := by decide +kernel
theorem dX2_tick_100 : decode cX2_tick 100 = .ok (.iconst 0, 1) := by decide +kernel
theorem dX2_tick_101 : decode cX2_tick 101 = .ok (.putfield 27, 3) := by decide +kernel
theorem dX2_tick_104 : decode cX2_tick 104 = .ok (.aload_n 0, 1) := by decide +kernel
theorem dX2_tick_105 : decode cX2_tick 105 = .ok (.aload_n 0, 1) := by decide +kernel
theorem dX2_tick_106 : decode cX2_tick 106 = .ok (.getfield 21, 3) := by decide +kernel
theorem dX2_tick_109 : decode cX2_tick 109 = .ok (.invokestatic 34, 3) := by decide +kernel
theorem dX2_tick_112 : decode cX2_tick 112 = .ok (.putfield 21, 3) := by decide +kernel
theorem dX2_tick_115 : decode cX2_tick 115 = .ok (.aload_n 0, 1) := by decide +kernel
theorem dX2_tick_116 : decode cX2_tick 116 = .ok (.aload_n 0, 1) := by decide +kernel
theorem dX2_tick_117 : decode cX2_tick 117 = .ok (.getfield 24, 3) := by decide +kernel
theorem dX2_tick_120 : decode cX2_tick 120 = .ok (.invokestatic 34, 3) := by decide +kernel
theorem dX2_tick_123 : decode cX2_tick 123 = .ok (.putfield 24, 3) := by decide +kernel
theorem dX2_tick_126 : decode cX2_tick 126 = .ok (.return_, 1) := by decide +kernel
theorem dX2_given_0 : decode cX2_given 0 = .ok (.aload_n 0, 1) := by decide +kernel
theorem dX2_given_1 : decode cX2_given 1 = .ok (.getfield 27, 3) := by decide +kernel
theorem dX2_given_4 : decode cX2_given 4 = .ok (.bipush (-4), 2) := by decide +kernel
theorem dX2_given_6 : decode cX2_given 6 = .ok (.if_icmp .ne 5, 3) := by decide +kernel
theorem dX2_given_9 : decode cX2_given 9 = .ok (.iconst 0, 1) := by decide +kernel
theorem dX2_given_10 : decode cX2_given 10 = .ok (.ireturn, 1) := by decide +kernel
theorem dX2_given_11 : decode cX2_given 11 = .ok (.aload_n 0, 1) := by decide +kernel
theorem dX2_given_12 : decode cX2_given 12 = .ok (.getfield 27, 3) := by decide +kernel
theorem dX2_given_15 : decode cX2_given 15 = .ok (.iconst 1, 1) := by decide +kernel
theorem dX2_given_16 : decode cX2_given 16 = .ok (.if_icmp .ne 10, 3) := by decide +kernel
theorem dX2_given_19 : decode cX2_given 19 = .ok (.aload_n 0, 1) := by decide +kernel
theorem dX2_given_20 : decode cX2_given 20 = .ok (.getfield 18, 3) := by decide +kernel
theorem dX2_given_23 : decode cX2_given 23 = .ok (.goto 8, 3) := by decide +kernel
theorem dX2_given_26 : decode cX2_given 26 = .ok (.aload_n 0, 1) := by decide +kernel
theorem dX2_given_27 : decode cX2_given 27 = .ok (.getfield 18, 3) := by decide +kernel
theorem dX2_given_30 : decode cX2_given 30 = .ok (.ineg, 1) := by decide +kernel
theorem dX2_given_31 : decode cX2_given 31 = .ok (.ireturn, 1) := by decide +kernel
theorem dX2_cut_0 : decode cX2_cut 0 = .ok (.ldc 38, 2) := by decide +kernel
theorem dX2_cut_2 : decode cX2_cut 2 = .ok (.ldc 39, 2) := by decide +kernel
theorem dX2_cut_4 : decode cX2_cut 4 = .ok (.iload_n 0, 1) := by decide +kernel
theorem dX2_cut_5 : decode cX2_cut 5 = .ok (.invokestatic 40, 3) := by decide +kernel
theorem dX2_cut_8 : decode cX2_cut 8 = .ok (.invokestatic 46, 3) := by decide +kernel
theorem dX2_cut_11 : decode cX2_cut 11 = .ok (.ireturn, 1) := by decide +kernel
theorem dX2_ticksWithOne_0 : decode cX2_ticksWithOne 0 = .ok (.iconst 0, 1) := by decide +kernel
theorem dX2_ticksWithOne_1 : decode cX2_ticksWithOne 1 = .ok (.istore_n 2, 1) := by decide +kernel
theorem dX2_ticksWithOne_2 : decode cX2_ticksWithOne 2 = .ok (.iconst 0, 1) := by decide +kernel
theorem dX2_ticksWithOne_3 : decode cX2_ticksWithOne 3 = .ok (.istore_n 3, 1) := by decide +kernel
theorem dX2_ticksWithOne_4 : decode cX2_ticksWithOne 4 = .ok (.iload_n 3, 1) := by decide +kernel
theorem dX2_ticksWithOne_5 : decode cX2_ticksWithOne 5 = .ok (.iload_n 1, 1) := by decide +kernel
theorem dX2_ticksWithOne_6 : decode cX2_ticksWithOne 6 = .ok (.if_icmp .ge 20, 3) := by decide +kernel
theorem dX2_ticksWithOne_9 : decode cX2_ticksWithOne 9 = .ok (.aload_n 0, 1) := by decide +kernel
theorem dX2_ticksWithOne_10 : decode cX2_ticksWithOne 10 = .ok (.invokevirtual 49, 3) := by decide +kernel
theorem dX2_ticksWithOne_13 : decode cX2_ticksWithOne 13 = .ok (.iload_n 2, 1) := by decide +kernel
theorem dX2_ticksWithOne_14 : decode cX2_ticksWithOne 14 = .ok (.aload_n 0, 1) := by decide +kernel
theorem dX2_ticksWithOne_15 : decode cX2_ticksWithOne 15 = .ok (.getfield 27, 3) := by decide +kernel
theorem dX2_ticksWithOne_18 : decode cX2_ticksWithOne 18 = .ok (.iadd, 1) := by decide +kernel
theorem dX2_ticksWithOne_19 : decode cX2_ticksWithOne 19 = .ok (.istore_n 2, 1) := by decide +kernel
theorem dX2_ticksWithOne_20 : decode cX2_ticksWithOne 20 = .ok (.iinc 3 1, 3) := by decide +kernel
theorem dX2_ticksWithOne_23 : decode cX2_ticksWithOne 23 = .ok (.goto (-19), 3) := by decide +kernel
theorem dX2_ticksWithOne_26 : decode cX2_ticksWithOne 26 = .ok (.iload_n 2, 1) := by decide +kernel
theorem dX2_ticksWithOne_27 : decode cX2_ticksWithOne 27 = .ok (.ireturn, 1) := by decide +kernel
theorem dX2_isAs_0 : decode cX2_isAs 0 = .ok (.aload_n 1, 1) := by decide +kernel
theorem dX2_isAs_1 : decode cX2_isAs 1 = .ok (.ifnull 14, 3) := by decide +kernel
theorem dX2_isAs_4 : decode cX2_isAs 4 = .ok (.aload_n 0, 1) := by decide +kernel
theorem dX2_isAs_5 : decode cX2_isAs 5 = .ok (.getfield 21, 3) := by decide +kernel
theorem dX2_isAs_8 : decode cX2_isAs 8 = .ok (.aload_n 1, 1) := by decide +kernel
theorem dX2_isAs_9 : decode cX2_isAs 9 = .ok (.getfield 21, 3) := by decide +kernel
theorem dX2_isAs_12 : decode cX2_isAs 12 = .ok (.if_icmp .eq 5, 3) := by decide +kernel
theorem dX2_isAs_15 : decode cX2_isAs 15 = .ok (.iconst 0, 1) := by decide +kernel
theorem dX2_isAs_16 : decode cX2_isAs 16 = .ok (.ireturn, 1) := by decide +kernel
theorem dX2_isAs_17 : decode cX2_isAs 17 = .ok (.aload_n 0, 1) := by decide +kernel
theorem dX2_isAs_18 : decode cX2_isAs 18 = .ok (.getfield 9, 3) := by decide +kernel
theorem dX2_isAs_21 : decode cX2_isAs 21 = .ok (.iconst 1, 1) := by decide +kernel
theorem dX2_isAs_22 : decode cX2_isAs 22 = .ok (.if_icmp .eq 25, 3) := by decide +kernel
theorem dX2_isAs_25 : decode cX2_isAs 25 = .ok (.aload_n 0, 1) := by decide +kernel
theorem dX2_isAs_26 : decode cX2_isAs 26 = .ok (.getfield 24, 3) := by decide +kernel
theorem dX2_isAs_29 : decode cX2_isAs 29 = .ok (.aload_n 1, 1) := by decide +kernel
theorem dX2_isAs_30 : decode cX2_isAs 30 = .ok (.getfield 24, 3) := by decide +kernel
theorem dX2_isAs_33 : decode cX2_isAs 33 = .ok (.if_icmp .ne 18, 3) := by decide +kernel
theorem dX2_isAs_36 : decode cX2_isAs 36 = .ok (.aload_n 0, 1) := by decide +kernel
theorem dX2_isAs_37 : decode cX2_isAs 37 = .ok (.getfield 27, 3) := by decide +kernel
theorem dX2_isAs_40 : decode cX2_isAs 40 = .ok (.aload_n 1, 1) := by decide +kernel
theorem dX2_isAs_41 : decode cX2_isAs 41 = .ok (.getfield 27, 3) := by decide +kernel
theorem dX2_isAs_44 : decode cX2_isAs 44 = .ok (.if_icmp .ne 7, 3) := by decide +kernel
theorem dX2_isAs_47 : decode cX2_isAs 47 = .ok (.iconst 1, 1) := by decide +kernel
theorem dX2_isAs_48 : decode cX2_isAs 48 = .ok (.goto 4, 3) := by decide +kernel
theorem dX2_isAs_51 : decode cX2_isAs 51 = .ok (.iconst 0, 1) := by decide +kernel
theorem dX2_isAs_52 : decode cX2_isAs 52 = .ok (.ireturn, 1) := by decide +kernel
theorem dX3_init_0 : decode cX3_init 0 = .ok (.aload_n 0, 1) := by decide +kernel
theorem dX3_init_1 : decode cX3_init 1 = .ok (.invokespecial 5, 3) := by decide +kernel
theorem dX3_init_4 : decode cX3_init 4 = .ok (.aload_n 0, 1) := by decide +kernel
theorem dX3_init_5 : decode cX3_init 5 = .ok (.bipush 12, 2) := by decide +kernel
theorem dX3_init_7 : decode cX3_init 7 = .ok (.newarray .int, 2) := by decide +kernel
theorem dX3_init_9 : decode cX3_init 9 = .ok (.putfield 13, 3) := by decide +kernel
theorem dX3_init_12 : decode cX3_init 12 = .ok (.aload_n 0, 1) := by decide +kernel
theorem dX3_init_13 : decode cX3_init 13 = .ok (.bipush 12, 2) := by decide +kernel
theorem dX3_init_15 : decode cX3_init 15 = .ok (.newarray .int, 2) := by decide +kernel
theorem dX3_init_17 : decode cX3_init 17 = .ok (.putfield 17, 3) := by decide +kernel
theorem dX3_init_20 : decode cX3_init 20 = .ok (.aload_n 0, 1) := by decide +kernel
theorem dX3_init_21 : decode cX3_init 21 = .ok (.sipush 132, 3) := by decide +kernel
theorem dX3_init_24 : decode cX3_init 24 = .ok (.newarray .long, 2) := by decide +kernel
theorem dX3_init_26 : decode cX3_init 26 = .ok (.putfield 20, 3) := by decide +kernel
theorem dX3_init_29 : decode cX3_init 29 = .ok (.aload_n 0, 1) := by decide +kernel
theorem dX3_init_30 : decode cX3_init 30 = .ok (.iconst 0, 1) := by decide +kernel
theorem dX3_init_31 : decode cX3_init 31 = .ok (.putfield 24, 3) := by decide +kernel
theorem dX3_init_34 : decode cX3_init 34 = .ok (.aload_n 0, 1) := by decide +kernel
theorem dX3_init_35 : decode cX3_init 35 = .ok (.iconst 0, 1) := by decide +kernel
theorem dX3_init_36 : decode cX3_init 36 = .ok (.putfield 28, 3) := by decide +kernel
theorem dX3_init_39 : decode cX3_init 39 = .ok (.aload_n 0, 1) := by decide +kernel
theorem dX3_init_40 : decode cX3_init 40 = .ok (.lconst 1, 1) := by decide +kernel
theorem dX3_init_41 : decode cX3_init 41 = .ok (.putfield 31, 3) := by decide +kernel
theorem dX3_init_44 : decode cX3_init 44 = .ok (.aload_n 0, 1) := by decide +kernel
theorem dX3_init_45 : decode cX3_init 45 = .ok (.aload_n 1, 1) := by decide +kernel
theorem dX3_init_46 : decode cX3_init 46 = .ok (.putfield 35, 3) := by decide +kernel
theorem dX3_init_49 : decode cX3_init 49 = .ok (.return_, 1) := by decide +kernel
theorem dX3_codeAt_0 : decode cX3_codeAt 0 = .ok (.iload_n 1, 1) := by decide +kernel
theorem dX3_codeAt_1 : decode cX3_codeAt 1 = .ok (.ifCond .lt 21, 3) := by decide +kernel
theorem dX3_codeAt_4 : decode cX3_codeAt 4 = .ok (.iload_n 1, 1) := by decide +kernel
theorem dX3_codeAt_5 : decode cX3_codeAt 5 = .ok (.aload_n 0, 1) := by decide +kernel
theorem dX3_codeAt_6 : decode cX3_codeAt 6 = .ok (.getfield 13, 3) := by decide +kernel
theorem dX3_codeAt_9 : decode cX3_codeAt 9 = .ok (.arraylength, 1) := by decide +kernel
theorem dX3_codeAt_10 : decode cX3_codeAt 10 = .ok (.if_icmp .ge 12, 3) := by decide +kernel
theorem dX3_codeAt_13 : decode cX3_codeAt 13 = .ok (.aload_n 0, 1) := by decide +kernel
theorem dX3_codeAt_14 : decode cX3_codeAt 14 = .ok (.getfield 13, 3) := by decide +kernel
theorem dX3_codeAt_17 : decode cX3_codeAt 17 = .ok (.iload_n 1, 1) := by decide +kernel
theorem dX3_codeAt_18 : decode cX3_codeAt 18 = .ok (.iaload, 1) := by decide +kernel
theorem dX3_codeAt_19 : decode cX3_codeAt 19 = .ok (.goto 4, 3) := by decide +kernel
theorem dX3_codeAt_22 : decode cX3_codeAt 22 = .ok (.iconst 0, 1) := by decide +kernel
theorem dX3_codeAt_23 : decode cX3_codeAt 23 = .ok (.ireturn, 1) := by decide +kernel
theorem dX3_voltAt_0 : decode cX3_voltAt 0 = .ok (.iload_n 1, 1) := by decide +kernel
theorem dX3_voltAt_1 : decode cX3_voltAt 1 = .ok (.ifCond .lt 21, 3) := by decide +kernel
theorem dX3_voltAt_4 : decode cX3_voltAt 4 = .ok (.iload_n 1, 1) := by decide +kernel
theorem dX3_voltAt_5 : decode cX3_voltAt 5 = .ok (.aload_n 0, 1) := by decide +kernel
theorem dX3_voltAt_6 : decode cX3_voltAt 6 = .ok (.getfield 17, 3) := by decide +kernel
theorem dX3_voltAt_9 : decode cX3_voltAt 9 = .ok (.arraylength, 1) := by decide +kernel
theorem dX3_voltAt_10 : decode cX3_voltAt 10 = .ok (.if_icmp .ge 12, 3) := by decide +kernel
theorem dX3_voltAt_13 : decode cX3_voltAt 13 = .ok (.aload_n 0, 1) := by decide +kernel
theorem dX3_voltAt_14 : decode cX3_voltAt 14 = .ok (.getfield 17, 3) := by decide +kernel
theorem dX3_voltAt_17 : decode cX3_voltAt 17 = .ok (.iload_n 1, 1) := by decide +kernel
theorem dX3_voltAt_18 : decode cX3_voltAt 18 = .ok (.iaload, 1) := by decide +kernel
theorem dX3_voltAt_19 : decode cX3_voltAt 19 = .ok (.goto 4, 3) := by decide +kernel
theorem dX3_voltAt_22 : decode cX3_voltAt 22 = .ok (.iconst 0, 1) := by decide +kernel
theorem dX3_voltAt_23 : decode cX3_voltAt 23 = .ok (.ireturn, 1) := by decide +kernel
theorem dX3_put_0 : decode cX3_put 0 = .ok (.iconst 0, 1) := by decide +kernel
theorem dX3_put_1 : decode cX3_put 1 = .ok (.istore_n 3, 1) := by decide +kernel
theorem dX3_put_2 : decode cX3_put 2 = .ok (.iload_n 3, 1) := by decide +kernel
theorem dX3_put_3 : decode cX3_put 3 = .ok (.aload_n 0, 1) := by decide +kernel
theorem dX3_put_4 : decode cX3_put 4 = .ok (.getfield 28, 3) := by decide +kernel
theorem dX3_put_7 : decode cX3_put 7 = .ok (.if_icmp .ge 18, 3) := by decide +kernel
theorem dX3_put_10 : decode cX3_put 10 = .ok (.aload_n 0, 1) := by decide +kernel
theorem dX3_put_11 : decode cX3_put 11 = .ok (.iload_n 3, 1) := by decide +kernel
theorem dX3_put_12 : decode cX3_put 12 = .ok (.invokevirtual 39, 3) := by decide +kernel
theorem dX3_put_15 : decode cX3_put 15 = .ok (.iload_n 1, 1) := by decide +kernel
theorem dX3_put_16 : decode cX3_put 16 = .ok (.if_icmp .eq 9, 3) := by decide +kernel
theorem dX3_put_19 : decode cX3_put 19 = .ok (.iinc 3 1, 3) := by decide +kernel
theorem dX3_put_22 : decode cX3_put 22 = .ok (.goto (-20), 3) := by decide +kernel
theorem dX3_put_25 : decode cX3_put 25 = .ok (.iload_n 3, 1) := by decide +kernel
theorem dX3_put_26 : decode cX3_put 26 = .ok (.aload_n 0, 1) := by decide +kernel
theorem dX3_put_27 : decode cX3_put 27 = .ok (.getfield 13, 3) := by decide +kernel
theorem dX3_put_30 : decode cX3_put 30 = .ok (.arraylength, 1) := by decide +kernel
theorem dX3_put_31 : decode cX3_put 31 = .ok (.if_icmp .ge 12, 3) := by decide +kernel
theorem dX3_put_34 : decode cX3_put 34 = .ok (.iload_n 3, 1) := by decide +kernel
theorem dX3_put_35 : decode cX3_put 35 = .ok (.aload_n 0, 1) := by decide +kernel
theorem dX3_put_36 : decode cX3_put 36 = .ok (.getfield 17, 3) := by decide +kernel
theorem dX3_put_39 : decode cX3_put 39 = .ok (.arraylength, 1) := by decide +kernel
theorem dX3_put_40 : decode cX3_put 40 = .ok (.if_icmp .lt 5, 3) := by decide +kernel
theorem dX3_put_43 : decode cX3_put 43 = .ok (.iconst 0, 1) := by decide +kernel
theorem dX3_put_44 : decode cX3_put 44 = .ok (.ireturn, 1) := by decide +kernel
theorem dX3_put_45 : decode cX3_put 45 = .ok (.aload_n 0, 1) := by decide +kernel
theorem dX3_put_46 : decode cX3_put 46 = .ok (.getfield 13, 3) := by decide +kernel
theorem dX3_put_49 : decode cX3_put 49 = .ok (.iload_n 3, 1) := by decide +kernel
theorem dX3_put_50 : decode cX3_put 50 = .ok (.iload_n 1, 1) := by decide +kernel
theorem dX3_put_51 : decode cX3_put 51 = .ok (.iastore, 1) := by decide +kernel
theorem dX3_put_52 : decode cX3_put 52 = .ok (.aload_n 0, 1) := by decide +kernel
theorem dX3_put_53 : decode cX3_put 53 = .ok (.getfield 17, 3) := by decide +kernel
theorem dX3_put_56 : decode cX3_put 56 = .ok (.iload_n 3, 1) := by decide +kernel
theorem dX3_put_57 : decode cX3_put 57 = .ok (.iload_n 2, 1) := by decide +kernel
theorem dX3_put_58 : decode cX3_put 58 = .ok (.iastore, 1) := by decide +kernel
theorem dX3_put_59 : decode cX3_put 59 = .ok (.aload_n 0, 1) := by decide +kernel
theorem dX3_put_60 : decode cX3_put 60 = .ok (.aload_n 0, 1) := by decide +kernel
theorem dX3_put_61 : decode cX3_put 61 = .ok (.getfield 28, 3) := by decide +kernel
theorem dX3_put_64 : decode cX3_put 64 = .ok (.iload_n 3, 1) := by decide +kernel
theorem dX3_put_65 : decode cX3_put 65 = .ok (.iconst 1, 1) := by decide +kernel
theorem dX3_put_66 : decode cX3_put 66 = .ok (.iadd, 1) := by decide +kernel
theorem dX3_put_67 : decode cX3_put 67 = .ok (.invokestatic 43, 3) := by decide +kernel
theorem dX3_put_70 : decode cX3_put 70 = .ok (.putfield 28, 3) := by decide +kernel
theorem dX3_put_73 : decode cX3_put 73 = .ok (.iconst 1, 1) := by decide +kernel
theorem dX3_put_74 : decode cX3_put 74 = .ok (.ireturn, 1) := by decide +kernel
theorem dX3_solve_0 : decode cX3_solve 0 = .ok (.aload_n 0, 1) := by decide +kernel
theorem dX3_solve_1 : decode cX3_solve 1 = .ok (.invokevirtual 49, 3) := by decide +kernel
theorem dX3_solve_4 : decode cX3_solve 4 = .ok (.iconst 0, 1) := by decide +kernel
theorem dX3_solve_5 : decode cX3_solve 5 = .ok (.istore_n 1, 1) := by decide +kernel
theorem dX3_solve_6 : decode cX3_solve 6 = .ok (.aload_n 0, 1) := by decide +kernel
theorem dX3_solve_7 : decode cX3_solve 7 = .ok (.lconst 1, 1) := by decide +kernel
theorem dX3_solve_8 : decode cX3_solve 8 = .ok (.putfield 31, 3) := by decide +kernel
theorem dX3_solve_11 : decode cX3_solve 11 = .ok (.iconst 0, 1) := by decide +kernel
theorem dX3_solve_12 : decode cX3_solve 12 = .ok (.istore_n 2, 1) := by decide +kernel
theorem dX3_solve_13 : decode cX3_solve 13 = .ok (.iload_n 2, 1) := by decide +kernel
theorem dX3_solve_14 : decode cX3_solve 14 = .ok (.aload_n 0, 1) := by decide +kernel
theorem dX3_solve_15 : decode cX3_solve 15 = .ok (.getfield 24, 3) := by decide +kernel
theorem dX3_solve_18 : decode cX3_solve 18 = .ok (.if_icmp .ge 47, 3) := by decide +kernel
theorem dX3_solve_21 : decode cX3_solve 21 = .ok (.aload_n 0, 1) := by decide +kernel
theorem dX3_solve_22 : decode cX3_solve 22 = .ok (.iload_n 2, 1) := by decide +kernel
theorem dX3_solve_23 : decode cX3_solve 23 = .ok (.iload_n 1, 1) := by decide +kernel
theorem dX3_solve_24 : decode cX3_solve 24 = .ok (.invokevirtual 52, 3) := by decide +kernel
theorem dX3_solve_27 : decode cX3_solve 27 = .ok (.istore_n 3, 1) := by decide +kernel
theorem dX3_solve_28 : decode cX3_solve 28 = .ok (.iload_n 3, 1) := by decide +kernel
theorem dX3_solve_29 : decode cX3_solve 29 = .ok (.bipush (-4), 2) := by decide +kernel
theorem dX3_solve_31 : decode cX3_solve 31 = .ok (.if_icmp .eq 28, 3) := by decide +kernel
theorem dX3_solve_34 : decode cX3_solve 34 = .ok (.aload_n 0, 1) := by decide +kernel
theorem dX3_solve_35 : decode cX3_solve 35 = .ok (.iload_n 3, 1) := by decide +kernel
theorem dX3_solve_36 : decode cX3_solve 36 = .ok (.iload_n 1, 1) := by decide +kernel
theorem dX3_solve_37 : decode cX3_solve 37 = .ok (.invokevirtual 55, 3) := by decide +kernel
theorem dX3_solve_40 : decode cX3_solve 40 = .ok (.aload_n 0, 1) := by decide +kernel
theorem dX3_solve_41 : decode cX3_solve 41 = .ok (.iload_n 2, 1) := by decide +kernel
theorem dX3_solve_42 : decode cX3_solve 42 = .ok (.iload_n 1, 1) := by decide +kernel
theorem dX3_solve_43 : decode cX3_solve 43 = .ok (.invokevirtual 59, 3) := by decide +kernel
theorem dX3_solve_46 : decode cX3_solve 46 = .ok (.aload_n 0, 1) := by decide +kernel
theorem dX3_solve_47 : decode cX3_solve 47 = .ok (.aload_n 0, 1) := by decide +kernel
theorem dX3_solve_48 : decode cX3_solve 48 = .ok (.iload_n 1, 1) := by decide +kernel
theorem dX3_solve_49 : decode cX3_solve 49 = .ok (.iload_n 2, 1) := by decide +kernel
theorem dX3_solve_50 : decode cX3_solve 50 = .ok (.invokevirtual 62, 3) := by decide +kernel
theorem dX3_solve_53 : decode cX3_solve 53 = .ok (.putfield 31, 3) := by decide +kernel
theorem dX3_solve_56 : decode cX3_solve 56 = .ok (.iinc 1 1, 3) := by decide +kernel
theorem dX3_solve_59 : decode cX3_solve 59 = .ok (.iinc 2 1, 3) := by decide +kernel
theorem dX3_solve_62 : decode cX3_solve 62 = .ok (.goto (-49), 3) := by decide +kernel
theorem dX3_solve_65 : decode cX3_solve 65 = .ok (.iload_n 1, 1) := by decide +kernel
theorem dX3_solve_66 : decode cX3_solve 66 = .ok (.istore_n 2, 1) := by decide +kernel
theorem dX3_solve_67 : decode cX3_solve 67 = .ok (.iload_n 2, 1) := by decide +kernel
theorem dX3_solve_68 : decode cX3_solve 68 = .ok (.aload_n 0, 1) := by decide +kernel
theorem dX3_solve_69 : decode cX3_solve 69 = .ok (.getfield 28, 3) := by decide +kernel
theorem dX3_solve_72 : decode cX3_solve 72 = .ok (.if_icmp .ge 26, 3) := by decide +kernel
theorem dX3_solve_75 : decode cX3_solve 75 = .ok (.aload_n 0, 1) := by decide +kernel
theorem dX3_solve_76 : decode cX3_solve 76 = .ok (.iload_n 2, 1) := by decide +kernel
theorem dX3_solve_77 : decode cX3_solve 77 = .ok (.aload_n 0, 1) := by decide +kernel
theorem dX3_solve_78 : decode cX3_solve 78 = .ok (.getfield 24, 3) := by decide +kernel
theorem dX3_solve_81 : decode cX3_solve 81 = .ok (.invokevirtual 62, 3) := by decide +kernel
theorem dX3_solve_84 : decode cX3_solve 84 = .ok (.lconst 0, 1) := by decide +kernel
theorem dX3_solve_85 : decode cX3_solve 85 = .ok (.lcmp, 1) := by decide +kernel
theorem dX3_solve_86 : decode cX3_solve 86 = .ok (.ifCond .eq 6, 3) := by decide +kernel
theorem dX3_solve_89 : decode cX3_solve 89 = .ok (.bipush (-2), 2) := by decide +kernel
theorem dX3_solve_91 : decode cX3_solve 91 = .ok (.ireturn, 1) := by decide +kernel
theorem dX3_solve_92 : decode cX3_solve 92 = .ok (.iinc 2 1, 3) := by decide +kernel
theorem dX3_solve_95 : decode cX3_solve 95 = .ok (.goto (-28), 3) := by decide +kernel
theorem dX3_solve_98 : decode cX3_solve 98 = .ok (.iload_n 1, 1) := by decide +kernel
theorem dX3_solve_99 : decode cX3_solve 99 = .ok (.aload_n 0, 1) := by decide +kernel
theorem dX3_solve_100 : decode cX3_solve 100 = .ok (.getfield 24, 3) := by decide +kernel
theorem dX3_solve_103 : decode cX3_solve 103 = .ok (.if_icmp .ge 8, 3) := by decide +kernel
theorem dX3_solve_106 : decode cX3_solve 106 = .ok (.bipush (-4), 2) := by decide +kernel
theorem dX3_solve_108 : decode cX3_solve 108 = .ok (.goto 4, 3) := by decide +kernel
theorem dX3_solve_111 : decode cX3_solve 111 = .ok (.iconst 0, 1) := by decide +kernel
theorem dX3_solve_112 : decode cX3_solve 112 = .ok (.ireturn, 1) := by decide +kernel
theorem dX3_fillGrid_0 : decode cX3_fillGrid 0 = .ok (.aload_n 0, 1) := by decide +kernel
theorem dX3_fillGrid_1 : decode cX3_fillGrid 1 = .ok (.getfield 35, 3) := by decide +kernel
theorem dX3_fillGrid_4 : decode cX3_fillGrid 4 = .ok (.invokevirtual 66, 3) := by decide +kernel
theorem dX3_fillGrid_7 : decode cX3_fillGrid 7 = .ok (.istore_n 1, 1) := by decide +kernel
theorem dX3_fillGrid_8 : decode cX3_fillGrid 8 = .ok (.aload_n 0, 1) := by decide +kernel
theorem dX3_fillGrid_9 : decode cX3_fillGrid 9 = .ok (.iconst 1, 1) := by decide +kernel
theorem dX3_fillGrid_10 : decode cX3_fillGrid 10 = .ok (.iload_n 1, 1) := by decide +kernel
theorem dX3_fillGrid_11 : decode cX3_fillGrid 11 = .ok (.iadd, 1) := by decide +kernel
theorem dX3_fillGrid_12 : decode cX3_fillGrid 12 = .ok (.putfield 24, 3) := by decide +kernel
theorem dX3_fillGrid_15 : decode cX3_fillGrid 15 = .ok (.iconst 0, 1) := by decide +kernel
theorem dX3_fillGrid_16 : decode cX3_fillGrid 16 = .ok (.istore_n 2, 1) := by decide +kernel
theorem dX3_fillGrid_17 : decode cX3_fillGrid 17 = .ok (.iload_n 2, 1) := by decide +kernel
theorem dX3_fillGrid_18 : decode cX3_fillGrid 18 = .ok (.aload_n 0, 1) := by decide +kernel
theorem dX3_fillGrid_19 : decode cX3_fillGrid 19 = .ok (.getfield 28, 3) := by decide +kernel
theorem dX3_fillGrid_22 : decode cX3_fillGrid 22 = .ok (.if_icmp .ge 73, 3) := by decide +kernel
theorem dX3_fillGrid_25 : decode cX3_fillGrid 25 = .ok (.aload_n 0, 1) := by decide +kernel
theorem dX3_fillGrid_26 : decode cX3_fillGrid 26 = .ok (.iload_n 2, 1) := by decide +kernel
theorem dX3_fillGrid_27 : decode cX3_fillGrid 27 = .ok (.iconst 0, 1) := by decide +kernel
theorem dX3_fillGrid_28 : decode cX3_fillGrid 28 = .ok (.lconst 1, 1) := by decide +kernel
theorem dX3_fillGrid_29 : decode cX3_fillGrid 29 = .ok (.invokevirtual 70, 3) := by decide +kernel
theorem dX3_fillGrid_32 : decode cX3_fillGrid 32 = .ok (.iconst 0, 1) := by decide +kernel
theorem dX3_fillGrid_33 : decode cX3_fillGrid 33 = .ok (.istore_n 3, 1) := by decide +kernel
theorem dX3_fillGrid_34 : decode cX3_fillGrid 34 = .ok (.iload_n 3, 1) := by decide +kernel
theorem dX3_fillGrid_35 : decode cX3_fillGrid 35 = .ok (.iload_n 1, 1) := by decide +kernel
theorem dX3_fillGrid_36 : decode cX3_fillGrid 36 = .ok (.if_icmp .ge 38, 3) := by decide +kernel
theorem dX3_fillGrid_39 : decode cX3_fillGrid 39 = .ok (.aload_n 0, 1) := by decide +kernel
theorem dX3_fillGrid_40 : decode cX3_fillGrid 40 = .ok (.iload_n 2, 1) := by decide +kernel
theorem dX3_fillGrid_41 : decode cX3_fillGrid 41 = .ok (.iconst 1, 1) := by decide +kernel
theorem dX3_fillGrid_42 : decode cX3_fillGrid 42 = .ok (.iload_n 3, 1) := by decide +kernel
theorem dX3_fillGrid_43 : decode cX3_fillGrid 43 = .ok (.iadd, 1) := by decide +kernel
theorem dX3_fillGrid_44 : decode cX3_fillGrid 44 = .ok (.aload_n 0, 1) := by decide +kernel
theorem dX3_fillGrid_45 : decode cX3_fillGrid 45 = .ok (.getfield 35, 3) := by decide +kernel
theorem dX3_fillGrid_48 : decode cX3_fillGrid 48 = .ok (.aload_n 0, 1) := by decide +kernel
theorem dX3_fillGrid_49 : decode cX3_fillGrid 49 = .ok (.iload_n 2, 1) := by decide +kernel
theorem dX3_fillGrid_50 : decode cX3_fillGrid 50 = .ok (.invokevirtual 39, 3) := by decide +kernel
theorem dX3_fillGrid_53 : decode cX3_fillGrid 53 = .ok (.iload_n 3, 1) := by decide +kernel
theorem dX3_fillGrid_54 : decode cX3_fillGrid 54 = .ok (.invokevirtual 74, 3) := by decide +kernel
theorem dX3_fillGrid_57 : decode cX3_fillGrid 57 = .ok (.ifCond .eq 7, 3) := by decide +kernel
theorem dX3_fillGrid_60 : decode cX3_fillGrid 60 = .ok (.lconst 1, 1) := by decide +kernel
theorem dX3_fillGrid_61 : decode cX3_fillGrid 61 = .ok (.goto 4, 3) := by decide +kernel
theorem dX3_fillGrid_64 : decode cX3_fillGrid 64 = .ok (.lconst 0, 1) := by decide +kernel
theorem dX3_fillGrid_65 : decode cX3_fillGrid 65 = .ok (.invokevirtual 70, 3) := by decide +kernel
theorem dX3_fillGrid_68 : decode cX3_fillGrid 68 = .ok (.iinc 3 1, 3) := by decide +kernel
theorem dX3_fillGrid_71 : decode cX3_fillGrid 71 = .ok (.goto (-37), 3) := by decide +kernel
theorem dX3_fillGrid_74 : decode cX3_fillGrid 74 = .ok (.aload_n 0, 1) := by decide +kernel
theorem dX3_fillGrid_75 : decode cX3_fillGrid 75 = .ok (.iload_n 2, 1) := by decide +kernel
theorem dX3_fillGrid_76 : decode cX3_fillGrid 76 = .ok (.aload_n 0, 1) := by decide +kernel
theorem dX3_fillGrid_77 : decode cX3_fillGrid 77 = .ok (.getfield 24, 3) := by decide +kernel
theorem dX3_fillGrid_80 : decode cX3_fillGrid 80 = .ok (.aload_n 0, 1) := by decide +kernel
theorem dX3_fillGrid_81 : decode cX3_fillGrid 81 = .ok (.iload_n 2, 1) := by decide +kernel
theorem dX3_fillGrid_82 : decode cX3_fillGrid 82 = .ok (.invokevirtual 78, 3) := by decide +kernel
theorem dX3_fillGrid_85 : decode cX3_fillGrid 85 = .ok (.i2l, 1) := by decide +kernel
theorem dX3_fillGrid_86 : decode cX3_fillGrid 86 = .ok (.invokevirtual 70, 3) := by decide +kernel
theorem dX3_fillGrid_89 : decode cX3_fillGrid 89 = .ok (.iinc 2 1, 3) := by decide +kernel
theorem dX3_fillGrid_92 : decode cX3_fillGrid 92 = .ok (.goto (-75), 3) := by decide +kernel
theorem dX3_fillGrid_95 : decode cX3_fillGrid 95 = .ok (.return_, 1) := by decide +kernel
theorem dX3_rowWith_0 : decode cX3_rowWith 0 = .ok (.iload_n 2, 1) := by decide +kernel
theorem dX3_rowWith_1 : decode cX3_rowWith 1 = .ok (.istore_n 3, 1) := by decide +kernel
theorem dX3_rowWith_2 : decode cX3_rowWith 2 = .ok (.iload_n 3, 1) := by decide +kernel
theorem dX3_rowWith_3 : decode cX3_rowWith 3 = .ok (.aload_n 0, 1) := by decide +kernel
theorem dX3_rowWith_4 : decode cX3_rowWith 4 = .ok (.getfield 28, 3) := by decide +kernel
theorem dX3_rowWith_7 : decode cX3_rowWith 7 = .ok (.if_icmp .ge 22, 3) := by decide +kernel
theorem dX3_rowWith_10 : decode cX3_rowWith 10 = .ok (.aload_n 0, 1) := by decide +kernel
theorem dX3_rowWith_11 : decode cX3_rowWith 11 = .ok (.iload_n 3, 1) := by decide +kernel
theorem dX3_rowWith_12 : decode cX3_rowWith 12 = .ok (.iload_n 1, 1) := by decide +kernel
theorem dX3_rowWith_13 : decode cX3_rowWith 13 = .ok (.invokevirtual 62, 3) := by decide +kernel
theorem dX3_rowWith_16 : decode cX3_rowWith 16 = .ok (.lconst 0, 1) := by decide +kernel
theorem dX3_rowWith_17 : decode cX3_rowWith 17 = .ok (.lcmp, 1) := by decide +kernel
theorem dX3_rowWith_18 : decode cX3_rowWith 18 = .ok (.ifCond .eq 5, 3) := by decide +kernel
theorem dX3_rowWith_21 : decode cX3_rowWith 21 = .ok (.iload_n 3, 1) := by decide +kernel
theorem dX3_rowWith_22 : decode cX3_rowWith 22 = .ok (.ireturn, 1) := by decide +kernel
theorem dX3_rowWith_23 : decode cX3_rowWith 23 = .ok (.iinc 3 1, 3) := by decide +kernel
theorem dX3_rowWith_26 : decode cX3_rowWith 26 = .ok (.goto (-24), 3) := by decide +kernel
theorem dX3_rowWith_29 : decode cX3_rowWith 29 = .ok (.bipush (-4), 2) := by decide +kernel
theorem dX3_rowWith_31 : decode cX3_rowWith 31 = .ok (.ireturn, 1) := by decide +kernel
theorem dX3_swapRows_0 : decode cX3_swapRows 0 = .ok (.iconst 0, 1) := by decide +kernel
theorem dX3_swapRows_1 : decode cX3_swapRows 1 = .ok (.istore_n 3, 1) := by decide +kernel
theorem dX3_swapRows_2 : decode cX3_swapRows 2 = .ok (.iload_n 3, 1) := by decide +kernel
theorem dX3_swapRows_3 : decode cX3_swapRows 3 = .ok (.aload_n 0, 1) := by decide +kernel
theorem dX3_swapRows_4 : decode cX3_swapRows 4 = .ok (.getfield 24, 3) := by decide +kernel
theorem dX3_swapRows_7 : decode cX3_swapRows 7 = .ok (.if_icmp .gt 37, 3) := by decide +kernel
theorem dX3_swapRows_10 : decode cX3_swapRows 10 = .ok (.aload_n 0, 1) := by decide +kernel
theorem dX3_swapRows_11 : decode cX3_swapRows 11 = .ok (.iload_n 1, 1) := by decide +kernel
theorem dX3_swapRows_12 : decode cX3_swapRows 12 = .ok (.iload_n 3, 1) := by decide +kernel
theorem dX3_swapRows_13 : decode cX3_swapRows 13 = .ok (.invokevirtual 62, 3) := by decide +kernel
theorem dX3_swapRows_16 : decode cX3_swapRows 16 = .ok (.lstore 4, 2) := by decide +kernel
theorem dX3_swapRows_18 : decode cX3_swapRows 18 = .ok (.aload_n 0, 1) := by decide +kernel
theorem dX3_swapRows_19 : decode cX3_swapRows 19 = .ok (.iload_n 1, 1) := by decide +kernel
theorem dX3_swapRows_20 : decode cX3_swapRows 20 = .ok (.iload_n 3, 1) := by decide +kernel
theorem dX3_swapRows_21 : decode cX3_swapRows 21 = .ok (.aload_n 0, 1) := by decide +kernel
theorem dX3_swapRows_22 : decode cX3_swapRows 22 = .ok (.iload_n 2, 1) := by decide +kernel
theorem dX3_swapRows_23 : decode cX3_swapRows 23 = .ok (.iload_n 3, 1) := by decide +kernel
theorem dX3_swapRows_24 : decode cX3_swapRows 24 = .ok (.invokevirtual 62, 3) := by decide +kernel
theorem dX3_swapRows_27 : decode cX3_swapRows 27 = .ok (.invokevirtual 70, 3) := by decide +kernel
theorem dX3_swapRows_30 : decode cX3_swapRows 30 = .ok (.aload_n 0, 1) := by decide +kernel
theorem dX3_swapRows_31 : decode cX3_swapRows 31 = .ok (.iload_n 2, 1) := by decide +kernel
theorem dX3_swapRows_32 : decode cX3_swapRows 32 = .ok (.iload_n 3, 1) := by decide +kernel
theorem dX3_swapRows_33 : decode cX3_swapRows 33 = .ok (.lload 4, 2) := by decide +kernel
theorem dX3_swapRows_35 : decode cX3_swapRows 35 = .ok (.invokevirtual 70, 3) := by decide +kernel
theorem dX3_swapRows_38 : decode cX3_swapRows 38 = .ok (.iinc 3 1, 3) := by decide +kernel
theorem dX3_swapRows_41 : decode cX3_swapRows 41 = .ok (.goto (-39), 3) := by decide +kernel
theorem dX3_swapRows_44 : decode cX3_swapRows 44 = .ok (.return_, 1) := by decide +kernel
theorem dX3_clearColumn_0 : decode cX3_clearColumn 0 = .ok (.aload_n 0, 1) := by decide +kernel
theorem dX3_clearColumn_1 : decode cX3_clearColumn 1 = .ok (.iload_n 2, 1) := by decide +kernel
theorem dX3_clearColumn_2 : decode cX3_clearColumn 2 = .ok (.iload_n 1, 1) := by decide +kernel
theorem dX3_clearColumn_3 : decode cX3_clearColumn 3 = .ok (.invokevirtual 62, 3) := by decide +kernel
theorem dX3_clearColumn_6 : decode cX3_clearColumn 6 = .ok (.lstore_n 3, 1) := by decide +kernel
theorem dX3_clearColumn_7 : decode cX3_clearColumn 7 = .ok (.iconst 0, 1) := by decide +kernel
theorem dX3_clearColumn_8 : decode cX3_clearColumn 8 = .ok (.istore 5, 2) := by decide +kernel
theorem dX3_clearColumn_10 : decode cX3_clearColumn 10 = .ok (.iload 5, 2) := by decide +kernel
theorem dX3_clearColumn_12 : decode cX3_clearColumn 12 = .ok (.aload_n 0, 1) := by decide +kernel
theorem dX3_clearColumn_13 : decode cX3_clearColumn 13 = .ok (.getfield 28, 3) := by decide +kernel
theorem dX3_clearColumn_16 : decode cX3_clearColumn 16 = .ok (.if_icmp .ge 24, 3) := by decide +kernel
theorem dX3_clearColumn_19 : decode cX3_clearColumn 19 = .ok (.iload 5, 2) := by decide +kernel
theorem dX3_clearColumn_21 : decode cX3_clearColumn 21 = .ok (.iload_n 2, 1) := by decide +kernel
theorem dX3_clearColumn_22 : decode cX3_clearColumn 22 = .ok (.if_icmp .eq 12, 3) := by decide +kernel
theorem dX3_clearColumn_25 : decode cX3_clearColumn 25 = .ok (.aload_n 0, 1) := by decide +kernel
theorem dX3_clearColumn_26 : decode cX3_clearColumn 26 = .ok (.iload 5, 2) := by decide +kernel
theorem dX3_clearColumn_28 : decode cX3_clearColumn 28 = .ok (.iload_n 1, 1) := by decide +kernel
theorem dX3_clearColumn_29 : decode cX3_clearColumn 29 = .ok (.iload_n 2, 1) := by decide +kernel
theorem dX3_clearColumn_30 : decode cX3_clearColumn 30 = .ok (.lload_n 3, 1) := by decide +kernel
theorem dX3_clearColumn_31 : decode cX3_clearColumn 31 = .ok (.invokevirtual 81, 3) := by decide +kernel
theorem dX3_clearColumn_34 : decode cX3_clearColumn 34 = .ok (.iinc 5 1, 3) := by decide +kernel
theorem dX3_clearColumn_37 : decode cX3_clearColumn 37 = .ok (.goto (-27), 3) := by decide +kernel
theorem dX3_clearColumn_40 : decode cX3_clearColumn 40 = .ok (.return_, 1) := by decide +kernel
theorem dX3_clearCell_0 : decode cX3_clearCell 0 = .ok (.aload_n 0, 1) := by decide +kernel
theorem dX3_clearCell_1 : decode cX3_clearCell 1 = .ok (.getfield 31, 3) := by decide +kernel
theorem dX3_clearCell_4 : decode cX3_clearCell 4 = .ok (.lconst 0, 1) := by decide +kernel
theorem dX3_clearCell_5 : decode cX3_clearCell 5 = .ok (.lcmp, 1) := by decide +kernel
theorem dX3_clearCell_6 : decode cX3_clearCell 6 = .ok (.ifCond .ne 4, 3) := by decide +kernel
theorem dX3_clearCell_9 : decode cX3_clearCell 9 = .ok (.return_, 1) := by decide +kernel
theorem dX3_clearCell_10 : decode cX3_clearCell 10 = .ok (.aload_n 0, 1) := by decide +kernel
theorem dX3_clearCell_11 : decode cX3_clearCell 11 = .ok (.iload_n 1, 1) := by decide +kernel
theorem dX3_clearCell_12 : decode cX3_clearCell 12 = .ok (.iload_n 2, 1) := by decide +kernel
theorem dX3_clearCell_13 : decode cX3_clearCell 13 = .ok (.invokevirtual 62, 3) := by decide +kernel
theorem dX3_clearCell_16 : decode cX3_clearCell 16 = .ok (.lstore 6, 2) := by decide +kernel
theorem dX3_clearCell_18 : decode cX3_clearCell 18 = .ok (.iconst 0, 1) := by decide +kernel
theorem dX3_clearCell_19 : decode cX3_clearCell 19 = .ok (.istore 8, 2) := by decide +kernel
theorem dX3_clearCell_21 : decode cX3_clearCell 21 = .ok (.iload 8, 2) := by decide +kernel
theorem dX3_clearCell_23 : decode cX3_clearCell 23 = .ok (.aload_n 0, 1) := by decide +kernel
theorem dX3_clearCell_24 : decode cX3_clearCell 24 = .ok (.getfield 24, 3) := by decide +kernel
theorem dX3_clearCell_27 : decode cX3_clearCell 27 = .ok (.if_icmp .gt 46, 3) := by decide +kernel
theorem dX3_clearCell_30 : decode cX3_clearCell 30 = .ok (.lload 4, 2) := by decide +kernel
theorem dX3_clearCell_32 : decode cX3_clearCell 32 = .ok (.aload_n 0, 1) := by decide +kernel
theorem dX3_clearCell_33 : decode cX3_clearCell 33 = .ok (.iload_n 1, 1) := by decide +kernel
theorem dX3_clearCell_34 : decode cX3_clearCell 34 = .ok (.iload 8, 2) := by decide +kernel
theorem dX3_clearCell_36 : decode cX3_clearCell 36 = .ok (.invokevirtual 62, 3) := by decide +kernel
theorem dX3_clearCell_39 : decode cX3_clearCell 39 = .ok (.lmul, 1) := by decide +kernel
theorem dX3_clearCell_40 : decode cX3_clearCell 40 = .ok (.lload 6, 2) := by decide +kernel
theorem dX3_clearCell_42 : decode cX3_clearCell 42 = .ok (.aload_n 0, 1) := by decide +kernel
theorem dX3_clearCell_43 : decode cX3_clearCell 43 = .ok (.iload_n 3, 1) := by decide +kernel
theorem dX3_clearCell_44 : decode cX3_clearCell 44 = .ok (.iload 8, 2) := by decide +kernel
theorem dX3_clearCell_46 : decode cX3_clearCell 46 = .ok (.invokevirtual 62, 3) := by decide +kernel
theorem dX3_clearCell_49 : decode cX3_clearCell 49 = .ok (.lmul, 1) := by decide +kernel
theorem dX3_clearCell_50 : decode cX3_clearCell 50 = .ok (.lsub, 1) := by decide +kernel
theorem dX3_clearCell_51 : decode cX3_clearCell 51 = .ok (.lstore 9, 2) := by decide +kernel
theorem dX3_clearCell_53 : decode cX3_clearCell 53 = .ok (.aload_n 0, 1) := by decide +kernel
theorem dX3_clearCell_54 : decode cX3_clearCell 54 = .ok (.iload_n 1, 1) := by decide +kernel
theorem dX3_clearCell_55 : decode cX3_clearCell 55 = .ok (.iload 8, 2) := by decide +kernel
theorem dX3_clearCell_57 : decode cX3_clearCell 57 = .ok (.lload 9, 2) := by decide +kernel
theorem dX3_clearCell_59 : decode cX3_clearCell 59 = .ok (.aload_n 0, 1) := by decide +kernel
theorem dX3_clearCell_60 : decode cX3_clearCell 60 = .ok (.getfield 31, 3) := by decide +kernel
theorem dX3_clearCell_63 : decode cX3_clearCell 63 = .ok (.ldiv, 1) := by decide +kernel
theorem dX3_clearCell_64 : decode cX3_clearCell 64 = .ok (.invokevirtual 70, 3) := by decide +kernel
theorem dX3_clearCell_67 : decode cX3_clearCell 67 = .ok (.iinc 8 1, 3) := by decide +kernel
theorem dX3_clearCell_70 : decode cX3_clearCell 70 = .ok (.goto (-49), 3) := by decide +kernel
theorem dX3_clearCell_73 : decode cX3_clearCell 73 = .ok (.return_, 1) := by decide +kernel
theorem dX3_cell_0 : decode cX3_cell 0 = .ok (.iload_n 1, 1) := by decide +kernel
theorem dX3_cell_1 : decode cX3_cell 1 = .ok (.bipush 11, 2) := by decide +kernel
theorem dX3_cell_3 : decode cX3_cell 3 = .ok (.imul, 1) := by decide +kernel
theorem dX3_cell_4 : decode cX3_cell 4 = .ok (.iload_n 2, 1) := by decide +kernel
theorem dX3_cell_5 : decode cX3_cell 5 = .ok (.iadd, 1) := by decide +kernel
theorem dX3_cell_6 : decode cX3_cell 6 = .ok (.istore_n 3, 1) := by decide +kernel
theorem dX3_cell_7 : decode cX3_cell 7 = .ok (.iload_n 3, 1) := by decide +kernel
theorem dX3_cell_8 : decode cX3_cell 8 = .ok (.ifCond .lt 21, 3) := by decide +kernel
theorem dX3_cell_11 : decode cX3_cell 11 = .ok (.iload_n 3, 1) := by decide +kernel
theorem dX3_cell_12 : decode cX3_cell 12 = .ok (.aload_n 0, 1) := by decide +kernel
theorem dX3_cell_13 : decode cX3_cell 13 = .ok (.getfield 20, 3) := by decide +kernel
theorem dX3_cell_16 : decode cX3_cell 16 = .ok (.arraylength, 1) := by decide +kernel
theorem dX3_cell_17 : decode cX3_cell 17 = .ok (.if_icmp .ge 12, 3) := by decide +kernel
theorem dX3_cell_20 : decode cX3_cell 20 = .ok (.aload_n 0, 1) := by decide +kernel
theorem dX3_cell_21 : decode cX3_cell 21 = .ok (.getfield 20, 3) := by decide +kernel
theorem dX3_cell_24 : decode cX3_cell 24 = .ok (.iload_n 3, 1) := by decide +kernel
theorem dX3_cell_25 : decode cX3_cell 25 = .ok (.laload, 1) := by decide +kernel
theorem dX3_cell_26 : decode cX3_cell 26 = .ok (.goto 4, 3) := by decide +kernel
theorem dX3_cell_29 : decode cX3_cell 29 = .ok (.lconst 0, 1) := by decide +kernel
theorem dX3_cell_30 : decode cX3_cell 30 = .ok (.lreturn, 1) := by decide +kernel
theorem dX3_putCell_0 : decode cX3_putCell 0 = .ok (.iload_n 1, 1) := by decide +kernel
theorem dX3_putCell_1 : decode cX3_putCell 1 = .ok (.bipush 11, 2) := by decide +kernel
theorem dX3_putCell_3 : decode cX3_putCell 3 = .ok (.imul, 1) := by decide +kernel
theorem dX3_putCell_4 : decode cX3_putCell 4 = .ok (.iload_n 2, 1) := by decide +kernel
theorem dX3_putCell_5 : decode cX3_putCell 5 = .ok (.iadd, 1) := by decide +kernel
theorem dX3_putCell_6 : decode cX3_putCell 6 = .ok (.istore 5, 2) := by decide +kernel
theorem dX3_putCell_8 : decode cX3_putCell 8 = .ok (.iload 5, 2) := by decide +kernel
theorem dX3_putCell_10 : decode cX3_putCell 10 = .ok (.ifCond .lt 21, 3) := by decide +kernel
theorem dX3_putCell_13 : decode cX3_putCell 13 = .ok (.iload 5, 2) := by decide +kernel
theorem dX3_putCell_15 : decode cX3_putCell 15 = .ok (.aload_n 0, 1) := by decide +kernel
theorem dX3_putCell_16 : decode cX3_putCell 16 = .ok (.getfield 20, 3) := by decide +kernel
theorem dX3_putCell_19 : decode cX3_putCell 19 = .ok (.arraylength, 1) := by decide +kernel
theorem dX3_putCell_20 : decode cX3_putCell 20 = .ok (.if_icmp .ge 11, 3) := by decide +kernel
theorem dX3_putCell_23 : decode cX3_putCell 23 = .ok (.aload_n 0, 1) := by decide +kernel
theorem dX3_putCell_24 : decode cX3_putCell 24 = .ok (.getfield 20, 3) := by decide +kernel
theorem dX3_putCell_27 : decode cX3_putCell 27 = .ok (.iload 5, 2) := by decide +kernel
theorem dX3_putCell_29 : decode cX3_putCell 29 = .ok (.lload_n 3, 1) := by decide +kernel
theorem dX3_putCell_30 : decode cX3_putCell 30 = .ok (.lastore, 1) := by decide +kernel
theorem dX3_putCell_31 : decode cX3_putCell 31 = .ok (.return_, 1) := by decide +kernel
theorem dX3_solved_0 : decode cX3_solved 0 = .ok (.aload_n 0, 1) := by decide +kernel
theorem dX3_solved_1 : decode cX3_solved 1 = .ok (.iload_n 1, 1) := by decide +kernel
theorem dX3_solved_2 : decode cX3_solved 2 = .ok (.aload_n 0, 1) := by decide +kernel
theorem dX3_solved_3 : decode cX3_solved 3 = .ok (.getfield 24, 3) := by decide +kernel
theorem dX3_solved_6 : decode cX3_solved 6 = .ok (.invokevirtual 62, 3) := by decide +kernel
theorem dX3_solved_9 : decode cX3_solved 9 = .ok (.lreturn, 1) := by decide +kernel
theorem dX3_canBeAdopted_0 : decode cX3_canBeAdopted 0 = .ok (.iconst 0, 1) := by decide +kernel
theorem dX3_canBeAdopted_1 : decode cX3_canBeAdopted 1 = .ok (.istore_n 1, 1) := by decide +kernel
theorem dX3_canBeAdopted_2 : decode cX3_canBeAdopted 2 = .ok (.iload_n 1, 1) := by decide +kernel
theorem dX3_canBeAdopted_3 : decode cX3_canBeAdopted 3 = .ok (.aload_n 0, 1) := by decide +kernel
theorem dX3_canBeAdopted_4 : decode cX3_canBeAdopted 4 = .ok (.getfield 24, 3) := by decide +kernel
theorem dX3_canBeAdopted_7 : decode cX3_canBeAdopted 7 = .ok (.if_icmp .ge 43, 3) := by decide +kernel
theorem dX3_canBeAdopted_10 : decode cX3_canBeAdopted 10 = .ok (.aload_n 0, 1) := by decide +kernel
theorem dX3_canBeAdopted_11 : decode cX3_canBeAdopted 11 = .ok (.getfield 31, 3) := by decide +kernel
theorem dX3_canBeAdopted_14 : decode cX3_canBeAdopted 14 = .ok (.lconst 0, 1) := by decide +kernel
theorem dX3_canBeAdopted_15 : decode cX3_canBeAdopted 15 = .ok (.lcmp, 1) := by decide +kernel
theorem dX3_canBeAdopted_16 : decode cX3_canBeAdopted 16 = .ok (.ifCond .eq 26, 3) := by decide +kernel
theorem dX3_canBeAdopted_19 : decode cX3_canBeAdopted 19 = .ok (.aload_n 0, 1) := by decide +kernel
theorem dX3_canBeAdopted_20 : decode cX3_canBeAdopted 20 = .ok (.iload_n 1, 1) := by decide +kernel
theorem dX3_canBeAdopted_21 : decode cX3_canBeAdopted 21 = .ok (.invokevirtual 85, 3) := by decide +kernel
theorem dX3_canBeAdopted_24 : decode cX3_canBeAdopted 24 = .ok (.aload_n 0, 1) := by decide +kernel
theorem dX3_canBeAdopted_25 : decode cX3_canBeAdopted 25 = .ok (.getfield 31, 3) := by decide +kernel
theorem dX3_canBeAdopted_28 : decode cX3_canBeAdopted 28 = .ok (.lrem, 1) := by decide +kernel
theorem dX3_canBeAdopted_29 : decode cX3_canBeAdopted 29 = .ok (.lconst 0, 1) := by decide +kernel
theorem dX3_canBeAdopted_30 : decode cX3_canBeAdopted 30 = .ok (.lcmp, 1) := by decide +kernel
theorem dX3_canBeAdopted_31 : decode cX3_canBeAdopted 31 = .ok (.ifCond .ne 11, 3) := by decide +kernel
theorem dX3_canBeAdopted_34 : decode cX3_canBeAdopted 34 = .ok (.aload_n 0, 1) := by decide +kernel
theorem dX3_canBeAdopted_35 : decode cX3_canBeAdopted 35 = .ok (.iload_n 1, 1) := by decide +kernel
theorem dX3_canBeAdopted_36 : decode cX3_canBeAdopted 36 = .ok (.invokevirtual 89, 3) := by decide +kernel
theorem dX3_canBeAdopted_39 : decode cX3_canBeAdopted 39 = .ok (.ifCond .ne 5, 3) := by decide +kernel
theorem dX3_canBeAdopted_42 : decode cX3_canBeAdopted 42 = .ok (.iconst 0, 1) := by decide +kernel
theorem dX3_canBeAdopted_43 : decode cX3_canBeAdopted 43 = .ok (.ireturn, 1) := by decide +kernel
theorem dX3_canBeAdopted_44 : decode cX3_canBeAdopted 44 = .ok (.iinc 1 1, 3) := by decide +kernel
theorem dX3_canBeAdopted_47 : decode cX3_canBeAdopted 47 = .ok (.goto (-45), 3) := by decide +kernel
theorem dX3_canBeAdopted_50 : decode cX3_canBeAdopted 50 = .ok (.iconst 1, 1) := by decide +kernel
theorem dX3_canBeAdopted_51 : decode cX3_canBeAdopted 51 = .ok (.ireturn, 1) := by decide +kernel
theorem dX3_isWithinBounds_0 : decode cX3_isWithinBounds 0 = .ok (.iload_n 1, 1) := by decide +kernel
theorem dX3_isWithinBounds_1 : decode cX3_isWithinBounds 1 = .ok (.ifCond .le 15, 3) := by decide +kernel
theorem dX3_isWithinBounds_4 : decode cX3_isWithinBounds 4 = .ok (.aload_n 0, 1) := by decide +kernel
theorem dX3_isWithinBounds_5 : decode cX3_isWithinBounds 5 = .ok (.iload_n 1, 1) := by decide +kernel
theorem dX3_isWithinBounds_6 : decode cX3_isWithinBounds 6 = .ok (.invokevirtual 93, 3) := by decide +kernel
theorem dX3_isWithinBounds_9 : decode cX3_isWithinBounds 9 = .ok (.lconst 0, 1) := by decide +kernel
theorem dX3_isWithinBounds_10 : decode cX3_isWithinBounds 10 = .ok (.lcmp, 1) := by decide +kernel
theorem dX3_isWithinBounds_11 : decode cX3_isWithinBounds 11 = .ok (.ifCond .ge 5, 3) := by decide +kernel
theorem dX3_isWithinBounds_14 : decode cX3_isWithinBounds 14 = .ok (.iconst 0, 1) := by decide +kernel
theorem dX3_isWithinBounds_15 : decode cX3_isWithinBounds 15 = .ok (.ireturn, 1) := by decide +kernel
theorem dX3_isWithinBounds_16 : decode cX3_isWithinBounds 16 = .ok (.aload_n 0, 1) := by decide +kernel
theorem dX3_isWithinBounds_17 : decode cX3_isWithinBounds 17 = .ok (.iload_n 1, 1) := by decide +kernel
theorem dX3_isWithinBounds_18 : decode cX3_isWithinBounds 18 = .ok (.invokevirtual 96, 3) := by decide +kernel
theorem dX3_isWithinBounds_21 : decode cX3_isWithinBounds 21 = .ok (.lstore_n 2, 1) := by decide +kernel
theorem dX3_isWithinBounds_22 : decode cX3_isWithinBounds 22 = .ok (.lload_n 2, 1) := by decide +kernel
theorem dX3_isWithinBounds_23 : decode cX3_isWithinBounds 23 = .ok (.ldc2_w 99, 3) := by decide +kernel
theorem dX3_isWithinBounds_26 : decode cX3_isWithinBounds 26 = .ok (.lcmp, 1) := by decide +kernel
theorem dX3_isWithinBounds_27 : decode cX3_isWithinBounds 27 = .ok (.ifCond .lt 15, 3) := by decide +kernel
theorem dX3_isWithinBounds_30 : decode cX3_isWithinBounds 30 = .ok (.lload_n 2, 1) := by decide +kernel
theorem dX3_isWithinBounds_31 : decode cX3_isWithinBounds 31 = .ok (.ldc2_w 101, 3) := by decide +kernel
theorem dX3_isWithinBounds_34 : decode cX3_isWithinBounds 34 = .ok (.lcmp, 1) := by decide +kernel
theorem dX3_isWithinBounds_35 : decode cX3_isWithinBounds 35 = .ok (.ifCond .gt 7, 3) := by decide +kernel
theorem dX3_isWithinBounds_38 : decode cX3_isWithinBounds 38 = .ok (.iconst 1, 1) := by decide +kernel
theorem dX3_isWithinBounds_39 : decode cX3_isWithinBounds 39 = .ok (.goto 4, 3) := by decide +kernel
theorem dX3_isWithinBounds_42 : decode cX3_isWithinBounds 42 = .ok (.iconst 0, 1) := by decide +kernel
theorem dX3_isWithinBounds_43 : decode cX3_isWithinBounds 43 = .ok (.ireturn, 1) := by decide +kernel
theorem dX3_whole_0 : decode cX3_whole 0 = .ok (.aload_n 0, 1) := by decide +kernel
theorem dX3_whole_1 : decode cX3_whole 1 = .ok (.getfield 31, 3) := by decide +kernel
theorem dX3_whole_4 : decode cX3_whole 4 = .ok (.lconst 0, 1) := by decide +kernel
theorem dX3_whole_5 : decode cX3_whole 5 = .ok (.lcmp, 1) := by decide +kernel
theorem dX3_whole_6 : decode cX3_whole 6 = .ok (.ifCond .ne 7, 3) := by decide +kernel
theorem dX3_whole_9 : decode cX3_whole 9 = .ok (.lconst 0, 1) := by decide +kernel
theorem dX3_whole_10 : decode cX3_whole 10 = .ok (.goto 13, 3) := by decide +kernel
theorem dX3_whole_13 : decode cX3_whole 13 = .ok (.aload_n 0, 1) := by decide +kernel
theorem dX3_whole_14 : decode cX3_whole 14 = .ok (.iload_n 1, 1) := by decide +kernel
theorem dX3_whole_15 : decode cX3_whole 15 = .ok (.invokevirtual 85, 3) := by decide +kernel
theorem dX3_whole_18 : decode cX3_whole 18 = .ok (.aload_n 0, 1) := by decide +kernel
theorem dX3_whole_19 : decode cX3_whole 19 = .ok (.getfield 31, 3) := by decide +kernel
theorem dX3_whole_22 : decode cX3_whole 22 = .ok (.ldiv, 1) := by decide +kernel
theorem dX3_whole_23 : decode cX3_whole 23 = .ok (.lreturn, 1) := by decide +kernel
theorem dX3_newRule_0 : decode cX3_newRule 0 = .ok (.iload_n 1, 1) := by decide +kernel
theorem dX3_newRule_1 : decode cX3_newRule 1 = .ok (.ifCond .ne 11, 3) := by decide +kernel
theorem dX3_newRule_4 : decode cX3_newRule 4 = .ok (.aload_n 0, 1) := by decide +kernel
theorem dX3_newRule_5 : decode cX3_newRule 5 = .ok (.iconst 0, 1) := by decide +kernel
theorem dX3_newRule_6 : decode cX3_newRule 6 = .ok (.invokevirtual 93, 3) := by decide +kernel
theorem dX3_newRule_9 : decode cX3_newRule 9 = .ok (.goto 20, 3) := by decide +kernel
theorem dX3_newRule_12 : decode cX3_newRule 12 = .ok (.aload_n 0, 1) := by decide +kernel
theorem dX3_newRule_13 : decode cX3_newRule 13 = .ok (.iload_n 1, 1) := by decide +kernel
theorem dX3_newRule_14 : decode cX3_newRule 14 = .ok (.invokevirtual 93, 3) := by decide +kernel
theorem dX3_newRule_17 : decode cX3_newRule 17 = .ok (.aload_n 0, 1) := by decide +kernel
theorem dX3_newRule_18 : decode cX3_newRule 18 = .ok (.getfield 35, 3) := by decide +kernel
theorem dX3_newRule_21 : decode cX3_newRule 21 = .ok (.iload_n 1, 1) := by decide +kernel
theorem dX3_newRule_22 : decode cX3_newRule 22 = .ok (.iconst 1, 1) := by decide +kernel
theorem dX3_newRule_23 : decode cX3_newRule 23 = .ok (.isub, 1) := by decide +kernel
theorem dX3_newRule_24 : decode cX3_newRule 24 = .ok (.invokevirtual 103, 3) := by decide +kernel
theorem dX3_newRule_27 : decode cX3_newRule 27 = .ok (.i2l, 1) := by decide +kernel
theorem dX3_newRule_28 : decode cX3_newRule 28 = .ok (.lsub, 1) := by decide +kernel
theorem dX3_newRule_29 : decode cX3_newRule 29 = .ok (.lreturn, 1) := by decide +kernel
theorem dX3_adoptAll_0 : decode cX3_adoptAll 0 = .ok (.iconst 0, 1) := by decide +kernel
theorem dX3_adoptAll_1 : decode cX3_adoptAll 1 = .ok (.istore_n 1, 1) := by decide +kernel
theorem dX3_adoptAll_2 : decode cX3_adoptAll 2 = .ok (.aload_n 0, 1) := by decide +kernel
theorem dX3_adoptAll_3 : decode cX3_adoptAll 3 = .ok (.iconst 0, 1) := by decide +kernel
theorem dX3_adoptAll_4 : decode cX3_adoptAll 4 = .ok (.invokevirtual 96, 3) := by decide +kernel
theorem dX3_adoptAll_7 : decode cX3_adoptAll 7 = .ok (.l2i, 1) := by decide +kernel
theorem dX3_adoptAll_8 : decode cX3_adoptAll 8 = .ok (.istore_n 2, 1) := by decide +kernel
theorem dX3_adoptAll_9 : decode cX3_adoptAll 9 = .ok (.iload_n 2, 1) := by decide +kernel
theorem dX3_adoptAll_10 : decode cX3_adoptAll 10 = .ok (.aload_n 0, 1) := by decide +kernel
theorem dX3_adoptAll_11 : decode cX3_adoptAll 11 = .ok (.getfield 35, 3) := by decide +kernel
theorem dX3_adoptAll_14 : decode cX3_adoptAll 14 = .ok (.getfield 106, 3) := by decide +kernel
theorem dX3_adoptAll_17 : decode cX3_adoptAll 17 = .ok (.if_icmp .eq 6, 3) := by decide +kernel
theorem dX3_adoptAll_20 : decode cX3_adoptAll 20 = .ok (.iinc 1 1, 3) := by decide +kernel
theorem dX3_adoptAll_23 : decode cX3_adoptAll 23 = .ok (.aload_n 0, 1) := by decide +kernel
theorem dX3_adoptAll_24 : decode cX3_adoptAll 24 = .ok (.getfield 35, 3) := by decide +kernel
theorem dX3_adoptAll_27 : decode cX3_adoptAll 27 = .ok (.iload_n 2, 1) := by decide +kernel
theorem dX3_adoptAll_28 : decode cX3_adoptAll 28 = .ok (.putfield 106, 3) := by decide +kernel
theorem dX3_adoptAll_31 : decode cX3_adoptAll 31 = .ok (.iconst 0, 1) := by decide +kernel
theorem dX3_adoptAll_32 : decode cX3_adoptAll 32 = .ok (.istore_n 3, 1) := by decide +kernel
theorem dX3_adoptAll_33 : decode cX3_adoptAll 33 = .ok (.iload_n 3, 1) := by decide +kernel
theorem dX3_adoptAll_34 : decode cX3_adoptAll 34 = .ok (.aload_n 0, 1) := by decide +kernel
theorem dX3_adoptAll_35 : decode cX3_adoptAll 35 = .ok (.getfield 24, 3) := by decide +kernel
theorem dX3_adoptAll_38 : decode cX3_adoptAll 38 = .ok (.iconst 1, 1) := by decide +kernel
theorem dX3_adoptAll_39 : decode cX3_adoptAll 39 = .ok (.isub, 1) := by decide +kernel
theorem dX3_adoptAll_40 : decode cX3_adoptAll 40 = .ok (.if_icmp .ge 45, 3) := by decide +kernel
theorem dX3_adoptAll_43 : decode cX3_adoptAll 43 = .ok (.aload_n 0, 1) := by decide +kernel
theorem dX3_adoptAll_44 : decode cX3_adoptAll 44 = .ok (.iconst 1, 1) := by decide +kernel
theorem dX3_adoptAll_45 : decode cX3_adoptAll 45 = .ok (.iload_n 3, 1) := by decide +kernel
theorem dX3_adoptAll_46 : decode cX3_adoptAll 46 = .ok (.iadd, 1) := by decide +kernel
theorem dX3_adoptAll_47 : decode cX3_adoptAll 47 = .ok (.invokevirtual 96, 3) := by decide +kernel
theorem dX3_adoptAll_50 : decode cX3_adoptAll 50 = .ok (.l2i, 1) := by decide +kernel
theorem dX3_adoptAll_51 : decode cX3_adoptAll 51 = .ok (.istore 4, 2) := by decide +kernel
theorem dX3_adoptAll_53 : decode cX3_adoptAll 53 = .ok (.iload 4, 2) := by decide +kernel
theorem dX3_adoptAll_55 : decode cX3_adoptAll 55 = .ok (.aload_n 0, 1) := by decide +kernel
theorem dX3_adoptAll_56 : decode cX3_adoptAll 56 = .ok (.getfield 35, 3) := by decide +kernel
theorem dX3_adoptAll_59 : decode cX3_adoptAll 59 = .ok (.iload_n 3, 1) := by decide +kernel
theorem dX3_adoptAll_60 : decode cX3_adoptAll 60 = .ok (.invokevirtual 109, 3) := by decide +kernel
theorem dX3_adoptAll_63 : decode cX3_adoptAll 63 = .ok (.if_icmp .eq 6, 3) := by decide +kernel
theorem dX3_adoptAll_66 : decode cX3_adoptAll 66 = .ok (.iinc 1 1, 3) := by decide +kernel
theorem dX3_adoptAll_69 : decode cX3_adoptAll 69 = .ok (.aload_n 0, 1) := by decide +kernel
theorem dX3_adoptAll_70 : decode cX3_adoptAll 70 = .ok (.getfield 35, 3) := by decide +kernel
theorem dX3_adoptAll_73 : decode cX3_adoptAll 73 = .ok (.iload_n 3, 1) := by decide +kernel
theorem dX3_adoptAll_74 : decode cX3_adoptAll 74 = .ok (.iload 4, 2) := by decide +kernel
theorem dX3_adoptAll_76 : decode cX3_adoptAll 76 = .ok (.invokevirtual 112, 3) := by decide +kernel
theorem dX3_adoptAll_79 : decode cX3_adoptAll 79 = .ok (.iinc 3 1, 3) := by decide +kernel
theorem dX3_adoptAll_82 : decode cX3_adoptAll 82 = .ok (.goto (-49), 3) := by decide +kernel
theorem dX3_adoptAll_85 : decode cX3_adoptAll 85 = .ok (.iload_n 1, 1) := by decide +kernel
theorem dX3_adoptAll_86 : decode cX3_adoptAll 86 = .ok (.ireturn, 1) := by decide +kernel
theorem dX4_init_0 : decode cX4_init 0 = .ok (.aload_n 0, 1) := by decide +kernel
theorem dX4_init_1 : decode cX4_init 1 = .ok (.invokespecial 1, 3) := by decide +kernel
theorem dX4_init_4 : decode cX4_init 4 = .ok (.aload_n 0, 1) := by decide +kernel
theorem dX4_init_5 : decode cX4_init 5 = .ok (.iconst 0, 1) := by decide +kernel
theorem dX4_init_6 : decode cX4_init 6 = .ok (.putfield 9, 3) := by decide +kernel
theorem dX4_init_9 : decode cX4_init 9 = .ok (.aload_n 0, 1) := by decide +kernel
theorem dX4_init_10 : decode cX4_init 10 = .ok (.iconst 0, 1) := by decide +kernel
theorem dX4_init_11 : decode cX4_init 11 = .ok (.putfield 13, 3) := by decide +kernel
theorem dX4_init_14 : decode cX4_init 14 = .ok (.aload_n 0, 1) := by decide +kernel
theorem dX4_init_15 : decode cX4_init 15 = .ok (.iconst 0, 1) := by decide +kernel
theorem dX4_init_16 : decode cX4_init 16 = .ok (.putfield 16, 3) := by decide +kernel
theorem dX4_init_19 : decode cX4_init 19 = .ok (.aload_n 0, 1) := by decide +kernel
theorem dX4_init_20 : decode cX4_init 20 = .ok (.iconst 0, 1) := by decide +kernel
theorem dX4_init_21 : decode cX4_init 21 = .ok (.putfield 19, 3) := by decide +kernel
theorem dX4_init_24 : decode cX4_init 24 = .ok (.aload_n 0, 1) := by decide +kernel
theorem dX4_init_25 : decode cX4_init 25 = .ok (.iconst 0, 1) := by decide +kernel
theorem dX4_init_26 : decode cX4_init 26 = .ok (.putfield 22, 3) := by decide +kernel
theorem dX4_init_29 : decode cX4_init 29 = .ok (.aload_n 0, 1) := by decide +kernel
theorem dX4_init_30 : decode cX4_init 30 = .ok (.aload_n 1, 1) := by decide +kernel
theorem dX4_init_31 : decode cX4_init 31 = .ok (.putfield 25, 3) := by decide +kernel
theorem dX4_init_34 : decode cX4_init 34 = .ok (.aload_n 0, 1) := by decide +kernel
theorem dX4_init_35 : decode cX4_init 35 = .ok (.aload_n 2, 1) := by decide +kernel
theorem dX4_init_36 : decode cX4_init 36 = .ok (.putfield 29, 3) := by decide +kernel
theorem dX4_init_39 : decode cX4_init 39 = .ok (.return_, 1) := by decide +kernel
theorem dX4_readTape_0 : decode cX4_readTape 0 = .ok (.aload_n 0, 1) := by decide +kernel
theorem dX4_readTape_1 : decode cX4_readTape 1 = .ok (.iconst 0, 1) := by decide +kernel
theorem dX4_readTape_2 : decode cX4_readTape 2 = .ok (.putfield 9, 3) := by decide +kernel
theorem dX4_readTape_5 : decode cX4_readTape 5 = .ok (.aload_n 0, 1) := by decide +kernel
theorem dX4_readTape_6 : decode cX4_readTape 6 = .ok (.iconst 0, 1) := by decide +kernel
theorem dX4_readTape_7 : decode cX4_readTape 7 = .ok (.putfield 16, 3) := by decide +kernel
theorem dX4_readTape_10 : decode cX4_readTape 10 = .ok (.aload_n 0, 1) := by decide +kernel
theorem dX4_readTape_11 : decode cX4_readTape 11 = .ok (.iconst 0, 1) := by decide +kernel
theorem dX4_readTape_12 : decode cX4_readTape 12 = .ok (.putfield 19, 3) := by decide +kernel
theorem dX4_readTape_15 : decode cX4_readTape 15 = .ok (.aload_n 0, 1) := by decide +kernel
theorem dX4_readTape_16 : decode cX4_readTape 16 = .ok (.iconst 0, 1) := by decide +kernel
theorem dX4_readTape_17 : decode cX4_readTape 17 = .ok (.putfield 22, 3) := by decide +kernel
theorem dX4_readTape_20 : decode cX4_readTape 20 = .ok (.aload_n 0, 1) := by decide +kernel
theorem dX4_readTape_21 : decode cX4_readTape 21 = .ok (.getfield 29, 3) := by decide +kernel
theorem dX4_readTape_24 : decode cX4_readTape 24 = .ok (.invokevirtual 33, 3) := by decide +kernel
theorem dX4_readTape_27 : decode cX4_readTape 27 = .ok (.aload_n 0, 1) := by decide +kernel
theorem dX4_readTape_28 : decode cX4_readTape 28 = .ok (.getfield 25, 3) := by decide +kernel
theorem dX4_readTape_31 : decode cX4_readTape 31 = .ok (.invokevirtual 38, 3) := by decide +kernel
theorem dX4_readTape_34 : decode cX4_readTape 34 = .ok (.aload_n 0, 1) := by decide +kernel
theorem dX4_readTape_35 : decode cX4_readTape 35 = .ok (.getfield 25, 3) := by decide +kernel
theorem dX4_readTape_38 : decode cX4_readTape 38 = .ok (.invokevirtual 43, 3) := by decide +kernel
theorem dX4_readTape_41 : decode cX4_readTape 41 = .ok (.iconst 0, 1) := by decide +kernel
theorem dX4_readTape_42 : decode cX4_readTape 42 = .ok (.istore_n 1, 1) := by decide +kernel
theorem dX4_readTape_43 : decode cX4_readTape 43 = .ok (.iload_n 1, 1) := by decide +kernel
theorem dX4_readTape_44 : decode cX4_readTape 44 = .ok (.sipush 200, 3) := by decide +kernel
theorem dX4_readTape_47 : decode cX4_readTape 47 = .ok (.if_icmp .ge 30, 3) := by decide +kernel
theorem dX4_readTape_50 : decode cX4_readTape 50 = .ok (.aload_n 0, 1) := by decide +kernel
theorem dX4_readTape_51 : decode cX4_readTape 51 = .ok (.getfield 9, 3) := by decide +kernel
theorem dX4_readTape_54 : decode cX4_readTape 54 = .ok (.ifCond .ne 23, 3) := by decide +kernel
theorem dX4_readTape_57 : decode cX4_readTape 57 = .ok (.aload_n 0, 1) := by decide +kernel
theorem dX4_readTape_58 : decode cX4_readTape 58 = .ok (.getfield 25, 3) := by decide +kernel
theorem dX4_readTape_61 : decode cX4_readTape 61 = .ok (.getfield 46, 3) := by decide +kernel
theorem dX4_readTape_64 : decode cX4_readTape 64 = .ok (.ifCond .eq 13, 3) := by decide +kernel
theorem dX4_readTape_67 : decode cX4_readTape 67 = .ok (.aload_n 0, 1) := by decide +kernel
theorem dX4_readTape_68 : decode cX4_readTape 68 = .ok (.invokevirtual 49, 3) := by decide +kernel
theorem dX4_readTape_71 : decode cX4_readTape 71 = .ok (.iinc 1 1, 3) := by decide +kernel
theorem dX4_readTape_74 : decode cX4_readTape 74 = .ok (.goto (-31), 3) := by decide +kernel
theorem dX4_readTape_77 : decode cX4_readTape 77 = .ok (.aload_n 0, 1) := by decide +kernel
theorem dX4_readTape_78 : decode cX4_readTape 78 = .ok (.getfield 9, 3) := by decide +kernel
theorem dX4_readTape_81 : decode cX4_readTape 81 = .ok (.ifCond .ne 30, 3) := by decide +kernel
theorem dX4_readTape_84 : decode cX4_readTape 84 = .ok (.aload_n 0, 1) := by decide +kernel
theorem dX4_readTape_85 : decode cX4_readTape 85 = .ok (.getfield 29, 3) := by decide +kernel
theorem dX4_readTape_88 : decode cX4_readTape 88 = .ok (.getfield 52, 3) := by decide +kernel
theorem dX4_readTape_91 : decode cX4_readTape 91 = .ok (.ifCond .eq 20, 3) := by decide +kernel
theorem dX4_readTape_94 : decode cX4_readTape 94 = .ok (.aload_n 0, 1) := by decide +kernel
theorem dX4_readTape_95 : decode cX4_readTape 95 = .ok (.getfield 29, 3) := by decide +kernel
theorem dX4_readTape_98 : decode cX4_readTape 98 = .ok (.getfield 56, 3) := by decide +kernel
theorem dX4_readTape_101 : decode cX4_readTape 101 = .ok (.iconst 2, 1) := by decide +kernel
theorem dX4_readTape_102 : decode cX4_readTape 102 = .ok (.if_icmp .ne 9, 3) := by decide +kernel
theorem dX4_readTape_105 : decode cX4_readTape 105 = .ok (.aload_n 0, 1) := by decide +kernel
theorem dX4_readTape_106 : decode cX4_readTape 106 = .ok (.iconst 5, 1) := by decide +kernel
theorem dX4_readTape_107 : decode cX4_readTape 107 = .ok (.iconst 0, 1) := by decide +kernel
theorem dX4_readTape_108 : decode cX4_readTape 108 = .ok (.invokevirtual 59, 3) := by decide +kernel
theorem dX4_readTape_111 : decode cX4_readTape 111 = .ok (.iload_n 1, 1) := by decide +kernel
theorem dX4_readTape_112 : decode cX4_readTape 112 = .ok (.ireturn, 1) := by decide +kernel
theorem dX4_readLine_0 : decode cX4_readLine 0 = .ok (.aload_n 0, 1) := by decide +kernel
theorem dX4_readLine_1 : decode cX4_readLine 1 = .ok (.iconst 1, 1) := by decide +kernel
theorem dX4_readLine_2 : decode cX4_readLine 2 = .ok (.invokevirtual 63, 3) := by decide +kernel
theorem dX4_readLine_5 : decode cX4_readLine 5 = .ok (.ifCond .ne 4, 3) := by decide +kernel
theorem dX4_readLine_8 : decode cX4_readLine 8 = .ok (.return_, 1) := by decide +kernel
theorem dX4_readLine_9 : decode cX4_readLine 9 = .ok (.aload_n 0, 1) := by decide +kernel
theorem dX4_readLine_10 : decode cX4_readLine 10 = .ok (.invokevirtual 67, 3) := by decide +kernel
theorem dX4_readLine_13 : decode cX4_readLine 13 = .ok (.istore_n 1, 1) := by decide +kernel
theorem dX4_readLine_14 : decode cX4_readLine 14 = .ok (.iload_n 1, 1) := by decide +kernel
theorem dX4_readLine_15 : decode cX4_readLine 15 = .ok (.iconst (-1), 1) := by decide +kernel
theorem dX4_readLine_16 : decode cX4_readLine 16 = .ok (.if_icmp .ne 16, 3) := by decide +kernel
theorem dX4_readLine_19 : decode cX4_readLine 19 = .ok (.aload_n 0, 1) := by decide +kernel
theorem dX4_readLine_20 : decode cX4_readLine 20 = .ok (.iconst 2, 1) := by decide +kernel
theorem dX4_readLine_21 : decode cX4_readLine 21 = .ok (.aload_n 0, 1) := by decide +kernel
theorem dX4_readLine_22 : decode cX4_readLine 22 = .ok (.getfield 25, 3) := by decide +kernel
theorem dX4_readLine_25 : decode cX4_readLine 25 = .ok (.getfield 71, 3) := by decide +kernel
theorem dX4_readLine_28 : decode cX4_readLine 28 = .ok (.invokevirtual 59, 3) := by decide +kernel
theorem dX4_readLine_31 : decode cX4_readLine 31 = .ok (.return_, 1) := by decide +kernel
theorem dX4_readLine_32 : decode cX4_readLine 32 = .ok (.aload_n 0, 1) := by decide +kernel
theorem dX4_readLine_33 : decode cX4_readLine 33 = .ok (.getfield 16, 3) := by decide +kernel
theorem dX4_readLine_36 : decode cX4_readLine 36 = .ok (.iload_n 1, 1) := by decide +kernel
theorem dX4_readLine_37 : decode cX4_readLine 37 = .ok (.invokestatic 74, 3) := by decide +kernel
theorem dX4_readLine_40 : decode cX4_readLine 40 = .ok (.ifCond .eq 16, 3) := by decide +kernel
theorem dX4_readLine_43 : decode cX4_readLine 43 = .ok (.aload_n 0, 1) := by decide +kernel
theorem dX4_readLine_44 : decode cX4_readLine 44 = .ok (.iconst 4, 1) := by decide +kernel
theorem dX4_readLine_45 : decode cX4_readLine 45 = .ok (.aload_n 0, 1) := by decide +kernel
theorem dX4_readLine_46 : decode cX4_readLine 46 = .ok (.getfield 25, 3) := by decide +kernel
theorem dX4_readLine_49 : decode cX4_readLine 49 = .ok (.getfield 71, 3) := by decide +kernel
theorem dX4_readLine_52 : decode cX4_readLine 52 = .ok (.invokevirtual 59, 3) := by decide +kernel
theorem dX4_readLine_55 : decode cX4_readLine 55 = .ok (.return_, 1) := by decide +kernel
theorem dX4_readLine_56 : decode cX4_readLine 56 = .ok (.aload_n 0, 1) := by decide +kernel
theorem dX4_readLine_57 : decode cX4_readLine 57 = .ok (.getfield 25, 3) := by decide +kernel
theorem dX4_readLine_60 : decode cX4_readLine 60 = .ok (.invokevirtual 43, 3) := by decide +kernel
theorem dX4_readLine_63 : decode cX4_readLine 63 = .ok (.iload_n 1, 1) := by decide +kernel
theorem dX4_readLine_64 : decode cX4_readLine 64 = .ok (.tableswitch 154 0 6 #[44, 61, 78, 98, 109, 129, 147], 44) := by decide +kernel
theorem dX4_readLine_108 : decode cX4_readLine 108 = .ok (.aload_n 0, 1) := by decide +kernel
theorem dX4_readLine_109 : decode cX4_readLine 109 = .ok (.getfield 29, 3) := by decide +kernel
theorem dX4_readLine_112 : decode cX4_readLine 112 = .ok (.aload_n 0, 1) := by decide +kernel
theorem dX4_readLine_113 : decode cX4_readLine 113 = .ok (.iconst 2, 1) := by decide +kernel
theorem dX4_readLine_114 : decode cX4_readLine 114 = .ok (.bipush 8, 2) := by decide +kernel
theorem dX4_readLine_116 : decode cX4_readLine 116 = .ok (.invokevirtual 78, 3) := by decide +kernel
theorem dX4_readLine_119 : decode cX4_readLine 119 = .ok (.putfield 56, 3) := by decide +kernel
theorem dX4_readLine_122 : decode cX4_readLine 122 = .ok (.goto 100, 3) := by decide +kernel
theorem dX4_readLine_125 : decode cX4_readLine 125 = .ok (.aload_n 0, 1) := by decide +kernel
theorem dX4_readLine_126 : decode cX4_readLine 126 = .ok (.getfield 29, 3) := by decide +kernel
theorem dX4_readLine_129 : decode cX4_readLine 129 = .ok (.aload_n 0, 1) := by decide +kernel
theorem dX4_readLine_130 : decode cX4_readLine 130 = .ok (.iconst 1, 1) := by decide +kernel
theorem dX4_readLine_131 : decode cX4_readLine 131 = .ok (.bipush 99, 2) := by decide +kernel
theorem dX4_readLine_133 : decode cX4_readLine 133 = .ok (.invokevirtual 78, 3) := by decide +kernel
theorem dX4_readLine_136 : decode cX4_readLine 136 = .ok (.putfield 82, 3) := by decide +kernel
theorem dX4_readLine_139 : decode cX4_readLine 139 = .ok (.goto 83, 3) := by decide +kernel
theorem dX4_readLine_142 : decode cX4_readLine 142 = .ok (.aload_n 0, 1) := by decide +kernel
theorem dX4_readLine_143 : decode cX4_readLine 143 = .ok (.getfield 29, 3) := by decide +kernel
theorem dX4_readLine_146 : decode cX4_readLine 146 = .ok (.aload_n 0, 1) := by decide +kernel
theorem dX4_readLine_147 : decode cX4_readLine 147 = .ok (.sipush (-999), 3) := by decide +kernel
theorem dX4_readLine_150 : decode cX4_readLine 150 = .ok (.sipush 999, 3) := by decide +kernel
theorem dX4_readLine_153 : decode cX4_readLine 153 = .ok (.invokevirtual 78, 3) := by decide +kernel
theorem dX4_readLine_156 : decode cX4_readLine 156 = .ok (.putfield 85, 3) := by decide +kernel
theorem dX4_readLine_159 : decode cX4_readLine 159 = .ok (.goto 63, 3) := by decide +kernel
theorem dX4_readLine_162 : decode cX4_readLine 162 = .ok (.aload_n 0, 1) := by decide +kernel
theorem dX4_readLine_163 : decode cX4_readLine 163 = .ok (.getfield 29, 3) := by decide +kernel
theorem dX4_readLine_166 : decode cX4_readLine 166 = .ok (.iconst 1, 1) := by decide +kernel
theorem dX4_readLine_167 : decode cX4_readLine 167 = .ok (.putfield 52, 3) := by decide +kernel
theorem dX4_readLine_170 : decode cX4_readLine 170 = .ok (.goto 52, 3) := by decide +kernel
theorem dX4_readLine_173 : decode cX4_readLine 173 = .ok (.aload_n 0, 1) := by decide +kernel
theorem dX4_readLine_174 : decode cX4_readLine 174 = .ok (.getfield 29, 3) := by decide +kernel
theorem dX4_readLine_177 : decode cX4_readLine 177 = .ok (.aload_n 0, 1) := by decide +kernel
theorem dX4_readLine_178 : decode cX4_readLine 178 = .ok (.sipush (-999), 3) := by decide +kernel
theorem dX4_readLine_181 : decode cX4_readLine 181 = .ok (.sipush 999, 3) := by decide +kernel
theorem dX4_readLine_184 : decode cX4_readLine 184 = .ok (.invokevirtual 78, 3) := by decide +kernel
theorem dX4_readLine_187 : decode cX4_readLine 187 = .ok (.putfield 88, 3) := by decide +kernel
theorem dX4_readLine_190 : decode cX4_readLine 190 = .ok (.goto 32, 3) := by decide +kernel
theorem dX4_readLine_193 : decode cX4_readLine 193 = .ok (.aload_n 0, 1) := by decide +kernel
theorem dX4_readLine_194 : decode cX4_readLine 194 = .ok (.getfield 29, 3) := by decide +kernel
theorem dX4_readLine_197 : decode cX4_readLine 197 = .ok (.aload_n 0, 1) := by decide +kernel
theorem dX4_readLine_198 : decode cX4_readLine 198 = .ok (.iconst 1, 1) := by decide +kernel
theorem dX4_readLine_199 : decode cX4_readLine 199 = .ok (.sipush 999, 3) := by decide +kernel
theorem dX4_readLine_202 : decode cX4_readLine 202 = .ok (.invokevirtual 78, 3) := by decide +kernel
theorem dX4_readLine_205 : decode cX4_readLine 205 = .ok (.putfield 91, 3) := by decide +kernel
theorem dX4_readLine_208 : decode cX4_readLine 208 = .ok (.goto 14, 3) := by decide +kernel
theorem dX4_readLine_211 : decode cX4_readLine 211 = .ok (.aload_n 0, 1) := by decide +kernel
theorem dX4_readLine_212 : decode cX4_readLine 212 = .ok (.invokevirtual 94, 3) := by decide +kernel
theorem dX4_readLine_215 : decode cX4_readLine 215 = .ok (.goto 7, 3) := by decide +kernel
theorem dX4_readLine_218 : decode cX4_readLine 218 = .ok (.aload_n 0, 1) := by decide +kernel
theorem dX4_readLine_219 : decode cX4_readLine 219 = .ok (.invokevirtual 97, 3) := by decide +kernel
theorem dX4_readLine_222 : decode cX4_readLine 222 = .ok (.iload_n 1, 1) := by decide +kernel
theorem dX4_readLine_223 : decode cX4_readLine 223 = .ok (.bipush 6, 2) := by decide +kernel
theorem dX4_readLine_225 : decode cX4_readLine 225 = .ok (.if_icmp .eq 21, 3) := by decide +kernel
theorem dX4_readLine_228 : decode cX4_readLine 228 = .ok (.iload_n 1, 1) := by decide +kernel
theorem dX4_readLine_229 : decode cX4_readLine 229 = .ok (.bipush 7, 2) := by decide +kernel
theorem dX4_readLine_231 : decode cX4_readLine 231 = .ok (.if_icmp .eq 15, 3) := by decide +kernel
theorem dX4_readLine_234 : decode cX4_readLine 234 = .ok (.aload_n 0, 1) := by decide +kernel
theorem dX4_readLine_235 : decode cX4_readLine 235 = .ok (.dup, 1) := by decide +kernel
theorem dX4_readLine_236 : decode cX4_readLine 236 = .ok (.getfield 16, 3) := by decide +kernel
theorem dX4_readLine_239 : decode cX4_readLine 239 = .ok (.iconst 1, 1) := by decide +kernel
theorem dX4_readLine_240 : decode cX4_readLine 240 = .ok (.iload_n 1, 1) := by decide +kernel
theorem dX4_readLine_241 : decode cX4_readLine 241 = .ok (.ishl, 1) := by decide +kernel
theorem dX4_readLine_242 : decode cX4_readLine 242 = .ok (.ior, 1) := by decide +kernel
theorem dX4_readLine_243 : decode cX4_readLine 243 = .ok (.putfield 16, 3) := by decide +kernel
theorem dX4_readLine_246 : decode cX4_readLine 246 = .ok (.aload_n 0, 1) := by decide +kernel
theorem dX4_readLine_247 : decode cX4_readLine 247 = .ok (.iconst 4, 1) := by decide +kernel
theorem dX4_readLine_248 : decode cX4_readLine 248 = .ok (.invokevirtual 63, 3) := by decide +kernel
theorem dX4_readLine_251 : decode cX4_readLine 251 = .ok (.ifCond .eq 10, 3) := by decide +kernel
theorem dX4_readLine_254 : decode cX4_readLine 254 = .ok (.aload_n 0, 1) := by decide +kernel
theorem dX4_readLine_255 : decode cX4_readLine 255 = .ok (.getfield 25, 3) := by decide +kernel
theorem dX4_readLine_258 : decode cX4_readLine 258 = .ok (.invokevirtual 43, 3) := by decide +kernel
theorem dX4_readLine_261 : decode cX4_readLine 261 = .ok (.return_, 1) := by decide +kernel
theorem dX4_lineNamed_0 : decode cX4_lineNamed 0 = .ok (.aload_n 0, 1) := by decide +kernel
theorem dX4_lineNamed_1 : decode cX4_lineNamed 1 = .ok (.getfield 25, 3) := by decide +kernel
theorem dX4_lineNamed_4 : decode cX4_lineNamed 4 = .ok (.ldc 100, 2) := by decide +kernel
theorem dX4_lineNamed_6 : decode cX4_lineNamed 6 = .ok (.invokevirtual 101, 3) := by decide +kernel
theorem dX4_lineNamed_9 : decode cX4_lineNamed 9 = .ok (.ifCond .eq 5, 3) := by decide +kernel
theorem dX4_lineNamed_12 : decode cX4_lineNamed 12 = .ok (.iconst 0, 1) := by decide +kernel
theorem dX4_lineNamed_13 : decode cX4_lineNamed 13 = .ok (.ireturn, 1) := by decide +kernel
theorem dX4_lineNamed_14 : decode cX4_lineNamed 14 = .ok (.aload_n 0, 1) := by decide +kernel
theorem dX4_lineNamed_15 : decode cX4_lineNamed 15 = .ok (.getfield 25, 3) := by decide +kernel
theorem dX4_lineNamed_18 : decode cX4_lineNamed 18 = .ok (.ldc 105, 2) := by decide +kernel
theorem dX4_lineNamed_20 : decode cX4_lineNamed 20 = .ok (.invokevirtual 101, 3) := by decide +kernel
theorem dX4_lineNamed_23 : decode cX4_lineNamed 23 = .ok (.ifCond .eq 5, 3) := by decide +kernel
theorem dX4_lineNamed_26 : decode cX4_lineNamed 26 = .ok (.iconst 1, 1) := by decide +kernel
theorem dX4_lineNamed_27 : decode cX4_lineNamed 27 = .ok (.ireturn, 1) := by decide +kernel
theorem dX4_lineNamed_28 : decode cX4_lineNamed 28 = .ok (.aload_n 0, 1) := by decide +kernel
theorem dX4_lineNamed_29 : decode cX4_lineNamed 29 = .ok (.getfield 25, 3) := by decide +kernel
theorem dX4_lineNamed_32 : decode cX4_lineNamed 32 = .ok (.ldc 106, 2) := by decide +kernel
theorem dX4_lineNamed_34 : decode cX4_lineNamed 34 = .ok (.invokevirtual 101, 3) := by decide +kernel
theorem dX4_lineNamed_37 : decode cX4_lineNamed 37 = .ok (.ifCond .eq 5, 3) := by decide +kernel
theorem dX4_lineNamed_40 : decode cX4_lineNamed 40 = .ok (.iconst 2, 1) := by decide +kernel
theorem dX4_lineNamed_41 : decode cX4_lineNamed 41 = .ok (.ireturn, 1) := by decide +kernel
theorem dX4_lineNamed_42 : decode cX4_lineNamed 42 = .ok (.aload_n 0, 1) := by decide +kernel
theorem dX4_lineNamed_43 : decode cX4_lineNamed 43 = .ok (.getfield 25, 3) := by decide +kernel
theorem dX4_lineNamed_46 : decode cX4_lineNamed 46 = .ok (.ldc 107, 2) := by decide +kernel
theorem dX4_lineNamed_48 : decode cX4_lineNamed 48 = .ok (.invokevirtual 101, 3) := by decide +kernel
theorem dX4_lineNamed_51 : decode cX4_lineNamed 51 = .ok (.ifCond .eq 5, 3) := by decide +kernel
theorem dX4_lineNamed_54 : decode cX4_lineNamed 54 = .ok (.iconst 3, 1) := by decide +kernel
theorem dX4_lineNamed_55 : decode cX4_lineNamed 55 = .ok (.ireturn, 1) := by decide +kernel
theorem dX4_lineNamed_56 : decode cX4_lineNamed 56 = .ok (.aload_n 0, 1) := by decide +kernel
theorem dX4_lineNamed_57 : decode cX4_lineNamed 57 = .ok (.getfield 25, 3) := by decide +kernel
theorem dX4_lineNamed_60 : decode cX4_lineNamed 60 = .ok (.ldc 108, 2) := by decide +kernel
theorem dX4_lineNamed_62 : decode cX4_lineNamed 62 = .ok (.invokevirtual 101, 3) := by decide +kernel
theorem dX4_lineNamed_65 : decode cX4_lineNamed 65 = .ok (.ifCond .eq 5, 3) := by decide +kernel
theorem dX4_lineNamed_68 : decode cX4_lineNamed 68 = .ok (.iconst 4, 1) := by decide +kernel
theorem dX4_lineNamed_69 : decode cX4_lineNamed 69 = .ok (.ireturn, 1) := by decide +kernel
theorem dX4_lineNamed_70 : decode cX4_lineNamed 70 = .ok (.aload_n 0, 1) := by decide +kernel
theorem dX4_lineNamed_71 : decode cX4_lineNamed 71 = .ok (.getfield 25, 3) := by decide +kernel
theorem dX4_lineNamed_74 : decode cX4_lineNamed 74 = .ok (.ldc 109, 2) := by decide +kernel
theorem dX4_lineNamed_76 : decode cX4_lineNamed 76 = .ok (.invokevirtual 101, 3) := by decide +kernel
theorem dX4_lineNamed_79 : decode cX4_lineNamed 79 = .ok (.ifCond .eq 5, 3) := by decide +kernel
theorem dX4_lineNamed_82 : decode cX4_lineNamed 82 = .ok (.iconst 5, 1) := by decide +kernel
theorem dX4_lineNamed_83 : decode cX4_lineNamed 83 = .ok (.ireturn, 1) := by decide +kernel
theorem dX4_lineNamed_84 : decode cX4_lineNamed 84 = .ok (.aload_n 0, 1) := by decide +kernel
theorem dX4_lineNamed_85 : decode cX4_lineNamed 85 = .ok (.getfield 25, 3) := by decide +kernel
theorem dX4_lineNamed_88 : decode cX4_lineNamed 88 = .ok (.ldc 110, 2) := by decide +kernel
theorem dX4_lineNamed_90 : decode cX4_lineNamed 90 = .ok (.invokevirtual 101, 3) := by decide +kernel
theorem dX4_lineNamed_93 : decode cX4_lineNamed 93 = .ok (.ifCond .eq 6, 3) := by decide +kernel
theorem dX4_lineNamed_96 : decode cX4_lineNamed 96 = .ok (.bipush 6, 2) := by decide +kernel
theorem dX4_lineNamed_98 : decode cX4_lineNamed 98 = .ok (.ireturn, 1) := by decide +kernel
theorem dX4_lineNamed_99 : decode cX4_lineNamed 99 = .ok (.aload_n 0, 1) := by decide +kernel
theorem dX4_lineNamed_100 : decode cX4_lineNamed 100 = .ok (.getfield 25, 3) := by decide +kernel
theorem dX4_lineNamed_103 : decode cX4_lineNamed 103 = .ok (.ldc 112, 2) := by decide +kernel
theorem dX4_lineNamed_105 : decode cX4_lineNamed 105 = .ok (.invokevirtual 101, 3) := by decide +kernel
theorem dX4_lineNamed_108 : decode cX4_lineNamed 108 = .ok (.ifCond .eq 8, 3) := by decide +kernel
theorem dX4_lineNamed_111 : decode cX4_lineNamed 111 = .ok (.bipush 7, 2) := by decide +kernel
theorem dX4_lineNamed_113 : decode cX4_lineNamed 113 = .ok (.goto 4, 3) := by decide +kernel
theorem dX4_lineNamed_116 : decode cX4_lineNamed 116 = .ok (.iconst (-1), 1) := by decide +kernel
theorem dX4_lineNamed_117 : decode cX4_lineNamed 117 = .ok (.ireturn, 1) := by decide +kernel
theorem dX4_readMiss_0 : decode cX4_readMiss 0 = .ok (.aload_n 0, 1) := by decide +kernel
theorem dX4_readMiss_1 : decode cX4_readMiss 1 = .ok (.bipush 9, 2) := by decide +kernel
theorem dX4_readMiss_3 : decode cX4_readMiss 3 = .ok (.aload_n 0, 1) := by decide +kernel
theorem dX4_readMiss_4 : decode cX4_readMiss 4 = .ok (.getfield 19, 3) := by decide +kernel
theorem dX4_readMiss_7 : decode cX4_readMiss 7 = .ok (.invokevirtual 114, 3) := by decide +kernel
theorem dX4_readMiss_10 : decode cX4_readMiss 10 = .ok (.istore_n 1, 1) := by decide +kernel
theorem dX4_readMiss_11 : decode cX4_readMiss 11 = .ok (.aload_n 0, 1) := by decide +kernel
theorem dX4_readMiss_12 : decode cX4_readMiss 12 = .ok (.sipush (-999), 3) := by decide +kernel
theorem dX4_readMiss_15 : decode cX4_readMiss 15 = .ok (.sipush 999, 3) := by decide +kernel
theorem dX4_readMiss_18 : decode cX4_readMiss 18 = .ok (.invokevirtual 78, 3) := by decide +kernel
theorem dX4_readMiss_21 : decode cX4_readMiss 21 = .ok (.istore_n 2, 1) := by decide +kernel
theorem dX4_readMiss_22 : decode cX4_readMiss 22 = .ok (.aload_n 0, 1) := by decide +kernel
theorem dX4_readMiss_23 : decode cX4_readMiss 23 = .ok (.getfield 9, 3) := by decide +kernel
theorem dX4_readMiss_26 : decode cX4_readMiss 26 = .ok (.ifCond .ne 24, 3) := by decide +kernel
theorem dX4_readMiss_29 : decode cX4_readMiss 29 = .ok (.aload_n 0, 1) := by decide +kernel
theorem dX4_readMiss_30 : decode cX4_readMiss 30 = .ok (.dup, 1) := by decide +kernel
theorem dX4_readMiss_31 : decode cX4_readMiss 31 = .ok (.getfield 19, 3) := by decide +kernel
theorem dX4_readMiss_34 : decode cX4_readMiss 34 = .ok (.iconst 1, 1) := by decide +kernel
theorem dX4_readMiss_35 : decode cX4_readMiss 35 = .ok (.iload_n 1, 1) := by decide +kernel
theorem dX4_readMiss_36 : decode cX4_readMiss 36 = .ok (.ishl, 1) := by decide +kernel
theorem dX4_readMiss_37 : decode cX4_readMiss 37 = .ok (.ior, 1) := by decide +kernel
theorem dX4_readMiss_38 : decode cX4_readMiss 38 = .ok (.putfield 19, 3) := by decide +kernel
theorem dX4_readMiss_41 : decode cX4_readMiss 41 = .ok (.aload_n 0, 1) := by decide +kernel
theorem dX4_readMiss_42 : decode cX4_readMiss 42 = .ok (.getfield 29, 3) := by decide +kernel
theorem dX4_readMiss_45 : decode cX4_readMiss 45 = .ok (.iload_n 1, 1) := by decide +kernel
theorem dX4_readMiss_46 : decode cX4_readMiss 46 = .ok (.iload_n 2, 1) := by decide +kernel
theorem dX4_readMiss_47 : decode cX4_readMiss 47 = .ok (.invokevirtual 117, 3) := by decide +kernel
theorem dX4_readMiss_50 : decode cX4_readMiss 50 = .ok (.return_, 1) := by decide +kernel
theorem dX4_readResistor_0 : decode cX4_readResistor 0 = .ok (.aload_n 0, 1) := by decide +kernel
theorem dX4_readResistor_1 : decode cX4_readResistor 1 = .ok (.bipush 16, 2) := by decide +kernel
theorem dX4_readResistor_3 : decode cX4_readResistor 3 = .ok (.aload_n 0, 1) := by decide +kernel
theorem dX4_readResistor_4 : decode cX4_readResistor 4 = .ok (.getfield 22, 3) := by decide +kernel
theorem dX4_readResistor_7 : decode cX4_readResistor 7 = .ok (.invokevirtual 114, 3) := by decide +kernel
theorem dX4_readResistor_10 : decode cX4_readResistor 10 = .ok (.istore_n 1, 1) := by decide +kernel
theorem dX4_readResistor_11 : decode cX4_readResistor 11 = .ok (.aload_n 0, 1) := by decide +kernel
theorem dX4_readResistor_12 : decode cX4_readResistor 12 = .ok (.bipush (-9), 2) := by decide +kernel
theorem dX4_readResistor_14 : decode cX4_readResistor 14 = .ok (.bipush 89, 2) := by decide +kernel
theorem dX4_readResistor_16 : decode cX4_readResistor 16 = .ok (.invokevirtual 78, 3) := by decide +kernel
theorem dX4_readResistor_19 : decode cX4_readResistor 19 = .ok (.istore_n 2, 1) := by decide +kernel
theorem dX4_readResistor_20 : decode cX4_readResistor 20 = .ok (.aload_n 0, 1) := by decide +kernel
theorem dX4_readResistor_21 : decode cX4_readResistor 21 = .ok (.getfield 9, 3) := by decide +kernel
theorem dX4_readResistor_24 : decode cX4_readResistor 24 = .ok (.ifCond .ne 27, 3) := by decide +kernel
theorem dX4_readResistor_27 : decode cX4_readResistor 27 = .ok (.aload_n 0, 1) := by decide +kernel
theorem dX4_readResistor_28 : decode cX4_readResistor 28 = .ok (.dup, 1) := by decide +kernel
theorem dX4_readResistor_29 : decode cX4_readResistor 29 = .ok (.getfield 22, 3) := by decide +kernel
theorem dX4_readResistor_32 : decode cX4_readResistor 32 = .ok (.iconst 1, 1) := by decide +kernel
theorem dX4_readResistor_33 : decode cX4_readResistor 33 = .ok (.iload_n 1, 1) := by decide +kernel
theorem dX4_readResistor_34 : decode cX4_readResistor 34 = .ok (.ishl, 1) := by decide +kernel
theorem dX4_readResistor_35 : decode cX4_readResistor 35 = .ok (.ior, 1) := by decide +kernel
theorem dX4_readResistor_36 : decode cX4_readResistor 36 = .ok (.putfield 22, 3) := by decide +kernel
theorem dX4_readResistor_39 : decode cX4_readResistor 39 = .ok (.aload_n 0, 1) := by decide +kernel
theorem dX4_readResistor_40 : decode cX4_readResistor 40 = .ok (.getfield 29, 3) := by decide +kernel
theorem dX4_readResistor_43 : decode cX4_readResistor 43 = .ok (.iload_n 1, 1) := by decide +kernel
theorem dX4_readResistor_44 : decode cX4_readResistor 44 = .ok (.bipush 10, 2) := by decide +kernel
theorem dX4_readResistor_46 : decode cX4_readResistor 46 = .ok (.iload_n 2, 1) := by decide +kernel
theorem dX4_readResistor_47 : decode cX4_readResistor 47 = .ok (.iadd, 1) := by decide +kernel
theorem dX4_readResistor_48 : decode cX4_readResistor 48 = .ok (.invokevirtual 120, 3) := by decide +kernel
theorem dX4_readResistor_51 : decode cX4_readResistor 51 = .ok (.return_, 1) := by decide +kernel
theorem dX4_takeFresh_0 : decode cX4_takeFresh 0 = .ok (.aload_n 0, 1) := by decide +kernel
theorem dX4_takeFresh_1 : decode cX4_takeFresh 1 = .ok (.iconst 2, 1) := by decide +kernel
theorem dX4_takeFresh_2 : decode cX4_takeFresh 2 = .ok (.invokevirtual 63, 3) := by decide +kernel
theorem dX4_takeFresh_5 : decode cX4_takeFresh 5 = .ok (.ifCond .ne 5, 3) := by decide +kernel
theorem dX4_takeFresh_8 : decode cX4_takeFresh 8 = .ok (.iconst 0, 1) := by decide +kernel
theorem dX4_takeFresh_9 : decode cX4_takeFresh 9 = .ok (.ireturn, 1) := by decide +kernel
theorem dX4_takeFresh_10 : decode cX4_takeFresh 10 = .ok (.aload_n 0, 1) := by decide +kernel
theorem dX4_takeFresh_11 : decode cX4_takeFresh 11 = .ok (.getfield 25, 3) := by decide +kernel
theorem dX4_takeFresh_14 : decode cX4_takeFresh 14 = .ok (.getfield 123, 3) := by decide +kernel
theorem dX4_takeFresh_17 : decode cX4_takeFresh 17 = .ok (.istore_n 3, 1) := by decide +kernel
theorem dX4_takeFresh_18 : decode cX4_takeFresh 18 = .ok (.iload_n 3, 1) := by decide +kernel
theorem dX4_takeFresh_19 : decode cX4_takeFresh 19 = .ok (.iload_n 1, 1) := by decide +kernel
theorem dX4_takeFresh_20 : decode cX4_takeFresh 20 = .ok (.if_icmp .lt 17, 3) := by decide +kernel
theorem dX4_takeFresh_23 : decode cX4_takeFresh 23 = .ok (.aload_n 0, 1) := by decide +kernel
theorem dX4_takeFresh_24 : decode cX4_takeFresh 24 = .ok (.iconst 3, 1) := by decide +kernel
theorem dX4_takeFresh_25 : decode cX4_takeFresh 25 = .ok (.aload_n 0, 1) := by decide +kernel
theorem dX4_takeFresh_26 : decode cX4_takeFresh 26 = .ok (.getfield 25, 3) := by decide +kernel
theorem dX4_takeFresh_29 : decode cX4_takeFresh 29 = .ok (.getfield 71, 3) := by decide +kernel
theorem dX4_takeFresh_32 : decode cX4_takeFresh 32 = .ok (.invokevirtual 59, 3) := by decide +kernel
theorem dX4_takeFresh_35 : decode cX4_takeFresh 35 = .ok (.iconst 0, 1) := by decide +kernel
theorem dX4_takeFresh_36 : decode cX4_takeFresh 36 = .ok (.ireturn, 1) := by decide +kernel
theorem dX4_takeFresh_37 : decode cX4_takeFresh 37 = .ok (.iload_n 2, 1) := by decide +kernel
theorem dX4_takeFresh_38 : decode cX4_takeFresh 38 = .ok (.iload_n 3, 1) := by decide +kernel
theorem dX4_takeFresh_39 : decode cX4_takeFresh 39 = .ok (.invokestatic 74, 3) := by decide +kernel
theorem dX4_takeFresh_42 : decode cX4_takeFresh 42 = .ok (.ifCond .eq 17, 3) := by decide +kernel
theorem dX4_takeFresh_45 : decode cX4_takeFresh 45 = .ok (.aload_n 0, 1) := by decide +kernel
theorem dX4_takeFresh_46 : decode cX4_takeFresh 46 = .ok (.iconst 4, 1) := by decide +kernel
theorem dX4_takeFresh_47 : decode cX4_takeFresh 47 = .ok (.aload_n 0, 1) := by decide +kernel
theorem dX4_takeFresh_48 : decode cX4_takeFresh 48 = .ok (.getfield 25, 3) := by decide +kernel
theorem dX4_takeFresh_51 : decode cX4_takeFresh 51 = .ok (.getfield 71, 3) := by decide +kernel
theorem dX4_takeFresh_54 : decode cX4_takeFresh 54 = .ok (.invokevirtual 59, 3) := by decide +kernel
theorem dX4_takeFresh_57 : decode cX4_takeFresh 57 = .ok (.iconst 0, 1) := by decide +kernel
theorem dX4_takeFresh_58 : decode cX4_takeFresh 58 = .ok (.ireturn, 1) := by decide +kernel
theorem dX4_takeFresh_59 : decode cX4_takeFresh 59 = .ok (.aload_n 0, 1) := by decide +kernel
theorem dX4_takeFresh_60 : decode cX4_takeFresh 60 = .ok (.getfield 25, 3) := by decide +kernel
theorem dX4_takeFresh_63 : decode cX4_takeFresh 63 = .ok (.invokevirtual 43, 3) := by decide +kernel
theorem dX4_takeFresh_66 : decode cX4_takeFresh 66 = .ok (.iload_n 3, 1) := by decide +kernel
theorem dX4_takeFresh_67 : decode cX4_takeFresh 67 = .ok (.ireturn, 1) := by decide +kernel
theorem dX4_takeNumber_0 : decode cX4_takeNumber 0 = .ok (.iconst 1, 1) := by decide +kernel
theorem dX4_takeNumber_1 : decode cX4_takeNumber 1 = .ok (.istore_n 3, 1) := by decide +kernel
theorem dX4_takeNumber_2 : decode cX4_takeNumber 2 = .ok (.aload_n 0, 1) := by decide +kernel
theorem dX4_takeNumber_3 : decode cX4_takeNumber 3 = .ok (.getfield 9, 3) := by decide +kernel
theorem dX4_takeNumber_6 : decode cX4_takeNumber 6 = .ok (.ifCond .ne 27, 3) := by decide +kernel
theorem dX4_takeNumber_9 : decode cX4_takeNumber 9 = .ok (.iload_n 1, 1) := by decide +kernel
theorem dX4_takeNumber_10 : decode cX4_takeNumber 10 = .ok (.ifCond .ge 23, 3) := by decide +kernel
theorem dX4_takeNumber_13 : decode cX4_takeNumber 13 = .ok (.aload_n 0, 1) := by decide +kernel
theorem dX4_takeNumber_14 : decode cX4_takeNumber 14 = .ok (.getfield 25, 3) := by decide +kernel
theorem dX4_takeNumber_17 : decode cX4_takeNumber 17 = .ok (.getfield 46, 3) := by decide +kernel
theorem dX4_takeNumber_20 : decode cX4_takeNumber 20 = .ok (.iconst 3, 1) := by decide +kernel
theorem dX4_takeNumber_21 : decode cX4_takeNumber 21 = .ok (.if_icmp .ne 12, 3) := by decide +kernel
theorem dX4_takeNumber_24 : decode cX4_takeNumber 24 = .ok (.iconst (-1), 1) := by decide +kernel
theorem dX4_takeNumber_25 : decode cX4_takeNumber 25 = .ok (.istore_n 3, 1) := by decide +kernel
theorem dX4_takeNumber_26 : decode cX4_takeNumber 26 = .ok (.aload_n 0, 1) := by decide +kernel
theorem dX4_takeNumber_27 : decode cX4_takeNumber 27 = .ok (.getfield 25, 3) := by decide +kernel
theorem dX4_takeNumber_30 : decode cX4_takeNumber 30 = .ok (.invokevirtual 43, 3) := by decide +kernel
theorem dX4_takeNumber_33 : decode cX4_takeNumber 33 = .ok (.aload_n 0, 1) := by decide +kernel
theorem dX4_takeNumber_34 : decode cX4_takeNumber 34 = .ok (.iconst 2, 1) := by decide +kernel
theorem dX4_takeNumber_35 : decode cX4_takeNumber 35 = .ok (.invokevirtual 63, 3) := by decide +kernel
theorem dX4_takeNumber_38 : decode cX4_takeNumber 38 = .ok (.ifCond .ne 5, 3) := by decide +kernel
theorem dX4_takeNumber_41 : decode cX4_takeNumber 41 = .ok (.iconst 0, 1) := by decide +kernel
theorem dX4_takeNumber_42 : decode cX4_takeNumber 42 = .ok (.ireturn, 1) := by decide +kernel
theorem dX4_takeNumber_43 : decode cX4_takeNumber 43 = .ok (.iload_n 3, 1) := by decide +kernel
theorem dX4_takeNumber_44 : decode cX4_takeNumber 44 = .ok (.aload_n 0, 1) := by decide +kernel
theorem dX4_takeNumber_45 : decode cX4_takeNumber 45 = .ok (.getfield 25, 3) := by decide +kernel
theorem dX4_takeNumber_48 : decode cX4_takeNumber 48 = .ok (.getfield 123, 3) := by decide +kernel
theorem dX4_takeNumber_51 : decode cX4_takeNumber 51 = .ok (.imul, 1) := by decide +kernel
theorem dX4_takeNumber_52 : decode cX4_takeNumber 52 = .ok (.istore 4, 2) := by decide +kernel
theorem dX4_takeNumber_54 : decode cX4_takeNumber 54 = .ok (.iload 4, 2) := by decide +kernel
theorem dX4_takeNumber_56 : decode cX4_takeNumber 56 = .ok (.iload_n 1, 1) := by decide +kernel
theorem dX4_takeNumber_57 : decode cX4_takeNumber 57 = .ok (.if_icmp .lt 9, 3) := by decide +kernel
theorem dX4_takeNumber_60 : decode cX4_takeNumber 60 = .ok (.iload 4, 2) := by decide +kernel
theorem dX4_takeNumber_62 : decode cX4_takeNumber 62 = .ok (.iload_n 2, 1) := by decide +kernel
theorem dX4_takeNumber_63 : decode cX4_takeNumber 63 = .ok (.if_icmp .le 17, 3) := by decide +kernel
theorem dX4_takeNumber_66 : decode cX4_takeNumber 66 = .ok (.aload_n 0, 1) := by decide +kernel
theorem dX4_takeNumber_67 : decode cX4_takeNumber 67 = .ok (.iconst 3, 1) := by decide +kernel
theorem dX4_takeNumber_68 : decode cX4_takeNumber 68 = .ok (.aload_n 0, 1) := by decide +kernel
theorem dX4_takeNumber_69 : decode cX4_takeNumber 69 = .ok (.getfield 25, 3) := by decide +kernel
theorem dX4_takeNumber_72 : decode cX4_takeNumber 72 = .ok (.getfield 71, 3) := by decide +kernel
theorem dX4_takeNumber_75 : decode cX4_takeNumber 75 = .ok (.invokevirtual 59, 3) := by decide +kernel
theorem dX4_takeNumber_78 : decode cX4_takeNumber 78 = .ok (.iconst 0, 1) := by decide +kernel
theorem dX4_takeNumber_79 : decode cX4_takeNumber 79 = .ok (.ireturn, 1) := by decide +kernel
theorem dX4_takeNumber_80 : decode cX4_takeNumber 80 = .ok (.aload_n 0, 1) := by decide +kernel
theorem dX4_takeNumber_81 : decode cX4_takeNumber 81 = .ok (.getfield 25, 3) := by decide +kernel
theorem dX4_takeNumber_84 : decode cX4_takeNumber 84 = .ok (.invokevirtual 43, 3) := by decide +kernel
theorem dX4_takeNumber_87 : decode cX4_takeNumber 87 = .ok (.iload 4, 2) := by decide +kernel
theorem dX4_takeNumber_89 : decode cX4_takeNumber 89 = .ok (.ireturn, 1) := by decide +kernel
theorem dX4_stands_0 : decode cX4_stands 0 = .ok (.aload_n 0, 1) := by decide +kernel
theorem dX4_stands_1 : decode cX4_stands 1 = .ok (.getfield 9, 3) := by decide +kernel
theorem dX4_stands_4 : decode cX4_stands 4 = .ok (.ifCond .eq 5, 3) := by decide +kernel
theorem dX4_stands_7 : decode cX4_stands 7 = .ok (.iconst 0, 1) := by decide +kernel
theorem dX4_stands_8 : decode cX4_stands 8 = .ok (.ireturn, 1) := by decide +kernel
theorem dX4_stands_9 : decode cX4_stands 9 = .ok (.aload_n 0, 1) := by decide +kernel
theorem dX4_stands_10 : decode cX4_stands 10 = .ok (.getfield 25, 3) := by decide +kernel
theorem dX4_stands_13 : decode cX4_stands 13 = .ok (.getfield 46, 3) := by decide +kernel
theorem dX4_stands_16 : decode cX4_stands 16 = .ok (.iload_n 1, 1) := by decide +kernel
theorem dX4_stands_17 : decode cX4_stands 17 = .ok (.if_icmp .ne 5, 3) := by decide +kernel
theorem dX4_stands_20 : decode cX4_stands 20 = .ok (.iconst 1, 1) := by decide +kernel
theorem dX4_stands_21 : decode cX4_stands 21 = .ok (.ireturn, 1) := by decide +kernel
theorem dX4_stands_22 : decode cX4_stands 22 = .ok (.aload_n 0, 1) := by decide +kernel
theorem dX4_stands_23 : decode cX4_stands 23 = .ok (.aload_n 0, 1) := by decide +kernel
theorem dX4_stands_24 : decode cX4_stands 24 = .ok (.getfield 25, 3) := by decide +kernel
theorem dX4_stands_27 : decode cX4_stands 27 = .ok (.getfield 46, 3) := by decide +kernel
theorem dX4_stands_30 : decode cX4_stands 30 = .ok (.iconst 5, 1) := by decide +kernel
theorem dX4_stands_31 : decode cX4_stands 31 = .ok (.if_icmp .ne 7, 3) := by decide +kernel
theorem dX4_stands_34 : decode cX4_stands 34 = .ok (.iconst 1, 1) := by decide +kernel
theorem dX4_stands_35 : decode cX4_stands 35 = .ok (.goto 4, 3) := by decide +kernel
theorem dX4_stands_38 : decode cX4_stands 38 = .ok (.iconst 2, 1) := by decide +kernel
theorem dX4_stands_39 : decode cX4_stands 39 = .ok (.aload_n 0, 1) := by decide +kernel
theorem dX4_stands_40 : decode cX4_stands 40 = .ok (.getfield 25, 3) := by decide +kernel
theorem dX4_stands_43 : decode cX4_stands 43 = .ok (.getfield 71, 3) := by decide +kernel
theorem dX4_stands_46 : decode cX4_stands 46 = .ok (.invokevirtual 59, 3) := by decide +kernel
theorem dX4_stands_49 : decode cX4_stands 49 = .ok (.iconst 0, 1) := by decide +kernel
theorem dX4_stands_50 : decode cX4_stands 50 = .ok (.ireturn, 1) := by decide +kernel
theorem dX4_refuse_0 : decode cX4_refuse 0 = .ok (.aload_n 0, 1) := by decide +kernel
theorem dX4_refuse_1 : decode cX4_refuse 1 = .ok (.iload_n 1, 1) := by decide +kernel
theorem dX4_refuse_2 : decode cX4_refuse 2 = .ok (.putfield 9, 3) := by decide +kernel
theorem dX4_refuse_5 : decode cX4_refuse 5 = .ok (.aload_n 0, 1) := by decide +kernel
theorem dX4_refuse_6 : decode cX4_refuse 6 = .ok (.iload_n 2, 1) := by decide +kernel
theorem dX4_refuse_7 : decode cX4_refuse 7 = .ok (.putfield 13, 3) := by decide +kernel
theorem dX4_refuse_10 : decode cX4_refuse 10 = .ok (.return_, 1) := by decide +kernel
theorem dX4_isTold_0 : decode cX4_isTold 0 = .ok (.iload_n 0, 1) := by decide +kernel
theorem dX4_isTold_1 : decode cX4_isTold 1 = .ok (.iload_n 1, 1) := by decide +kernel
theorem dX4_isTold_2 : decode cX4_isTold 2 = .ok (.ishr, 1) := by decide +kernel
theorem dX4_isTold_3 : decode cX4_isTold 3 = .ok (.iconst 1, 1) := by decide +kernel
theorem dX4_isTold_4 : decode cX4_isTold 4 = .ok (.iand, 1) := by decide +kernel
theorem dX4_isTold_5 : decode cX4_isTold 5 = .ok (.iconst 1, 1) := by decide +kernel
theorem dX4_isTold_6 : decode cX4_isTold 6 = .ok (.if_icmp .ne 7, 3) := by decide +kernel
theorem dX4_isTold_9 : decode cX4_isTold 9 = .ok (.iconst 1, 1) := by decide +kernel
theorem dX4_isTold_10 : decode cX4_isTold 10 = .ok (.goto 4, 3) := by decide +kernel
theorem dX4_isTold_13 : decode cX4_isTold 13 = .ok (.iconst 0, 1) := by decide +kernel
theorem dX4_isTold_14 : decode cX4_isTold 14 = .ok (.ireturn, 1) := by decide +kernel
theorem dX5_init_0 : decode cX5_init 0 = .ok (.aload_n 0, 1) := by decide +kernel
theorem dX5_init_1 : decode cX5_init 1 = .ok (.invokespecial 1, 3) := by decide +kernel
theorem dX5_init_4 : decode cX5_init 4 = .ok (.aload_n 0, 1) := by decide +kernel
theorem dX5_init_5 : decode cX5_init 5 = .ok (.bipush 9, 2) := by decide +kernel
theorem dX5_init_7 : decode cX5_init 7 = .ok (.newarray .int, 2) := by decide +kernel
theorem dX5_init_9 : decode cX5_init 9 = .ok (.putfield 9, 3) := by decide +kernel
theorem dX5_init_12 : decode cX5_init 12 = .ok (.aload_n 0, 1) := by decide +kernel
theorem dX5_init_13 : decode cX5_init 13 = .ok (.bipush 16, 2) := by decide +kernel
theorem dX5_init_15 : decode cX5_init 15 = .ok (.newarray .int, 2) := by decide +kernel
theorem dX5_init_17 : decode cX5_init 17 = .ok (.putfield 13, 3) := by decide +kernel
theorem dX5_init_20 : decode cX5_init 20 = .ok (.aload_n 0, 1) := by decide +kernel
theorem dX5_init_21 : decode cX5_init 21 = .ok (.invokevirtual 16, 3) := by decide +kernel
theorem dX5_init_24 : decode cX5_init 24 = .ok (.return_, 1) := by decide +kernel
theorem dX5_reset_0 : decode cX5_reset 0 = .ok (.aload_n 0, 1) := by decide +kernel
theorem dX5_reset_1 : decode cX5_reset 1 = .ok (.iconst 4, 1) := by decide +kernel
theorem dX5_reset_2 : decode cX5_reset 2 = .ok (.putfield 19, 3) := by decide +kernel
theorem dX5_reset_5 : decode cX5_reset 5 = .ok (.aload_n 0, 1) := by decide +kernel
theorem dX5_reset_6 : decode cX5_reset 6 = .ok (.bipush 16, 2) := by decide +kernel
theorem dX5_reset_8 : decode cX5_reset 8 = .ok (.putfield 23, 3) := by decide +kernel
theorem dX5_reset_11 : decode cX5_reset 11 = .ok (.aload_n 0, 1) := by decide +kernel
theorem dX5_reset_12 : decode cX5_reset 12 = .ok (.iconst 0, 1) := by decide +kernel
theorem dX5_reset_13 : decode cX5_reset 13 = .ok (.putfield 26, 3) := by decide +kernel
theorem dX5_reset_16 : decode cX5_reset 16 = .ok (.aload_n 0, 1) := by decide +kernel
theorem dX5_reset_17 : decode cX5_reset 17 = .ok (.iconst 0, 1) := by decide +kernel
theorem dX5_reset_18 : decode cX5_reset 18 = .ok (.putfield 29, 3) := by decide +kernel
theorem dX5_reset_21 : decode cX5_reset 21 = .ok (.aload_n 0, 1) := by decide +kernel
theorem dX5_reset_22 : decode cX5_reset 22 = .ok (.bipush 100, 2) := by decide +kernel
theorem dX5_reset_24 : decode cX5_reset 24 = .ok (.putfield 32, 3) := by decide +kernel
theorem dX5_reset_27 : decode cX5_reset 27 = .ok (.aload_n 0, 1) := by decide +kernel
theorem dX5_reset_28 : decode cX5_reset 28 = .ok (.iconst 0, 1) := by decide +kernel
theorem dX5_reset_29 : decode cX5_reset 29 = .ok (.putfield 35, 3) := by decide +kernel
theorem dX5_reset_32 : decode cX5_reset 32 = .ok (.aload_n 0, 1) := by decide +kernel
theorem dX5_reset_33 : decode cX5_reset 33 = .ok (.getfield 9, 3) := by decide +kernel
theorem dX5_reset_36 : decode cX5_reset 36 = .ok (.iconst 0, 1) := by decide +kernel
theorem dX5_reset_37 : decode cX5_reset 37 = .ok (.invokestatic 39, 3) := by decide +kernel
theorem dX5_reset_40 : decode cX5_reset 40 = .ok (.aload_n 0, 1) := by decide +kernel
theorem dX5_reset_41 : decode cX5_reset 41 = .ok (.getfield 13, 3) := by decide +kernel
theorem dX5_reset_44 : decode cX5_reset 44 = .ok (.bipush 10, 2) := by decide +kernel
theorem dX5_reset_46 : decode cX5_reset 46 = .ok (.invokestatic 39, 3) := by decide +kernel
theorem dX5_reset_49 : decode cX5_reset 49 = .ok (.return_, 1) := by decide +kernel
theorem dX5_copy_0 : decode cX5_copy 0 = .ok (.aload_n 1, 1) := by decide +kernel
theorem dX5_copy_1 : decode cX5_copy 1 = .ok (.ifnonnull 4, 3) := by decide +kernel
theorem dX5_copy_4 : decode cX5_copy 4 = .ok (.return_, 1) := by decide +kernel
theorem dX5_copy_5 : decode cX5_copy 5 = .ok (.aload_n 0, 1) := by decide +kernel
theorem dX5_copy_6 : decode cX5_copy 6 = .ok (.aload_n 1, 1) := by decide +kernel
theorem dX5_copy_7 : decode cX5_copy 7 = .ok (.getfield 19, 3) := by decide +kernel
theorem dX5_copy_10 : decode cX5_copy 10 = .ok (.putfield 19, 3) := by decide +kernel
theorem dX5_copy_13 : decode cX5_copy 13 = .ok (.aload_n 0, 1) := by decide +kernel
theorem dX5_copy_14 : decode cX5_copy 14 = .ok (.aload_n 1, 1) := by decide +kernel
theorem dX5_copy_15 : decode cX5_copy 15 = .ok (.getfield 23, 3) := by decide +kernel
theorem dX5_copy_18 : decode cX5_copy 18 = .ok (.putfield 23, 3) := by decide +kernel
theorem dX5_copy_21 : decode cX5_copy 21 = .ok (.aload_n 0, 1) := by decide +kernel
theorem dX5_copy_22 : decode cX5_copy 22 = .ok (.aload_n 1, 1) := by decide +kernel
theorem dX5_copy_23 : decode cX5_copy 23 = .ok (.getfield 26, 3) := by decide +kernel
theorem dX5_copy_26 : decode cX5_copy 26 = .ok (.putfield 26, 3) := by decide +kernel
theorem dX5_copy_29 : decode cX5_copy 29 = .ok (.aload_n 0, 1) := by decide +kernel
theorem dX5_copy_30 : decode cX5_copy 30 = .ok (.aload_n 1, 1) := by decide +kernel
theorem dX5_copy_31 : decode cX5_copy 31 = .ok (.getfield 29, 3) := by decide +kernel
theorem dX5_copy_34 : decode cX5_copy 34 = .ok (.putfield 29, 3) := by decide +kernel
theorem dX5_copy_37 : decode cX5_copy 37 = .ok (.aload_n 0, 1) := by decide +kernel
theorem dX5_copy_38 : decode cX5_copy 38 = .ok (.aload_n 1, 1) := by decide +kernel
theorem dX5_copy_39 : decode cX5_copy 39 = .ok (.getfield 32, 3) := by decide +kernel
theorem dX5_copy_42 : decode cX5_copy 42 = .ok (.putfield 32, 3) := by decide +kernel
theorem dX5_copy_45 : decode cX5_copy 45 = .ok (.aload_n 0, 1) := by decide +kernel
theorem dX5_copy_46 : decode cX5_copy 46 = .ok (.aload_n 1, 1) := by decide +kernel
theorem dX5_copy_47 : decode cX5_copy 47 = .ok (.getfield 35, 3) := by decide +kernel
theorem dX5_copy_50 : decode cX5_copy 50 = .ok (.putfield 35, 3) := by decide +kernel
theorem dX5_copy_53 : decode cX5_copy 53 = .ok (.aload_n 1, 1) := by decide +kernel
theorem dX5_copy_54 : decode cX5_copy 54 = .ok (.getfield 9, 3) := by decide +kernel
theorem dX5_copy_57 : decode cX5_copy 57 = .ok (.iconst 0, 1) := by decide +kernel
theorem dX5_copy_58 : decode cX5_copy 58 = .ok (.aload_n 0, 1) := by decide +kernel
theorem dX5_copy_59 : decode cX5_copy 59 = .ok (.getfield 9, 3) := by decide +kernel
theorem dX5_copy_62 : decode cX5_copy 62 = .ok (.iconst 0, 1) := by decide +kernel
theorem dX5_copy_63 : decode cX5_copy 63 = .ok (.bipush 9, 2) := by decide +kernel
theorem dX5_copy_65 : decode cX5_copy 65 = .ok (.invokestatic 45, 3) := by decide +kernel
theorem dX5_copy_68 : decode cX5_copy 68 = .ok (.aload_n 1, 1) := by decide +kernel
theorem dX5_copy_69 : decode cX5_copy 69 = .ok (.getfield 13, 3) := by decide +kernel
theorem dX5_copy_72 : decode cX5_copy 72 = .ok (.iconst 0, 1) := by decide +kernel
theorem dX5_copy_73 : decode cX5_copy 73 = .ok (.aload_n 0, 1) := by decide +kernel
theorem dX5_copy_74 : decode cX5_copy 74 = .ok (.getfield 13, 3) := by decide +kernel
theorem dX5_copy_77 : decode cX5_copy 77 = .ok (.iconst 0, 1) := by decide +kernel
theorem dX5_copy_78 : decode cX5_copy 78 = .ok (.bipush 16, 2) := by decide +kernel
theorem dX5_copy_80 : decode cX5_copy 80 = .ok (.invokestatic 45, 3) := by decide +kernel
theorem dX5_copy_83 : decode cX5_copy 83 = .ok (.return_, 1) := by decide +kernel
theorem dX5_codes_0 : decode cX5_codes 0 = .ok (.iconst 1, 1) := by decide +kernel
theorem dX5_codes_1 : decode cX5_codes 1 = .ok (.aload_n 0, 1) := by decide +kernel
theorem dX5_codes_2 : decode cX5_codes 2 = .ok (.getfield 19, 3) := by decide +kernel
theorem dX5_codes_5 : decode cX5_codes 5 = .ok (.ishl, 1) := by decide +kernel
theorem dX5_codes_6 : decode cX5_codes 6 = .ok (.ireturn, 1) := by decide +kernel
theorem dX5_isCode_0 : decode cX5_isCode 0 = .ok (.iload_n 1, 1) := by decide +kernel
theorem dX5_isCode_1 : decode cX5_isCode 1 = .ok (.ifCond .lt 15, 3) := by decide +kernel
theorem dX5_isCode_4 : decode cX5_isCode 4 = .ok (.iload_n 1, 1) := by decide +kernel
theorem dX5_isCode_5 : decode cX5_isCode 5 = .ok (.aload_n 0, 1) := by decide +kernel
theorem dX5_isCode_6 : decode cX5_isCode 6 = .ok (.invokevirtual 51, 3) := by decide +kernel
theorem dX5_isCode_9 : decode cX5_isCode 9 = .ok (.if_icmp .ge 7, 3) := by decide +kernel
theorem dX5_isCode_12 : decode cX5_isCode 12 = .ok (.iconst 1, 1) := by decide +kernel
theorem dX5_isCode_13 : decode cX5_isCode 13 = .ok (.goto 4, 3) := by decide +kernel
theorem dX5_isCode_16 : decode cX5_isCode 16 = .ok (.iconst 0, 1) := by decide +kernel
theorem dX5_isCode_17 : decode cX5_isCode 17 = .ok (.ireturn, 1) := by decide +kernel
theorem dX5_parts_0 : decode cX5_parts 0 = .ok (.aload_n 0, 1) := by decide +kernel
theorem dX5_parts_1 : decode cX5_parts 1 = .ok (.getfield 35, 3) := by decide +kernel
theorem dX5_parts_4 : decode cX5_parts 4 = .ok (.ifCond .eq 12, 3) := by decide +kernel
theorem dX5_parts_7 : decode cX5_parts 7 = .ok (.aload_n 0, 1) := by decide +kernel
theorem dX5_parts_8 : decode cX5_parts 8 = .ok (.getfield 19, 3) := by decide +kernel
theorem dX5_parts_11 : decode cX5_parts 11 = .ok (.iconst 1, 1) := by decide +kernel
theorem dX5_parts_12 : decode cX5_parts 12 = .ok (.iadd, 1) := by decide +kernel
theorem dX5_parts_13 : decode cX5_parts 13 = .ok (.goto 7, 3) := by decide +kernel
