theorem dX5_parts_16 : decode cX5_parts 16 = .ok (.aload_n 0, 1) := by decide +kernel
theorem dX5_parts_17 : decode cX5_parts 17 = .ok (.getfield 19, 3) := by decide +kernel
theorem dX5_parts_20 : decode cX5_parts 20 = .ok (.ireturn, 1) := by decide +kernel
theorem dX5_missOf_0 : decode cX5_missOf 0 = .ok (.iload_n 1, 1) := by decide +kernel
theorem dX5_missOf_1 : decode cX5_missOf 1 = .ok (.ifCond .lt 29, 3) := by decide +kernel
theorem dX5_missOf_4 : decode cX5_missOf 4 = .ok (.iload_n 1, 1) := by decide +kernel
theorem dX5_missOf_5 : decode cX5_missOf 5 = .ok (.aload_n 0, 1) := by decide +kernel
theorem dX5_missOf_6 : decode cX5_missOf 6 = .ok (.invokevirtual 55, 3) := by decide +kernel
theorem dX5_missOf_9 : decode cX5_missOf 9 = .ok (.if_icmp .ge 21, 3) := by decide +kernel
theorem dX5_missOf_12 : decode cX5_missOf 12 = .ok (.iload_n 1, 1) := by decide +kernel
theorem dX5_missOf_13 : decode cX5_missOf 13 = .ok (.aload_n 0, 1) := by decide +kernel
theorem dX5_missOf_14 : decode cX5_missOf 14 = .ok (.getfield 9, 3) := by decide +kernel
theorem dX5_missOf_17 : decode cX5_missOf 17 = .ok (.arraylength, 1) := by decide +kernel
theorem dX5_missOf_18 : decode cX5_missOf 18 = .ok (.if_icmp .ge 12, 3) := by decide +kernel
theorem dX5_missOf_21 : decode cX5_missOf 21 = .ok (.aload_n 0, 1) := by decide +kernel
theorem dX5_missOf_22 : decode cX5_missOf 22 = .ok (.getfield 9, 3) := by decide +kernel
theorem dX5_missOf_25 : decode cX5_missOf 25 = .ok (.iload_n 1, 1) := by decide +kernel
theorem dX5_missOf_26 : decode cX5_missOf 26 = .ok (.iaload, 1) := by decide +kernel
theorem dX5_missOf_27 : decode cX5_missOf 27 = .ok (.goto 4, 3) := by decide +kernel
theorem dX5_missOf_30 : decode cX5_missOf 30 = .ok (.iconst 0, 1) := by decide +kernel
theorem dX5_missOf_31 : decode cX5_missOf 31 = .ok (.ireturn, 1) := by decide +kernel
theorem dX5_putMiss_0 : decode cX5_putMiss 0 = .ok (.iload_n 1, 1) := by decide +kernel
theorem dX5_putMiss_1 : decode cX5_putMiss 1 = .ok (.ifCond .lt 19, 3) := by decide +kernel
theorem dX5_putMiss_4 : decode cX5_putMiss 4 = .ok (.iload_n 1, 1) := by decide +kernel
theorem dX5_putMiss_5 : decode cX5_putMiss 5 = .ok (.aload_n 0, 1) := by decide +kernel
theorem dX5_putMiss_6 : decode cX5_putMiss 6 = .ok (.getfield 9, 3) := by decide +kernel
theorem dX5_putMiss_9 : decode cX5_putMiss 9 = .ok (.arraylength, 1) := by decide +kernel
theorem dX5_putMiss_10 : decode cX5_putMiss 10 = .ok (.if_icmp .ge 10, 3) := by decide +kernel
theorem dX5_putMiss_13 : decode cX5_putMiss 13 = .ok (.aload_n 0, 1) := by decide +kernel
theorem dX5_putMiss_14 : decode cX5_putMiss 14 = .ok (.getfield 9, 3) := by decide +kernel
theorem dX5_putMiss_17 : decode cX5_putMiss 17 = .ok (.iload_n 1, 1) := by decide +kernel
theorem dX5_putMiss_18 : decode cX5_putMiss 18 = .ok (.iload_n 2, 1) := by decide +kernel
theorem dX5_putMiss_19 : decode cX5_putMiss 19 = .ok (.iastore, 1) := by decide +kernel
theorem dX5_putMiss_20 : decode cX5_putMiss 20 = .ok (.return_, 1) := by decide +kernel
theorem dX5_resistorAt_0 : decode cX5_resistorAt 0 = .ok (.iload_n 1, 1) := by decide +kernel
theorem dX5_resistorAt_1 : decode cX5_resistorAt 1 = .ok (.ifCond .lt 21, 3) := by decide +kernel
theorem dX5_resistorAt_4 : decode cX5_resistorAt 4 = .ok (.iload_n 1, 1) := by decide +kernel
theorem dX5_resistorAt_5 : decode cX5_resistorAt 5 = .ok (.aload_n 0, 1) := by decide +kernel
theorem dX5_resistorAt_6 : decode cX5_resistorAt 6 = .ok (.getfield 13, 3) := by decide +kernel
theorem dX5_resistorAt_9 : decode cX5_resistorAt 9 = .ok (.arraylength, 1) := by decide +kernel
theorem dX5_resistorAt_10 : decode cX5_resistorAt 10 = .ok (.if_icmp .ge 12, 3) := by decide +kernel
theorem dX5_resistorAt_13 : decode cX5_resistorAt 13 = .ok (.aload_n 0, 1) := by decide +kernel
theorem dX5_resistorAt_14 : decode cX5_resistorAt 14 = .ok (.getfield 13, 3) := by decide +kernel
theorem dX5_resistorAt_17 : decode cX5_resistorAt 17 = .ok (.iload_n 1, 1) := by decide +kernel
theorem dX5_resistorAt_18 : decode cX5_resistorAt 18 = .ok (.iaload, 1) := by decide +kernel
theorem dX5_resistorAt_19 : decode cX5_resistorAt 19 = .ok (.goto 4, 3) := by decide +kernel
theorem dX5_resistorAt_22 : decode cX5_resistorAt 22 = .ok (.iconst 0, 1) := by decide +kernel
theorem dX5_resistorAt_23 : decode cX5_resistorAt 23 = .ok (.ireturn, 1) := by decide +kernel
theorem dX5_putResistor_0 : decode cX5_putResistor 0 = .ok (.iload_n 1, 1) := by decide +kernel
theorem dX5_putResistor_1 : decode cX5_putResistor 1 = .ok (.ifCond .lt 19, 3) := by decide +kernel
theorem dX5_putResistor_4 : decode cX5_putResistor 4 = .ok (.iload_n 1, 1) := by decide +kernel
theorem dX5_putResistor_5 : decode cX5_putResistor 5 = .ok (.aload_n 0, 1) := by decide +kernel
theorem dX5_putResistor_6 : decode cX5_putResistor 6 = .ok (.getfield 13, 3) := by decide +kernel
theorem dX5_putResistor_9 : decode cX5_putResistor 9 = .ok (.arraylength, 1) := by decide +kernel
theorem dX5_putResistor_10 : decode cX5_putResistor 10 = .ok (.if_icmp .ge 10, 3) := by decide +kernel
theorem dX5_putResistor_13 : decode cX5_putResistor 13 = .ok (.aload_n 0, 1) := by decide +kernel
theorem dX5_putResistor_14 : decode cX5_putResistor 14 = .ok (.getfield 13, 3) := by decide +kernel
theorem dX5_putResistor_17 : decode cX5_putResistor 17 = .ok (.iload_n 1, 1) := by decide +kernel
theorem dX5_putResistor_18 : decode cX5_putResistor 18 = .ok (.iload_n 2, 1) := by decide +kernel
theorem dX5_putResistor_19 : decode cX5_putResistor 19 = .ok (.iastore, 1) := by decide +kernel
theorem dX5_putResistor_20 : decode cX5_putResistor 20 = .ok (.return_, 1) := by decide +kernel
theorem dX5_evenWeight_0 : decode cX5_evenWeight 0 = .ok (.aload_n 0, 1) := by decide +kernel
theorem dX5_evenWeight_1 : decode cX5_evenWeight 1 = .ok (.getfield 23, 3) := by decide +kernel
theorem dX5_evenWeight_4 : decode cX5_evenWeight 4 = .ok (.aload_n 0, 1) := by decide +kernel
theorem dX5_evenWeight_5 : decode cX5_evenWeight 5 = .ok (.getfield 35, 3) := by decide +kernel
theorem dX5_evenWeight_8 : decode cX5_evenWeight 8 = .ok (.ifCond .eq 16, 3) := by decide +kernel
theorem dX5_evenWeight_11 : decode cX5_evenWeight 11 = .ok (.iload_n 1, 1) := by decide +kernel
theorem dX5_evenWeight_12 : decode cX5_evenWeight 12 = .ok (.aload_n 0, 1) := by decide +kernel
theorem dX5_evenWeight_13 : decode cX5_evenWeight 13 = .ok (.getfield 19, 3) := by decide +kernel
theorem dX5_evenWeight_16 : decode cX5_evenWeight 16 = .ok (.iconst 2, 1) := by decide +kernel
theorem dX5_evenWeight_17 : decode cX5_evenWeight 17 = .ok (.isub, 1) := by decide +kernel
theorem dX5_evenWeight_18 : decode cX5_evenWeight 18 = .ok (.invokestatic 58, 3) := by decide +kernel
theorem dX5_evenWeight_21 : decode cX5_evenWeight 21 = .ok (.goto 4, 3) := by decide +kernel
theorem dX5_evenWeight_24 : decode cX5_evenWeight 24 = .ok (.iload_n 1, 1) := by decide +kernel
theorem dX5_evenWeight_25 : decode cX5_evenWeight 25 = .ok (.ishl, 1) := by decide +kernel
theorem dX5_evenWeight_26 : decode cX5_evenWeight 26 = .ok (.ireturn, 1) := by decide +kernel
theorem dX5_weightOf_0 : decode cX5_weightOf 0 = .ok (.iconst 0, 1) := by decide +kernel
theorem dX5_weightOf_1 : decode cX5_weightOf 1 = .ok (.aload_n 0, 1) := by decide +kernel
theorem dX5_weightOf_2 : decode cX5_weightOf 2 = .ok (.iload_n 1, 1) := by decide +kernel
theorem dX5_weightOf_3 : decode cX5_weightOf 3 = .ok (.invokevirtual 64, 3) := by decide +kernel
theorem dX5_weightOf_6 : decode cX5_weightOf 6 = .ok (.aload_n 0, 1) := by decide +kernel
theorem dX5_weightOf_7 : decode cX5_weightOf 7 = .ok (.iload_n 1, 1) := by decide +kernel
theorem dX5_weightOf_8 : decode cX5_weightOf 8 = .ok (.invokevirtual 68, 3) := by decide +kernel
theorem dX5_weightOf_11 : decode cX5_weightOf 11 = .ok (.iadd, 1) := by decide +kernel
theorem dX5_weightOf_12 : decode cX5_weightOf 12 = .ok (.invokestatic 71, 3) := by decide +kernel
theorem dX5_weightOf_15 : decode cX5_weightOf 15 = .ok (.ireturn, 1) := by decide +kernel
theorem dX5_takesPart_0 : decode cX5_takesPart 0 = .ok (.aload_n 0, 1) := by decide +kernel
theorem dX5_takesPart_1 : decode cX5_takesPart 1 = .ok (.getfield 35, 3) := by decide +kernel
theorem dX5_takesPart_4 : decode cX5_takesPart 4 = .ok (.ifCond .eq 38, 3) := by decide +kernel
theorem dX5_takesPart_7 : decode cX5_takesPart 7 = .ok (.iload_n 2, 1) := by decide +kernel
theorem dX5_takesPart_8 : decode cX5_takesPart 8 = .ok (.aload_n 0, 1) := by decide +kernel
theorem dX5_takesPart_9 : decode cX5_takesPart 9 = .ok (.getfield 19, 3) := by decide +kernel
theorem dX5_takesPart_12 : decode cX5_takesPart 12 = .ok (.iconst 2, 1) := by decide +kernel
theorem dX5_takesPart_13 : decode cX5_takesPart 13 = .ok (.isub, 1) := by decide +kernel
theorem dX5_takesPart_14 : decode cX5_takesPart 14 = .ok (.if_icmp .lt 28, 3) := by decide +kernel
theorem dX5_takesPart_17 : decode cX5_takesPart 17 = .ok (.iload_n 1, 1) := by decide +kernel
theorem dX5_takesPart_18 : decode cX5_takesPart 18 = .ok (.aload_n 0, 1) := by decide +kernel
theorem dX5_takesPart_19 : decode cX5_takesPart 19 = .ok (.getfield 19, 3) := by decide +kernel
theorem dX5_takesPart_22 : decode cX5_takesPart 22 = .ok (.iconst 2, 1) := by decide +kernel
theorem dX5_takesPart_23 : decode cX5_takesPart 23 = .ok (.isub, 1) := by decide +kernel
theorem dX5_takesPart_24 : decode cX5_takesPart 24 = .ok (.ishr, 1) := by decide +kernel
theorem dX5_takesPart_25 : decode cX5_takesPart 25 = .ok (.iload_n 2, 1) := by decide +kernel
theorem dX5_takesPart_26 : decode cX5_takesPart 26 = .ok (.aload_n 0, 1) := by decide +kernel
theorem dX5_takesPart_27 : decode cX5_takesPart 27 = .ok (.getfield 19, 3) := by decide +kernel
theorem dX5_takesPart_30 : decode cX5_takesPart 30 = .ok (.iconst 2, 1) := by decide +kernel
theorem dX5_takesPart_31 : decode cX5_takesPart 31 = .ok (.isub, 1) := by decide +kernel
theorem dX5_takesPart_32 : decode cX5_takesPart 32 = .ok (.isub, 1) := by decide +kernel
theorem dX5_takesPart_33 : decode cX5_takesPart 33 = .ok (.if_icmp .le 7, 3) := by decide +kernel
theorem dX5_takesPart_36 : decode cX5_takesPart 36 = .ok (.iconst 1, 1) := by decide +kernel
theorem dX5_takesPart_37 : decode cX5_takesPart 37 = .ok (.goto 4, 3) := by decide +kernel
theorem dX5_takesPart_40 : decode cX5_takesPart 40 = .ok (.iconst 0, 1) := by decide +kernel
theorem dX5_takesPart_41 : decode cX5_takesPart 41 = .ok (.ireturn, 1) := by decide +kernel
theorem dX5_takesPart_42 : decode cX5_takesPart 42 = .ok (.iload_n 1, 1) := by decide +kernel
theorem dX5_takesPart_43 : decode cX5_takesPart 43 = .ok (.iload_n 2, 1) := by decide +kernel
theorem dX5_takesPart_44 : decode cX5_takesPart 44 = .ok (.ishr, 1) := by decide +kernel
theorem dX5_takesPart_45 : decode cX5_takesPart 45 = .ok (.iconst 1, 1) := by decide +kernel
theorem dX5_takesPart_46 : decode cX5_takesPart 46 = .ok (.iand, 1) := by decide +kernel
theorem dX5_takesPart_47 : decode cX5_takesPart 47 = .ok (.iconst 1, 1) := by decide +kernel
theorem dX5_takesPart_48 : decode cX5_takesPart 48 = .ok (.if_icmp .ne 7, 3) := by decide +kernel
theorem dX5_takesPart_51 : decode cX5_takesPart 51 = .ok (.iconst 1, 1) := by decide +kernel
theorem dX5_takesPart_52 : decode cX5_takesPart 52 = .ok (.goto 4, 3) := by decide +kernel
theorem dX5_takesPart_55 : decode cX5_takesPart 55 = .ok (.iconst 0, 1) := by decide +kernel
theorem dX5_takesPart_56 : decode cX5_takesPart 56 = .ok (.ireturn, 1) := by decide +kernel
theorem dX6_init_0 : decode cX6_init 0 = .ok (.aload_n 0, 1) := by decide +kernel
theorem dX6_init_1 : decode cX6_init 1 = .ok (.invokespecial 3, 3) := by decide +kernel
theorem dX6_init_4 : decode cX6_init 4 = .ok (.aload_n 0, 1) := by decide +kernel
theorem dX6_init_5 : decode cX6_init 5 = .ok (.bipush 64, 2) := by decide +kernel
theorem dX6_init_7 : decode cX6_init 7 = .ok (.newarray .int, 2) := by decide +kernel
theorem dX6_init_9 : decode cX6_init 9 = .ok (.putfield 11, 3) := by decide +kernel
theorem dX6_init_12 : decode cX6_init 12 = .ok (.aload_n 0, 1) := by decide +kernel
theorem dX6_init_13 : decode cX6_init 13 = .ok (.iconst 0, 1) := by decide +kernel
theorem dX6_init_14 : decode cX6_init 14 = .ok (.putfield 15, 3) := by decide +kernel
theorem dX6_init_17 : decode cX6_init 17 = .ok (.aload_n 0, 1) := by decide +kernel
theorem dX6_init_18 : decode cX6_init 18 = .ok (.bipush (-4), 2) := by decide +kernel
theorem dX6_init_20 : decode cX6_init 20 = .ok (.putfield 19, 3) := by decide +kernel
theorem dX6_init_23 : decode cX6_init 23 = .ok (.return_, 1) := by decide +kernel
theorem dX6_isNothing_0 : decode cX6_isNothing 0 = .ok (.aload_n 0, 1) := by decide +kernel
theorem dX6_isNothing_1 : decode cX6_isNothing 1 = .ok (.getfield 19, 3) := by decide +kernel
theorem dX6_isNothing_4 : decode cX6_isNothing 4 = .ok (.bipush (-4), 2) := by decide +kernel
theorem dX6_isNothing_6 : decode cX6_isNothing 6 = .ok (.if_icmp .ne 7, 3) := by decide +kernel
theorem dX6_isNothing_9 : decode cX6_isNothing 9 = .ok (.iconst 1, 1) := by decide +kernel
theorem dX6_isNothing_10 : decode cX6_isNothing 10 = .ok (.goto 4, 3) := by decide +kernel
theorem dX6_isNothing_13 : decode cX6_isNothing 13 = .ok (.iconst 0, 1) := by decide +kernel
theorem dX6_isNothing_14 : decode cX6_isNothing 14 = .ok (.ireturn, 1) := by decide +kernel
theorem dX6_renew_0 : decode cX6_renew 0 = .ok (.aload_n 0, 1) := by decide +kernel
theorem dX6_renew_1 : decode cX6_renew 1 = .ok (.iload_n 1, 1) := by decide +kernel
theorem dX6_renew_2 : decode cX6_renew 2 = .ok (.putfield 15, 3) := by decide +kernel
theorem dX6_renew_5 : decode cX6_renew 5 = .ok (.aload_n 0, 1) := by decide +kernel
theorem dX6_renew_6 : decode cX6_renew 6 = .ok (.iload_n 2, 1) := by decide +kernel
theorem dX6_renew_7 : decode cX6_renew 7 = .ok (.putfield 19, 3) := by decide +kernel
theorem dX6_renew_10 : decode cX6_renew 10 = .ok (.aload_n 0, 1) := by decide +kernel
theorem dX6_renew_11 : decode cX6_renew 11 = .ok (.getfield 11, 3) := by decide +kernel
theorem dX6_renew_14 : decode cX6_renew 14 = .ok (.iconst 0, 1) := by decide +kernel
theorem dX6_renew_15 : decode cX6_renew 15 = .ok (.invokestatic 22, 3) := by decide +kernel
theorem dX6_renew_18 : decode cX6_renew 18 = .ok (.return_, 1) := by decide +kernel
theorem dX6_hasCell_0 : decode cX6_hasCell 0 = .ok (.iload_n 1, 1) := by decide +kernel
theorem dX6_hasCell_1 : decode cX6_hasCell 1 = .ok (.ifCond .lt 24, 3) := by decide +kernel
theorem dX6_hasCell_4 : decode cX6_hasCell 4 = .ok (.iload_n 1, 1) := by decide +kernel
theorem dX6_hasCell_5 : decode cX6_hasCell 5 = .ok (.aload_n 0, 1) := by decide +kernel
theorem dX6_hasCell_6 : decode cX6_hasCell 6 = .ok (.getfield 19, 3) := by decide +kernel
theorem dX6_hasCell_9 : decode cX6_hasCell 9 = .ok (.if_icmp .ge 16, 3) := by decide +kernel
theorem dX6_hasCell_12 : decode cX6_hasCell 12 = .ok (.iload_n 1, 1) := by decide +kernel
theorem dX6_hasCell_13 : decode cX6_hasCell 13 = .ok (.aload_n 0, 1) := by decide +kernel
theorem dX6_hasCell_14 : decode cX6_hasCell 14 = .ok (.getfield 11, 3) := by decide +kernel
theorem dX6_hasCell_17 : decode cX6_hasCell 17 = .ok (.arraylength, 1) := by decide +kernel
theorem dX6_hasCell_18 : decode cX6_hasCell 18 = .ok (.if_icmp .ge 7, 3) := by decide +kernel
theorem dX6_hasCell_21 : decode cX6_hasCell 21 = .ok (.iconst 1, 1) := by decide +kernel
theorem dX6_hasCell_22 : decode cX6_hasCell 22 = .ok (.goto 4, 3) := by decide +kernel
theorem dX6_hasCell_25 : decode cX6_hasCell 25 = .ok (.iconst 0, 1) := by decide +kernel
theorem dX6_hasCell_26 : decode cX6_hasCell 26 = .ok (.ireturn, 1) := by decide +kernel
theorem dX6_cellAt_0 : decode cX6_cellAt 0 = .ok (.aload_n 0, 1) := by decide +kernel
theorem dX6_cellAt_1 : decode cX6_cellAt 1 = .ok (.iload_n 1, 1) := by decide +kernel
theorem dX6_cellAt_2 : decode cX6_cellAt 2 = .ok (.invokevirtual 28, 3) := by decide +kernel
theorem dX6_cellAt_5 : decode cX6_cellAt 5 = .ok (.ifCond .eq 12, 3) := by decide +kernel
theorem dX6_cellAt_8 : decode cX6_cellAt 8 = .ok (.aload_n 0, 1) := by decide +kernel
theorem dX6_cellAt_9 : decode cX6_cellAt 9 = .ok (.getfield 11, 3) := by decide +kernel
theorem dX6_cellAt_12 : decode cX6_cellAt 12 = .ok (.iload_n 1, 1) := by decide +kernel
theorem dX6_cellAt_13 : decode cX6_cellAt 13 = .ok (.iaload, 1) := by decide +kernel
theorem dX6_cellAt_14 : decode cX6_cellAt 14 = .ok (.goto 4, 3) := by decide +kernel
theorem dX6_cellAt_17 : decode cX6_cellAt 17 = .ok (.iconst 0, 1) := by decide +kernel
theorem dX6_cellAt_18 : decode cX6_cellAt 18 = .ok (.ireturn, 1) := by decide +kernel
theorem dX6_putCell_0 : decode cX6_putCell 0 = .ok (.aload_n 0, 1) := by decide +kernel
theorem dX6_putCell_1 : decode cX6_putCell 1 = .ok (.iload_n 1, 1) := by decide +kernel
theorem dX6_putCell_2 : decode cX6_putCell 2 = .ok (.invokevirtual 28, 3) := by decide +kernel
theorem dX6_putCell_5 : decode cX6_putCell 5 = .ok (.ifCond .eq 14, 3) := by decide +kernel
theorem dX6_putCell_8 : decode cX6_putCell 8 = .ok (.aload_n 0, 1) := by decide +kernel
theorem dX6_putCell_9 : decode cX6_putCell 9 = .ok (.getfield 11, 3) := by decide +kernel
theorem dX6_putCell_12 : decode cX6_putCell 12 = .ok (.iload_n 1, 1) := by decide +kernel
theorem dX6_putCell_13 : decode cX6_putCell 13 = .ok (.aload_n 0, 1) := by decide +kernel
theorem dX6_putCell_14 : decode cX6_putCell 14 = .ok (.iload_n 2, 1) := by decide +kernel
theorem dX6_putCell_15 : decode cX6_putCell 15 = .ok (.invokevirtual 32, 3) := by decide +kernel
theorem dX6_putCell_18 : decode cX6_putCell 18 = .ok (.iastore, 1) := by decide +kernel
theorem dX6_putCell_19 : decode cX6_putCell 19 = .ok (.return_, 1) := by decide +kernel
theorem dX6_lowestBits_0 : decode cX6_lowestBits 0 = .ok (.aload_n 0, 1) := by decide +kernel
theorem dX6_lowestBits_1 : decode cX6_lowestBits 1 = .ok (.getfield 15, 3) := by decide +kernel
theorem dX6_lowestBits_4 : decode cX6_lowestBits 4 = .ok (.ifCond .ne 6, 3) := by decide +kernel
theorem dX6_lowestBits_7 : decode cX6_lowestBits 7 = .ok (.iload_n 1, 1) := by decide +kernel
theorem dX6_lowestBits_8 : decode cX6_lowestBits 8 = .ok (.i2b, 1) := by decide +kernel
theorem dX6_lowestBits_9 : decode cX6_lowestBits 9 = .ok (.ireturn, 1) := by decide +kernel
theorem dX6_lowestBits_10 : decode cX6_lowestBits 10 = .ok (.aload_n 0, 1) := by decide +kernel
theorem dX6_lowestBits_11 : decode cX6_lowestBits 11 = .ok (.getfield 15, 3) := by decide +kernel
theorem dX6_lowestBits_14 : decode cX6_lowestBits 14 = .ok (.iconst 1, 1) := by decide +kernel
theorem dX6_lowestBits_15 : decode cX6_lowestBits 15 = .ok (.if_icmp .ne 8, 3) := by decide +kernel
theorem dX6_lowestBits_18 : decode cX6_lowestBits 18 = .ok (.iload_n 1, 1) := by decide +kernel
theorem dX6_lowestBits_19 : decode cX6_lowestBits 19 = .ok (.i2s, 1) := by decide +kernel
theorem dX6_lowestBits_20 : decode cX6_lowestBits 20 = .ok (.goto 4, 3) := by decide +kernel
theorem dX6_lowestBits_23 : decode cX6_lowestBits 23 = .ok (.iload_n 1, 1) := by decide +kernel
theorem dX6_lowestBits_24 : decode cX6_lowestBits 24 = .ok (.ireturn, 1) := by decide +kernel
theorem dX7_init_0 : decode cX7_init 0 = .ok (.aload_n 0, 1) := by decide +kernel
theorem dX7_init_1 : decode cX7_init 1 = .ok (.invokespecial 1, 3) := by decide +kernel
theorem dX7_init_4 : decode cX7_init 4 = .ok (.aload_n 0, 1) := by decide +kernel
theorem dX7_init_5 : decode cX7_init 5 = .ok (.iconst 0, 1) := by decide +kernel
theorem dX7_init_6 : decode cX7_init 6 = .ok (.putfield 7, 3) := by decide +kernel
theorem dX7_init_9 : decode cX7_init 9 = .ok (.aload_n 0, 1) := by decide +kernel
theorem dX7_init_10 : decode cX7_init 10 = .ok (.iconst (-1), 1) := by decide +kernel
theorem dX7_init_11 : decode cX7_init 11 = .ok (.putfield 13, 3) := by decide +kernel
theorem dX7_init_14 : decode cX7_init 14 = .ok (.return_, 1) := by decide +kernel
theorem dX7_cutLow_0 : decode cX7_cutLow 0 = .ok (.aload_n 0, 1) := by decide +kernel
theorem dX7_cutLow_1 : decode cX7_cutLow 1 = .ok (.aload_n 0, 1) := by decide +kernel
theorem dX7_cutLow_2 : decode cX7_cutLow 2 = .ok (.getfield 7, 3) := by decide +kernel
theorem dX7_cutLow_5 : decode cX7_cutLow 5 = .ok (.iload_n 1, 1) := by decide +kernel
theorem dX7_cutLow_6 : decode cX7_cutLow 6 = .ok (.invokestatic 16, 3) := by decide +kernel
theorem dX7_cutLow_9 : decode cX7_cutLow 9 = .ok (.putfield 7, 3) := by decide +kernel
theorem dX7_cutLow_12 : decode cX7_cutLow 12 = .ok (.return_, 1) := by decide +kernel
theorem dX7_cutHigh_0 : decode cX7_cutHigh 0 = .ok (.aload_n 0, 1) := by decide +kernel
theorem dX7_cutHigh_1 : decode cX7_cutHigh 1 = .ok (.aload_n 0, 1) := by decide +kernel
theorem dX7_cutHigh_2 : decode cX7_cutHigh 2 = .ok (.getfield 13, 3) := by decide +kernel
theorem dX7_cutHigh_5 : decode cX7_cutHigh 5 = .ok (.iload_n 1, 1) := by decide +kernel
theorem dX7_cutHigh_6 : decode cX7_cutHigh 6 = .ok (.invokestatic 22, 3) := by decide +kernel
theorem dX7_cutHigh_9 : decode cX7_cutHigh 9 = .ok (.putfield 13, 3) := by decide +kernel
theorem dX7_cutHigh_12 : decode cX7_cutHigh 12 = .ok (.return_, 1) := by decide +kernel
theorem dX7_volts_0 : decode cX7_volts 0 = .ok (.aload_n 0, 1) := by decide +kernel
theorem dX7_volts_1 : decode cX7_volts 1 = .ok (.getfield 13, 3) := by decide +kernel
theorem dX7_volts_4 : decode cX7_volts 4 = .ok (.aload_n 0, 1) := by decide +kernel
theorem dX7_volts_5 : decode cX7_volts 5 = .ok (.getfield 7, 3) := by decide +kernel
theorem dX7_volts_8 : decode cX7_volts 8 = .ok (.if_icmp .ge 7, 3) := by decide +kernel
theorem dX7_volts_11 : decode cX7_volts 11 = .ok (.iconst 0, 1) := by decide +kernel
theorem dX7_volts_12 : decode cX7_volts 12 = .ok (.goto 14, 3) := by decide +kernel
theorem dX7_volts_15 : decode cX7_volts 15 = .ok (.aload_n 0, 1) := by decide +kernel
theorem dX7_volts_16 : decode cX7_volts 16 = .ok (.getfield 13, 3) := by decide +kernel
theorem dX7_volts_19 : decode cX7_volts 19 = .ok (.aload_n 0, 1) := by decide +kernel
theorem dX7_volts_20 : decode cX7_volts 20 = .ok (.getfield 7, 3) := by decide +kernel
theorem dX7_volts_23 : decode cX7_volts 23 = .ok (.isub, 1) := by decide +kernel
theorem dX7_volts_24 : decode cX7_volts 24 = .ok (.iconst 1, 1) := by decide +kernel
theorem dX7_volts_25 : decode cX7_volts 25 = .ok (.iadd, 1) := by decide +kernel
theorem dX7_volts_26 : decode cX7_volts 26 = .ok (.ireturn, 1) := by decide +kernel
theorem dX8_init_0 : decode cX8_init 0 = .ok (.aload_n 0, 1) := by decide +kernel
theorem dX8_init_1 : decode cX8_init 1 = .ok (.invokespecial 3, 3) := by decide +kernel
theorem dX8_init_4 : decode cX8_init 4 = .ok (.aload_n 0, 1) := by decide +kernel
theorem dX8_init_5 : decode cX8_init 5 = .ok (.sipush 256, 3) := by decide +kernel
theorem dX8_init_8 : decode cX8_init 8 = .ok (.newarray .int, 2) := by decide +kernel
theorem dX8_init_10 : decode cX8_init 10 = .ok (.putfield 11, 3) := by decide +kernel
theorem dX8_init_13 : decode cX8_init 13 = .ok (.aload_n 0, 1) := by decide +kernel
theorem dX8_init_14 : decode cX8_init 14 = .ok (.new 15, 3) := by decide +kernel
theorem dX8_init_17 : decode cX8_init 17 = .ok (.dup, 1) := by decide +kernel
theorem dX8_init_18 : decode cX8_init 18 = .ok (.invokespecial 17, 3) := by decide +kernel
theorem dX8_init_21 : decode cX8_init 21 = .ok (.putfield 18, 3) := by decide +kernel
theorem dX8_init_24 : decode cX8_init 24 = .ok (.aload_n 0, 1) := by decide +kernel
theorem dX8_init_25 : decode cX8_init 25 = .ok (.aload_n 1, 1) := by decide +kernel
theorem dX8_init_26 : decode cX8_init 26 = .ok (.putfield 22, 3) := by decide +kernel
theorem dX8_init_29 : decode cX8_init 29 = .ok (.aload_n 0, 1) := by decide +kernel
theorem dX8_init_30 : decode cX8_init 30 = .ok (.invokevirtual 26, 3) := by decide +kernel
theorem dX8_init_33 : decode cX8_init 33 = .ok (.return_, 1) := by decide +kernel
theorem dX8_reckonOuts_0 : decode cX8_reckonOuts 0 = .ok (.aload_n 0, 1) := by decide +kernel
theorem dX8_reckonOuts_1 : decode cX8_reckonOuts 1 = .ok (.getfield 22, 3) := by decide +kernel
theorem dX8_reckonOuts_4 : decode cX8_reckonOuts 4 = .ok (.invokevirtual 29, 3) := by decide +kernel
theorem dX8_reckonOuts_7 : decode cX8_reckonOuts 7 = .ok (.istore_n 1, 1) := by decide +kernel
theorem dX8_reckonOuts_8 : decode cX8_reckonOuts 8 = .ok (.iconst 0, 1) := by decide +kernel
theorem dX8_reckonOuts_9 : decode cX8_reckonOuts 9 = .ok (.istore_n 2, 1) := by decide +kernel
theorem dX8_reckonOuts_10 : decode cX8_reckonOuts 10 = .ok (.iload_n 2, 1) := by decide +kernel
theorem dX8_reckonOuts_11 : decode cX8_reckonOuts 11 = .ok (.iload_n 1, 1) := by decide +kernel
theorem dX8_reckonOuts_12 : decode cX8_reckonOuts 12 = .ok (.if_icmp .ge 29, 3) := by decide +kernel
theorem dX8_reckonOuts_15 : decode cX8_reckonOuts 15 = .ok (.iload_n 2, 1) := by decide +kernel
theorem dX8_reckonOuts_16 : decode cX8_reckonOuts 16 = .ok (.aload_n 0, 1) := by decide +kernel
theorem dX8_reckonOuts_17 : decode cX8_reckonOuts 17 = .ok (.getfield 11, 3) := by decide +kernel
theorem dX8_reckonOuts_20 : decode cX8_reckonOuts 20 = .ok (.arraylength, 1) := by decide +kernel
theorem dX8_reckonOuts_21 : decode cX8_reckonOuts 21 = .ok (.if_icmp .ge 20, 3) := by decide +kernel
theorem dX8_reckonOuts_24 : decode cX8_reckonOuts 24 = .ok (.aload_n 0, 1) := by decide +kernel
theorem dX8_reckonOuts_25 : decode cX8_reckonOuts 25 = .ok (.getfield 11, 3) := by decide +kernel
theorem dX8_reckonOuts_28 : decode cX8_reckonOuts 28 = .ok (.iload_n 2, 1) := by decide +kernel
theorem dX8_reckonOuts_29 : decode cX8_reckonOuts 29 = .ok (.aload_n 0, 1) := by decide +kernel
theorem dX8_reckonOuts_30 : decode cX8_reckonOuts 30 = .ok (.iload_n 2, 1) := by decide +kernel
theorem dX8_reckonOuts_31 : decode cX8_reckonOuts 31 = .ok (.invokevirtual 35, 3) := by decide +kernel
theorem dX8_reckonOuts_34 : decode cX8_reckonOuts 34 = .ok (.iastore, 1) := by decide +kernel
theorem dX8_reckonOuts_35 : decode cX8_reckonOuts 35 = .ok (.iinc 2 1, 3) := by decide +kernel
theorem dX8_reckonOuts_38 : decode cX8_reckonOuts 38 = .ok (.goto (-28), 3) := by decide +kernel
theorem dX8_reckonOuts_41 : decode cX8_reckonOuts 41 = .ok (.return_, 1) := by decide +kernel
theorem dX8_sumOf_0 : decode cX8_sumOf 0 = .ok (.aload_n 0, 1) := by decide +kernel
theorem dX8_sumOf_1 : decode cX8_sumOf 1 = .ok (.getfield 22, 3) := by decide +kernel
theorem dX8_sumOf_4 : decode cX8_sumOf 4 = .ok (.getfield 39, 3) := by decide +kernel
theorem dX8_sumOf_7 : decode cX8_sumOf 7 = .ok (.istore_n 2, 1) := by decide +kernel
theorem dX8_sumOf_8 : decode cX8_sumOf 8 = .ok (.aload_n 0, 1) := by decide +kernel
theorem dX8_sumOf_9 : decode cX8_sumOf 9 = .ok (.getfield 22, 3) := by decide +kernel
theorem dX8_sumOf_12 : decode cX8_sumOf 12 = .ok (.invokevirtual 43, 3) := by decide +kernel
theorem dX8_sumOf_15 : decode cX8_sumOf 15 = .ok (.istore_n 3, 1) := by decide +kernel
theorem dX8_sumOf_16 : decode cX8_sumOf 16 = .ok (.iconst 0, 1) := by decide +kernel
theorem dX8_sumOf_17 : decode cX8_sumOf 17 = .ok (.istore 4, 2) := by decide +kernel
theorem dX8_sumOf_19 : decode cX8_sumOf 19 = .ok (.iload 4, 2) := by decide +kernel
theorem dX8_sumOf_21 : decode cX8_sumOf 21 = .ok (.iload_n 3, 1) := by decide +kernel
theorem dX8_sumOf_22 : decode cX8_sumOf 22 = .ok (.if_icmp .ge 34, 3) := by decide +kernel
theorem dX8_sumOf_25 : decode cX8_sumOf 25 = .ok (.aload_n 0, 1) := by decide +kernel
theorem dX8_sumOf_26 : decode cX8_sumOf 26 = .ok (.getfield 22, 3) := by decide +kernel
theorem dX8_sumOf_29 : decode cX8_sumOf 29 = .ok (.iload_n 1, 1) := by decide +kernel
theorem dX8_sumOf_30 : decode cX8_sumOf 30 = .ok (.iload 4, 2) := by decide +kernel
theorem dX8_sumOf_32 : decode cX8_sumOf 32 = .ok (.invokevirtual 46, 3) := by decide +kernel
theorem dX8_sumOf_35 : decode cX8_sumOf 35 = .ok (.ifCond .eq 15, 3) := by decide +kernel
theorem dX8_sumOf_38 : decode cX8_sumOf 38 = .ok (.iload_n 2, 1) := by decide +kernel
theorem dX8_sumOf_39 : decode cX8_sumOf 39 = .ok (.aload_n 0, 1) := by decide +kernel
theorem dX8_sumOf_40 : decode cX8_sumOf 40 = .ok (.getfield 22, 3) := by decide +kernel
theorem dX8_sumOf_43 : decode cX8_sumOf 43 = .ok (.iload 4, 2) := by decide +kernel
theorem dX8_sumOf_45 : decode cX8_sumOf 45 = .ok (.invokevirtual 50, 3) := by decide +kernel
theorem dX8_sumOf_48 : decode cX8_sumOf 48 = .ok (.iadd, 1) := by decide +kernel
theorem dX8_sumOf_49 : decode cX8_sumOf 49 = .ok (.istore_n 2, 1) := by decide +kernel
theorem dX8_sumOf_50 : decode cX8_sumOf 50 = .ok (.iinc 4 1, 3) := by decide +kernel
theorem dX8_sumOf_53 : decode cX8_sumOf 53 = .ok (.goto (-34), 3) := by decide +kernel
theorem dX8_sumOf_56 : decode cX8_sumOf 56 = .ok (.iload_n 2, 1) := by decide +kernel
theorem dX8_sumOf_57 : decode cX8_sumOf 57 = .ok (.ireturn, 1) := by decide +kernel
theorem dX8_outOf_0 : decode cX8_outOf 0 = .ok (.iload_n 1, 1) := by decide +kernel
theorem dX8_outOf_1 : decode cX8_outOf 1 = .ok (.ifCond .lt 21, 3) := by decide +kernel
theorem dX8_outOf_4 : decode cX8_outOf 4 = .ok (.iload_n 1, 1) := by decide +kernel
theorem dX8_outOf_5 : decode cX8_outOf 5 = .ok (.aload_n 0, 1) := by decide +kernel
theorem dX8_outOf_6 : decode cX8_outOf 6 = .ok (.getfield 11, 3) := by decide +kernel
theorem dX8_outOf_9 : decode cX8_outOf 9 = .ok (.arraylength, 1) := by decide +kernel
theorem dX8_outOf_10 : decode cX8_outOf 10 = .ok (.if_icmp .ge 12, 3) := by decide +kernel
theorem dX8_outOf_13 : decode cX8_outOf 13 = .ok (.aload_n 0, 1) := by decide +kernel
theorem dX8_outOf_14 : decode cX8_outOf 14 = .ok (.getfield 11, 3) := by decide +kernel
theorem dX8_outOf_17 : decode cX8_outOf 17 = .ok (.iload_n 1, 1) := by decide +kernel
theorem dX8_outOf_18 : decode cX8_outOf 18 = .ok (.iaload, 1) := by decide +kernel
theorem dX8_outOf_19 : decode cX8_outOf 19 = .ok (.goto 4, 3) := by decide +kernel
theorem dX8_outOf_22 : decode cX8_outOf 22 = .ok (.iconst 0, 1) := by decide +kernel
theorem dX8_outOf_23 : decode cX8_outOf 23 = .ok (.ireturn, 1) := by decide +kernel
theorem dX8_lastCode_0 : decode cX8_lastCode 0 = .ok (.aload_n 0, 1) := by decide +kernel
theorem dX8_lastCode_1 : decode cX8_lastCode 1 = .ok (.getfield 22, 3) := by decide +kernel
theorem dX8_lastCode_4 : decode cX8_lastCode 4 = .ok (.invokevirtual 29, 3) := by decide +kernel
theorem dX8_lastCode_7 : decode cX8_lastCode 7 = .ok (.iconst 1, 1) := by decide +kernel
theorem dX8_lastCode_8 : decode cX8_lastCode 8 = .ok (.isub, 1) := by decide +kernel
theorem dX8_lastCode_9 : decode cX8_lastCode 9 = .ok (.ireturn, 1) := by decide +kernel
theorem dX8_fullScale_0 : decode cX8_fullScale 0 = .ok (.aload_n 0, 1) := by decide +kernel
theorem dX8_fullScale_1 : decode cX8_fullScale 1 = .ok (.aload_n 0, 1) := by decide +kernel
theorem dX8_fullScale_2 : decode cX8_fullScale 2 = .ok (.invokevirtual 53, 3) := by decide +kernel
theorem dX8_fullScale_5 : decode cX8_fullScale 5 = .ok (.invokevirtual 56, 3) := by decide +kernel
theorem dX8_fullScale_8 : decode cX8_fullScale 8 = .ok (.aload_n 0, 1) := by decide +kernel
theorem dX8_fullScale_9 : decode cX8_fullScale 9 = .ok (.iconst 0, 1) := by decide +kernel
theorem dX8_fullScale_10 : decode cX8_fullScale 10 = .ok (.invokevirtual 56, 3) := by decide +kernel
theorem dX8_fullScale_13 : decode cX8_fullScale 13 = .ok (.isub, 1) := by decide +kernel
theorem dX8_fullScale_14 : decode cX8_fullScale 14 = .ok (.ireturn, 1) := by decide +kernel
theorem dX8_stepOf_0 : decode cX8_stepOf 0 = .ok (.aload_n 0, 1) := by decide +kernel
theorem dX8_stepOf_1 : decode cX8_stepOf 1 = .ok (.iload_n 1, 1) := by decide +kernel
theorem dX8_stepOf_2 : decode cX8_stepOf 2 = .ok (.iconst 1, 1) := by decide +kernel
theorem dX8_stepOf_3 : decode cX8_stepOf 3 = .ok (.iadd, 1) := by decide +kernel
theorem dX8_stepOf_4 : decode cX8_stepOf 4 = .ok (.invokevirtual 56, 3) := by decide +kernel
theorem dX8_stepOf_7 : decode cX8_stepOf 7 = .ok (.aload_n 0, 1) := by decide +kernel
theorem dX8_stepOf_8 : decode cX8_stepOf 8 = .ok (.iload_n 1, 1) := by decide +kernel
theorem dX8_stepOf_9 : decode cX8_stepOf 9 = .ok (.invokevirtual 56, 3) := by decide +kernel
theorem dX8_stepOf_12 : decode cX8_stepOf 12 = .ok (.isub, 1) := by decide +kernel
theorem dX8_stepOf_13 : decode cX8_stepOf 13 = .ok (.ireturn, 1) := by decide +kernel
theorem dX8_wideTop_0 : decode cX8_wideTop 0 = .ok (.aload_n 0, 1) := by decide +kernel
theorem dX8_wideTop_1 : decode cX8_wideTop 1 = .ok (.iload_n 1, 1) := by decide +kernel
theorem dX8_wideTop_2 : decode cX8_wideTop 2 = .ok (.invokevirtual 59, 3) := by decide +kernel
theorem dX8_wideTop_5 : decode cX8_wideTop 5 = .ok (.i2l, 1) := by decide +kernel
theorem dX8_wideTop_6 : decode cX8_wideTop 6 = .ok (.aload_n 0, 1) := by decide +kernel
theorem dX8_wideTop_7 : decode cX8_wideTop 7 = .ok (.invokevirtual 53, 3) := by decide +kernel
theorem dX8_wideTop_10 : decode cX8_wideTop 10 = .ok (.i2l, 1) := by decide +kernel
theorem dX8_wideTop_11 : decode cX8_wideTop 11 = .ok (.lmul, 1) := by decide +kernel
theorem dX8_wideTop_12 : decode cX8_wideTop 12 = .ok (.aload_n 0, 1) := by decide +kernel
theorem dX8_wideTop_13 : decode cX8_wideTop 13 = .ok (.invokevirtual 62, 3) := by decide +kernel
theorem dX8_wideTop_16 : decode cX8_wideTop 16 = .ok (.i2l, 1) := by decide +kernel
theorem dX8_wideTop_17 : decode cX8_wideTop 17 = .ok (.lsub, 1) := by decide +kernel
theorem dX8_wideTop_18 : decode cX8_wideTop 18 = .ok (.lreturn, 1) := by decide +kernel
theorem dX8_bentTop_0 : decode cX8_bentTop 0 = .ok (.aload_n 0, 1) := by decide +kernel
theorem dX8_bentTop_1 : decode cX8_bentTop 1 = .ok (.iload_n 1, 1) := by decide +kernel
theorem dX8_bentTop_2 : decode cX8_bentTop 2 = .ok (.invokevirtual 56, 3) := by decide +kernel
theorem dX8_bentTop_5 : decode cX8_bentTop 5 = .ok (.aload_n 0, 1) := by decide +kernel
theorem dX8_bentTop_6 : decode cX8_bentTop 6 = .ok (.iconst 0, 1) := by decide +kernel
theorem dX8_bentTop_7 : decode cX8_bentTop 7 = .ok (.invokevirtual 56, 3) := by decide +kernel
theorem dX8_bentTop_10 : decode cX8_bentTop 10 = .ok (.isub, 1) := by decide +kernel
theorem dX8_bentTop_11 : decode cX8_bentTop 11 = .ok (.i2l, 1) := by decide +kernel
theorem dX8_bentTop_12 : decode cX8_bentTop 12 = .ok (.aload_n 0, 1) := by decide +kernel
theorem dX8_bentTop_13 : decode cX8_bentTop 13 = .ok (.invokevirtual 53, 3) := by decide +kernel
theorem dX8_bentTop_16 : decode cX8_bentTop 16 = .ok (.i2l, 1) := by decide +kernel
theorem dX8_bentTop_17 : decode cX8_bentTop 17 = .ok (.lmul, 1) := by decide +kernel
theorem dX8_bentTop_18 : decode cX8_bentTop 18 = .ok (.iload_n 1, 1) := by decide +kernel
theorem dX8_bentTop_19 : decode cX8_bentTop 19 = .ok (.i2l, 1) := by decide +kernel
theorem dX8_bentTop_20 : decode cX8_bentTop 20 = .ok (.aload_n 0, 1) := by decide +kernel
theorem dX8_bentTop_21 : decode cX8_bentTop 21 = .ok (.invokevirtual 62, 3) := by decide +kernel
theorem dX8_bentTop_24 : decode cX8_bentTop 24 = .ok (.i2l, 1) := by decide +kernel
theorem dX8_bentTop_25 : decode cX8_bentTop 25 = .ok (.lmul, 1) := by decide +kernel
theorem dX8_bentTop_26 : decode cX8_bentTop 26 = .ok (.lsub, 1) := by decide +kernel
theorem dX8_bentTop_27 : decode cX8_bentTop 27 = .ok (.lreturn, 1) := by decide +kernel
theorem dX8_unevenSize_0 : decode cX8_unevenSize 0 = .ok (.iload_n 1, 1) := by decide +kernel
theorem dX8_unevenSize_1 : decode cX8_unevenSize 1 = .ok (.ifCond .ne 11, 3) := by decide +kernel
theorem dX8_unevenSize_4 : decode cX8_unevenSize 4 = .ok (.aload_n 0, 1) := by decide +kernel
theorem dX8_unevenSize_5 : decode cX8_unevenSize 5 = .ok (.iload_n 2, 1) := by decide +kernel
theorem dX8_unevenSize_6 : decode cX8_unevenSize 6 = .ok (.invokevirtual 65, 3) := by decide +kernel
theorem dX8_unevenSize_9 : decode cX8_unevenSize 9 = .ok (.goto 8, 3) := by decide +kernel
theorem dX8_unevenSize_12 : decode cX8_unevenSize 12 = .ok (.aload_n 0, 1) := by decide +kernel
theorem dX8_unevenSize_13 : decode cX8_unevenSize 13 = .ok (.iload_n 2, 1) := by decide +kernel
theorem dX8_unevenSize_14 : decode cX8_unevenSize 14 = .ok (.invokevirtual 69, 3) := by decide +kernel
theorem dX8_unevenSize_17 : decode cX8_unevenSize 17 = .ok (.invokestatic 72, 3) := by decide +kernel
theorem dX8_unevenSize_20 : decode cX8_unevenSize 20 = .ok (.lreturn, 1) := by decide +kernel
theorem dX8_worstCode_0 : decode cX8_worstCode 0 = .ok (.iload_n 1, 1) := by decide +kernel
theorem dX8_worstCode_1 : decode cX8_worstCode 1 = .ok (.ifCond .ne 12, 3) := by decide +kernel
theorem dX8_worstCode_4 : decode cX8_worstCode 4 = .ok (.aload_n 0, 1) := by decide +kernel
theorem dX8_worstCode_5 : decode cX8_worstCode 5 = .ok (.invokevirtual 53, 3) := by decide +kernel
theorem dX8_worstCode_8 : decode cX8_worstCode 8 = .ok (.iconst 1, 1) := by decide +kernel
theorem dX8_worstCode_9 : decode cX8_worstCode 9 = .ok (.isub, 1) := by decide +kernel
theorem dX8_worstCode_10 : decode cX8_worstCode 10 = .ok (.goto 7, 3) := by decide +kernel
theorem dX8_worstCode_13 : decode cX8_worstCode 13 = .ok (.aload_n 0, 1) := by decide +kernel
theorem dX8_worstCode_14 : decode cX8_worstCode 14 = .ok (.invokevirtual 53, 3) := by decide +kernel
theorem dX8_worstCode_17 : decode cX8_worstCode 17 = .ok (.istore_n 2, 1) := by decide +kernel
theorem dX8_worstCode_18 : decode cX8_worstCode 18 = .ok (.iconst 0, 1) := by decide +kernel
theorem dX8_worstCode_19 : decode cX8_worstCode 19 = .ok (.istore_n 3, 1) := by decide +kernel
theorem dX8_worstCode_20 : decode cX8_worstCode 20 = .ok (.iconst 1, 1) := by decide +kernel
theorem dX8_worstCode_21 : decode cX8_worstCode 21 = .ok (.istore 4, 2) := by decide +kernel
theorem dX8_worstCode_23 : decode cX8_worstCode 23 = .ok (.iload 4, 2) := by decide +kernel
theorem dX8_worstCode_25 : decode cX8_worstCode 25 = .ok (.iload_n 2, 1) := by decide +kernel
theorem dX8_worstCode_26 : decode cX8_worstCode 26 = .ok (.if_icmp .gt 29, 3) := by decide +kernel
theorem dX8_worstCode_29 : decode cX8_worstCode 29 = .ok (.aload_n 0, 1) := by decide +kernel
theorem dX8_worstCode_30 : decode cX8_worstCode 30 = .ok (.iload_n 1, 1) := by decide +kernel
theorem dX8_worstCode_31 : decode cX8_worstCode 31 = .ok (.iload 4, 2) := by decide +kernel
theorem dX8_worstCode_33 : decode cX8_worstCode 33 = .ok (.invokevirtual 78, 3) := by decide +kernel
theorem dX8_worstCode_36 : decode cX8_worstCode 36 = .ok (.aload_n 0, 1) := by decide +kernel
theorem dX8_worstCode_37 : decode cX8_worstCode 37 = .ok (.iload_n 1, 1) := by decide +kernel
theorem dX8_worstCode_38 : decode cX8_worstCode 38 = .ok (.iload_n 3, 1) := by decide +kernel
theorem dX8_worstCode_39 : decode cX8_worstCode 39 = .ok (.invokevirtual 78, 3) := by decide +kernel
theorem dX8_worstCode_42 : decode cX8_worstCode 42 = .ok (.lcmp, 1) := by decide +kernel
theorem dX8_worstCode_43 : decode cX8_worstCode 43 = .ok (.ifCond .le 6, 3) := by decide +kernel
theorem dX8_worstCode_46 : decode cX8_worstCode 46 = .ok (.iload 4, 2) := by decide +kernel
theorem dX8_worstCode_48 : decode cX8_worstCode 48 = .ok (.istore_n 3, 1) := by decide +kernel
theorem dX8_worstCode_49 : decode cX8_worstCode 49 = .ok (.iinc 4 1, 3) := by decide +kernel
theorem dX8_worstCode_52 : decode cX8_worstCode 52 = .ok (.goto (-29), 3) := by decide +kernel
theorem dX8_worstCode_55 : decode cX8_worstCode 55 = .ok (.iload_n 3, 1) := by decide +kernel
theorem dX8_worstCode_56 : decode cX8_worstCode 56 = .ok (.ireturn, 1) := by decide +kernel
theorem dX8_stepsBack_0 : decode cX8_stepsBack 0 = .ok (.iconst 0, 1) := by decide +kernel
theorem dX8_stepsBack_1 : decode cX8_stepsBack 1 = .ok (.istore_n 1, 1) := by decide +kernel
theorem dX8_stepsBack_2 : decode cX8_stepsBack 2 = .ok (.aload_n 0, 1) := by decide +kernel
theorem dX8_stepsBack_3 : decode cX8_stepsBack 3 = .ok (.invokevirtual 53, 3) := by decide +kernel
theorem dX8_stepsBack_6 : decode cX8_stepsBack 6 = .ok (.istore_n 2, 1) := by decide +kernel
theorem dX8_stepsBack_7 : decode cX8_stepsBack 7 = .ok (.iconst 0, 1) := by decide +kernel
theorem dX8_stepsBack_8 : decode cX8_stepsBack 8 = .ok (.istore_n 3, 1) := by decide +kernel
theorem dX8_stepsBack_9 : decode cX8_stepsBack 9 = .ok (.iload_n 3, 1) := by decide +kernel
theorem dX8_stepsBack_10 : decode cX8_stepsBack 10 = .ok (.iload_n 2, 1) := by decide +kernel
theorem dX8_stepsBack_11 : decode cX8_stepsBack 11 = .ok (.if_icmp .ge 20, 3) := by decide +kernel
theorem dX8_stepsBack_14 : decode cX8_stepsBack 14 = .ok (.aload_n 0, 1) := by decide +kernel
theorem dX8_stepsBack_15 : decode cX8_stepsBack 15 = .ok (.iload_n 3, 1) := by decide +kernel
theorem dX8_stepsBack_16 : decode cX8_stepsBack 16 = .ok (.invokevirtual 59, 3) := by decide +kernel
theorem dX8_stepsBack_19 : decode cX8_stepsBack 19 = .ok (.ifCond .ge 6, 3) := by decide +kernel
theorem dX8_stepsBack_22 : decode cX8_stepsBack 22 = .ok (.iinc 1 1, 3) := by decide +kernel
theorem dX8_stepsBack_25 : decode cX8_stepsBack 25 = .ok (.iinc 3 1, 3) := by decide +kernel
theorem dX8_stepsBack_28 : decode cX8_stepsBack 28 = .ok (.goto (-19), 3) := by decide +kernel
theorem dX8_stepsBack_31 : decode cX8_stepsBack 31 = .ok (.iload_n 1, 1) := by decide +kernel
theorem dX8_stepsBack_32 : decode cX8_stepsBack 32 = .ok (.ireturn, 1) := by decide +kernel
theorem dX8_stepsOfNothing_0 : decode cX8_stepsOfNothing 0 = .ok (.iconst 0, 1) := by decide +kernel
theorem dX8_stepsOfNothing_1 : decode cX8_stepsOfNothing 1 = .ok (.istore_n 1, 1) := by decide +kernel
theorem dX8_stepsOfNothing_2 : decode cX8_stepsOfNothing 2 = .ok (.aload_n 0, 1) := by decide +kernel
theorem dX8_stepsOfNothing_3 : decode cX8_stepsOfNothing 3 = .ok (.invokevirtual 53, 3) := by decide +kernel
theorem dX8_stepsOfNothing_6 : decode cX8_stepsOfNothing 6 = .ok (.istore_n 2, 1) := by decide +kernel
theorem dX8_stepsOfNothing_7 : decode cX8_stepsOfNothing 7 = .ok (.iconst 0, 1) := by decide +kernel
theorem dX8_stepsOfNothing_8 : decode cX8_stepsOfNothing 8 = .ok (.istore_n 3, 1) := by decide +kernel
theorem dX8_stepsOfNothing_9 : decode cX8_stepsOfNothing 9 = .ok (.iload_n 3, 1) := by decide +kernel
theorem dX8_stepsOfNothing_10 : decode cX8_stepsOfNothing 10 = .ok (.iload_n 2, 1) := by decide +kernel
theorem dX8_stepsOfNothing_11 : decode cX8_stepsOfNothing 11 = .ok (.if_icmp .ge 20, 3) := by decide +kernel
theorem dX8_stepsOfNothing_14 : decode cX8_stepsOfNothing 14 = .ok (.aload_n 0, 1) := by decide +kernel
theorem dX8_stepsOfNothing_15 : decode cX8_stepsOfNothing 15 = .ok (.iload_n 3, 1) := by decide +kernel
theorem dX8_stepsOfNothing_16 : decode cX8_stepsOfNothing 16 = .ok (.invokevirtual 59, 3) := by decide +kernel
theorem dX8_stepsOfNothing_19 : decode cX8_stepsOfNothing 19 = .ok (.ifCond .ne 6, 3) := by decide +kernel
theorem dX8_stepsOfNothing_22 : decode cX8_stepsOfNothing 22 = .ok (.iinc 1 1, 3) := by decide +kernel
theorem dX8_stepsOfNothing_25 : decode cX8_stepsOfNothing 25 = .ok (.iinc 3 1, 3) := by decide +kernel
theorem dX8_stepsOfNothing_28 : decode cX8_stepsOfNothing 28 = .ok (.goto (-19), 3) := by decide +kernel
theorem dX8_stepsOfNothing_31 : decode cX8_stepsOfNothing 31 = .ok (.iload_n 1, 1) := by decide +kernel
theorem dX8_stepsOfNothing_32 : decode cX8_stepsOfNothing 32 = .ok (.ireturn, 1) := by decide +kernel
theorem dX8_firstStepBack_0 : decode cX8_firstStepBack 0 = .ok (.aload_n 0, 1) := by decide +kernel
theorem dX8_firstStepBack_1 : decode cX8_firstStepBack 1 = .ok (.invokevirtual 53, 3) := by decide +kernel
theorem dX8_firstStepBack_4 : decode cX8_firstStepBack 4 = .ok (.istore_n 1, 1) := by decide +kernel
theorem dX8_firstStepBack_5 : decode cX8_firstStepBack 5 = .ok (.iconst 0, 1) := by decide +kernel
theorem dX8_firstStepBack_6 : decode cX8_firstStepBack 6 = .ok (.istore_n 2, 1) := by decide +kernel
theorem dX8_firstStepBack_7 : decode cX8_firstStepBack 7 = .ok (.iload_n 2, 1) := by decide +kernel
theorem dX8_firstStepBack_8 : decode cX8_firstStepBack 8 = .ok (.iload_n 1, 1) := by decide +kernel
theorem dX8_firstStepBack_9 : decode cX8_firstStepBack 9 = .ok (.if_icmp .ge 19, 3) := by decide +kernel
theorem dX8_firstStepBack_12 : decode cX8_firstStepBack 12 = .ok (.aload_n 0, 1) := by decide +kernel
theorem dX8_firstStepBack_13 : decode cX8_firstStepBack 13 = .ok (.iload_n 2, 1) := by decide +kernel
theorem dX8_firstStepBack_14 : decode cX8_firstStepBack 14 = .ok (.invokevirtual 59, 3) := by decide +kernel
theorem dX8_firstStepBack_17 : decode cX8_firstStepBack 17 = .ok (.ifCond .ge 5, 3) := by decide +kernel
theorem dX8_firstStepBack_20 : decode cX8_firstStepBack 20 = .ok (.iload_n 2, 1) := by decide +kernel
theorem dX8_firstStepBack_21 : decode cX8_firstStepBack 21 = .ok (.ireturn, 1) := by decide +kernel
theorem dX8_firstStepBack_22 : decode cX8_firstStepBack 22 = .ok (.iinc 2 1, 3) := by decide +kernel
theorem dX8_firstStepBack_25 : decode cX8_firstStepBack 25 = .ok (.goto (-18), 3) := by decide +kernel
theorem dX8_firstStepBack_28 : decode cX8_firstStepBack 28 = .ok (.bipush (-4), 2) := by decide +kernel
theorem dX8_firstStepBack_30 : decode cX8_firstStepBack 30 = .ok (.ireturn, 1) := by decide +kernel
theorem dX8_closest_0 : decode cX8_closest 0 = .ok (.aload_n 0, 1) := by decide +kernel
theorem dX8_closest_1 : decode cX8_closest 1 = .ok (.invokevirtual 53, 3) := by decide +kernel
theorem dX8_closest_4 : decode cX8_closest 4 = .ok (.istore_n 2, 1) := by decide +kernel
theorem dX8_closest_5 : decode cX8_closest 5 = .ok (.iconst 0, 1) := by decide +kernel
theorem dX8_closest_6 : decode cX8_closest 6 = .ok (.istore_n 3, 1) := by decide +kernel
theorem dX8_closest_7 : decode cX8_closest 7 = .ok (.iconst 1, 1) := by decide +kernel
theorem dX8_closest_8 : decode cX8_closest 8 = .ok (.istore 4, 2) := by decide +kernel
theorem dX8_closest_10 : decode cX8_closest 10 = .ok (.iload 4, 2) := by decide +kernel
theorem dX8_closest_12 : decode cX8_closest 12 = .ok (.iload_n 2, 1) := by decide +kernel
theorem dX8_closest_13 : decode cX8_closest 13 = .ok (.if_icmp .gt 36, 3) := by decide +kernel
theorem dX8_closest_16 : decode cX8_closest 16 = .ok (.iload_n 1, 1) := by decide +kernel
theorem dX8_closest_17 : decode cX8_closest 17 = .ok (.aload_n 0, 1) := by decide +kernel
theorem dX8_closest_18 : decode cX8_closest 18 = .ok (.iload 4, 2) := by decide +kernel
theorem dX8_closest_20 : decode cX8_closest 20 = .ok (.invokevirtual 56, 3) := by decide +kernel
theorem dX8_closest_23 : decode cX8_closest 23 = .ok (.isub, 1) := by decide +kernel
theorem dX8_closest_24 : decode cX8_closest 24 = .ok (.invokestatic 82, 3) := by decide +kernel
theorem dX8_closest_27 : decode cX8_closest 27 = .ok (.iload_n 1, 1) := by decide +kernel
theorem dX8_closest_28 : decode cX8_closest 28 = .ok (.aload_n 0, 1) := by decide +kernel
theorem dX8_closest_29 : decode cX8_closest 29 = .ok (.iload_n 3, 1) := by decide +kernel
theorem dX8_closest_30 : decode cX8_closest 30 = .ok (.invokevirtual 56, 3) := by decide +kernel
theorem dX8_closest_33 : decode cX8_closest 33 = .ok (.isub, 1) := by decide +kernel
theorem dX8_closest_34 : decode cX8_closest 34 = .ok (.invokestatic 82, 3) := by decide +kernel
theorem dX8_closest_37 : decode cX8_closest 37 = .ok (.if_icmp .ge 6, 3) := by decide +kernel
theorem dX8_closest_40 : decode cX8_closest 40 = .ok (.iload 4, 2) := by decide +kernel
theorem dX8_closest_42 : decode cX8_closest 42 = .ok (.istore_n 3, 1) := by decide +kernel
theorem dX8_closest_43 : decode cX8_closest 43 = .ok (.iinc 4 1, 3) := by decide +kernel
theorem dX8_closest_46 : decode cX8_closest 46 = .ok (.goto (-36), 3) := by decide +kernel
theorem dX8_closest_49 : decode cX8_closest 49 = .ok (.iload_n 3, 1) := by decide +kernel
theorem dX8_closest_50 : decode cX8_closest 50 = .ok (.ireturn, 1) := by decide +kernel
theorem dX8_weigh_0 : decode cX8_weigh 0 = .ok (.iconst 0, 1) := by decide +kernel
theorem dX8_weigh_1 : decode cX8_weigh 1 = .ok (.istore_n 3, 1) := by decide +kernel
theorem dX8_weigh_2 : decode cX8_weigh 2 = .ok (.aload_n 0, 1) := by decide +kernel
theorem dX8_weigh_3 : decode cX8_weigh 3 = .ok (.getfield 22, 3) := by decide +kernel
theorem dX8_weigh_6 : decode cX8_weigh 6 = .ok (.getfield 84, 3) := by decide +kernel
theorem dX8_weigh_9 : decode cX8_weigh 9 = .ok (.iconst 1, 1) := by decide +kernel
theorem dX8_weigh_10 : decode cX8_weigh 10 = .ok (.isub, 1) := by decide +kernel
theorem dX8_weigh_11 : decode cX8_weigh 11 = .ok (.istore 4, 2) := by decide +kernel
theorem dX8_weigh_13 : decode cX8_weigh 13 = .ok (.iload 4, 2) := by decide +kernel
theorem dX8_weigh_15 : decode cX8_weigh 15 = .ok (.ifCond .lt 61, 3) := by decide +kernel
theorem dX8_weigh_18 : decode cX8_weigh 18 = .ok (.iload_n 3, 1) := by decide +kernel
theorem dX8_weigh_19 : decode cX8_weigh 19 = .ok (.iconst 1, 1) := by decide +kernel
theorem dX8_weigh_20 : decode cX8_weigh 20 = .ok (.iload 4, 2) := by decide +kernel
theorem dX8_weigh_22 : decode cX8_weigh 22 = .ok (.ishl, 1) := by decide +kernel
theorem dX8_weigh_23 : decode cX8_weigh 23 = .ok (.ior, 1) := by decide +kernel
theorem dX8_weigh_24 : decode cX8_weigh 24 = .ok (.istore 5, 2) := by decide +kernel
theorem dX8_weigh_26 : decode cX8_weigh 26 = .ok (.iload_n 1, 1) := by decide +kernel
theorem dX8_weigh_27 : decode cX8_weigh 27 = .ok (.aload_n 0, 1) := by decide +kernel
theorem dX8_weigh_28 : decode cX8_weigh 28 = .ok (.getfield 22, 3) := by decide +kernel
theorem dX8_weigh_31 : decode cX8_weigh 31 = .ok (.getfield 87, 3) := by decide +kernel
theorem dX8_weigh_34 : decode cX8_weigh 34 = .ok (.iadd, 1) := by decide +kernel
theorem dX8_weigh_35 : decode cX8_weigh 35 = .ok (.aload_n 0, 1) := by decide +kernel
theorem dX8_weigh_36 : decode cX8_weigh 36 = .ok (.iload 5, 2) := by decide +kernel
theorem dX8_weigh_38 : decode cX8_weigh 38 = .ok (.invokevirtual 56, 3) := by decide +kernel
theorem dX8_weigh_41 : decode cX8_weigh 41 = .ok (.if_icmp .lt 7, 3) := by decide +kernel
theorem dX8_weigh_44 : decode cX8_weigh 44 = .ok (.iconst 1, 1) := by decide +kernel
theorem dX8_weigh_45 : decode cX8_weigh 45 = .ok (.goto 4, 3) := by decide +kernel
theorem dX8_weigh_48 : decode cX8_weigh 48 = .ok (.iconst 0, 1) := by decide +kernel
theorem dX8_weigh_49 : decode cX8_weigh 49 = .ok (.istore 6, 2) := by decide +kernel
theorem dX8_weigh_51 : decode cX8_weigh 51 = .ok (.iload 6, 2) := by decide +kernel
theorem dX8_weigh_53 : decode cX8_weigh 53 = .ok (.iload 4, 2) := by decide +kernel
theorem dX8_weigh_55 : decode cX8_weigh 55 = .ok (.iload_n 2, 1) := by decide +kernel
theorem dX8_weigh_56 : decode cX8_weigh 56 = .ok (.if_icmp .ne 7, 3) := by decide +kernel
theorem dX8_weigh_59 : decode cX8_weigh 59 = .ok (.iconst 1, 1) := by decide +kernel
theorem dX8_weigh_60 : decode cX8_weigh 60 = .ok (.goto 4, 3) := by decide +kernel
theorem dX8_weigh_63 : decode cX8_weigh 63 = .ok (.iconst 0, 1) := by decide +kernel
theorem dX8_weigh_64 : decode cX8_weigh 64 = .ok (.if_icmp .eq 6, 3) := by decide +kernel
theorem dX8_weigh_67 : decode cX8_weigh 67 = .ok (.iload 5, 2) := by decide +kernel
theorem dX8_weigh_69 : decode cX8_weigh 69 = .ok (.istore_n 3, 1) := by decide +kernel
theorem dX8_weigh_70 : decode cX8_weigh 70 = .ok (.iinc 4 (-1), 3) := by decide +kernel
theorem dX8_weigh_73 : decode cX8_weigh 73 = .ok (.goto (-60), 3) := by decide +kernel
theorem dX8_weigh_76 : decode cX8_weigh 76 = .ok (.iload_n 3, 1) := by decide +kernel
theorem dX8_weigh_77 : decode cX8_weigh 77 = .ok (.ireturn, 1) := by decide +kernel
theorem dX8_rangeLow_0 : decode cX8_rangeLow 0 = .ok (.aload_n 0, 1) := by decide +kernel
theorem dX8_rangeLow_1 : decode cX8_rangeLow 1 = .ok (.iconst 0, 1) := by decide +kernel
theorem dX8_rangeLow_2 : decode cX8_rangeLow 2 = .ok (.invokevirtual 56, 3) := by decide +kernel
theorem dX8_rangeLow_5 : decode cX8_rangeLow 5 = .ok (.aload_n 0, 1) := by decide +kernel
theorem dX8_rangeLow_6 : decode cX8_rangeLow 6 = .ok (.getfield 22, 3) := by decide +kernel
theorem dX8_rangeLow_9 : decode cX8_rangeLow 9 = .ok (.getfield 90, 3) := by decide +kernel
theorem dX8_rangeLow_12 : decode cX8_rangeLow 12 = .ok (.isub, 1) := by decide +kernel
theorem dX8_rangeLow_13 : decode cX8_rangeLow 13 = .ok (.ireturn, 1) := by decide +kernel
theorem dX8_rangeHigh_0 : decode cX8_rangeHigh 0 = .ok (.aload_n 0, 1) := by decide +kernel
theorem dX8_rangeHigh_1 : decode cX8_rangeHigh 1 = .ok (.aload_n 0, 1) := by decide +kernel
theorem dX8_rangeHigh_2 : decode cX8_rangeHigh 2 = .ok (.invokevirtual 53, 3) := by decide +kernel
theorem dX8_rangeHigh_5 : decode cX8_rangeHigh 5 = .ok (.invokevirtual 56, 3) := by decide +kernel
theorem dX8_rangeHigh_8 : decode cX8_rangeHigh 8 = .ok (.aload_n 0, 1) := by decide +kernel
theorem dX8_rangeHigh_9 : decode cX8_rangeHigh 9 = .ok (.getfield 22, 3) := by decide +kernel
theorem dX8_rangeHigh_12 : decode cX8_rangeHigh 12 = .ok (.getfield 90, 3) := by decide +kernel
theorem dX8_rangeHigh_15 : decode cX8_rangeHigh 15 = .ok (.iadd, 1) := by decide +kernel
theorem dX8_rangeHigh_16 : decode cX8_rangeHigh 16 = .ok (.ireturn, 1) := by decide +kernel
theorem dX8_rangeVolts_0 : decode cX8_rangeVolts 0 = .ok (.aload_n 0, 1) := by decide +kernel
theorem dX8_rangeVolts_1 : decode cX8_rangeVolts 1 = .ok (.invokevirtual 93, 3) := by decide +kernel
theorem dX8_rangeVolts_4 : decode cX8_rangeVolts 4 = .ok (.aload_n 0, 1) := by decide +kernel
theorem dX8_rangeVolts_5 : decode cX8_rangeVolts 5 = .ok (.invokevirtual 96, 3) := by decide +kernel
theorem dX8_rangeVolts_8 : decode cX8_rangeVolts 8 = .ok (.isub, 1) := by decide +kernel
theorem dX8_rangeVolts_9 : decode cX8_rangeVolts 9 = .ok (.iconst 1, 1) := by decide +kernel
theorem dX8_rangeVolts_10 : decode cX8_rangeVolts 10 = .ok (.iadd, 1) := by decide +kernel
theorem dX8_rangeVolts_11 : decode cX8_rangeVolts 11 = .ok (.ireturn, 1) := by decide +kernel
theorem dX8_codesThatCome_0 : decode cX8_codesThatCome 0 = .ok (.iconst 0, 1) := by decide +kernel
theorem dX8_codesThatCome_1 : decode cX8_codesThatCome 1 = .ok (.istore_n 1, 1) := by decide +kernel
theorem dX8_codesThatCome_2 : decode cX8_codesThatCome 2 = .ok (.aload_n 0, 1) := by decide +kernel
theorem dX8_codesThatCome_3 : decode cX8_codesThatCome 3 = .ok (.getfield 22, 3) := by decide +kernel
theorem dX8_codesThatCome_6 : decode cX8_codesThatCome 6 = .ok (.invokevirtual 29, 3) := by decide +kernel
theorem dX8_codesThatCome_9 : decode cX8_codesThatCome 9 = .ok (.istore_n 2, 1) := by decide +kernel
theorem dX8_codesThatCome_10 : decode cX8_codesThatCome 10 = .ok (.iconst 0, 1) := by decide +kernel
theorem dX8_codesThatCome_11 : decode cX8_codesThatCome 11 = .ok (.istore_n 3, 1) := by decide +kernel
theorem dX8_codesThatCome_12 : decode cX8_codesThatCome 12 = .ok (.iload_n 3, 1) := by decide +kernel
theorem dX8_codesThatCome_13 : decode cX8_codesThatCome 13 = .ok (.iload_n 2, 1) := by decide +kernel
theorem dX8_codesThatCome_14 : decode cX8_codesThatCome 14 = .ok (.if_icmp .ge 20, 3) := by decide +kernel
theorem dX8_codesThatCome_17 : decode cX8_codesThatCome 17 = .ok (.aload_n 0, 1) := by decide +kernel
theorem dX8_codesThatCome_18 : decode cX8_codesThatCome 18 = .ok (.iload_n 3, 1) := by decide +kernel
theorem dX8_codesThatCome_19 : decode cX8_codesThatCome 19 = .ok (.invokevirtual 99, 3) := by decide +kernel
theorem dX8_codesThatCome_22 : decode cX8_codesThatCome 22 = .ok (.ifCond .eq 6, 3) := by decide +kernel
theorem dX8_codesThatCome_25 : decode cX8_codesThatCome 25 = .ok (.iinc 1 1, 3) := by decide +kernel
theorem dX8_codesThatCome_28 : decode cX8_codesThatCome 28 = .ok (.iinc 3 1, 3) := by decide +kernel
theorem dX8_codesThatCome_31 : decode cX8_codesThatCome 31 = .ok (.goto (-19), 3) := by decide +kernel
theorem dX8_codesThatCome_34 : decode cX8_codesThatCome 34 = .ok (.iload_n 1, 1) := by decide +kernel
theorem dX8_codesThatCome_35 : decode cX8_codesThatCome 35 = .ok (.ireturn, 1) := by decide +kernel
theorem dX8_firstThatNeverComes_0 : decode cX8_firstThatNeverComes 0 = .ok (.aload_n 0, 1) := by decide +kernel
theorem dX8_firstThatNeverComes_1 : decode cX8_firstThatNeverComes 1 = .ok (.getfield 22, 3) := by decide +kernel
theorem dX8_firstThatNeverComes_4 : decode cX8_firstThatNeverComes 4 = .ok (.invokevirtual 29, 3) := by decide +kernel
theorem dX8_firstThatNeverComes_7 : decode cX8_firstThatNeverComes 7 = .ok (.istore_n 1, 1) := by decide +kernel
theorem dX8_firstThatNeverComes_8 : decode cX8_firstThatNeverComes 8 = .ok (.iconst 0, 1) := by decide +kernel
theorem dX8_firstThatNeverComes_9 : decode cX8_firstThatNeverComes 9 = .ok (.istore_n 2, 1) := by decide +kernel
theorem dX8_firstThatNeverComes_10 : decode cX8_firstThatNeverComes 10 = .ok (.iload_n 2, 1) := by decide +kernel
theorem dX8_firstThatNeverComes_11 : decode cX8_firstThatNeverComes 11 = .ok (.iload_n 1, 1) := by decide +kernel
theorem dX8_firstThatNeverComes_12 : decode cX8_firstThatNeverComes 12 = .ok (.if_icmp .ge 19, 3) := by decide +kernel
theorem dX8_firstThatNeverComes_15 : decode cX8_firstThatNeverComes 15 = .ok (.aload_n 0, 1) := by decide +kernel
theorem dX8_firstThatNeverComes_16 : decode cX8_firstThatNeverComes 16 = .ok (.iload_n 2, 1) := by decide +kernel
theorem dX8_firstThatNeverComes_17 : decode cX8_firstThatNeverComes 17 = .ok (.invokevirtual 99, 3) := by decide +kernel
theorem dX8_firstThatNeverComes_20 : decode cX8_firstThatNeverComes 20 = .ok (.ifCond .ne 5, 3) := by decide +kernel
theorem dX8_firstThatNeverComes_23 : decode cX8_firstThatNeverComes 23 = .ok (.iload_n 2, 1) := by decide +kernel
theorem dX8_firstThatNeverComes_24 : decode cX8_firstThatNeverComes 24 = .ok (.ireturn, 1) := by decide +kernel
theorem dX8_firstThatNeverComes_25 : decode cX8_firstThatNeverComes 25 = .ok (.iinc 2 1, 3) := by decide +kernel
theorem dX8_firstThatNeverComes_28 : decode cX8_firstThatNeverComes 28 = .ok (.goto (-18), 3) := by decide +kernel
theorem dX8_firstThatNeverComes_31 : decode cX8_firstThatNeverComes 31 = .ok (.bipush (-4), 2) := by decide +kernel
theorem dX8_firstThatNeverComes_33 : decode cX8_firstThatNeverComes 33 = .ok (.ireturn, 1) := by decide +kernel
theorem dX8_voltsAtNearest_0 : decode cX8_voltsAtNearest 0 = .ok (.iconst 0, 1) := by decide +kernel
theorem dX8_voltsAtNearest_1 : decode cX8_voltsAtNearest 1 = .ok (.istore_n 1, 1) := by decide +kernel
theorem dX8_voltsAtNearest_2 : decode cX8_voltsAtNearest 2 = .ok (.aload_n 0, 1) := by decide +kernel
theorem dX8_voltsAtNearest_3 : decode cX8_voltsAtNearest 3 = .ok (.getfield 22, 3) := by decide +kernel
theorem dX8_voltsAtNearest_6 : decode cX8_voltsAtNearest 6 = .ok (.invokevirtual 29, 3) := by decide +kernel
theorem dX8_voltsAtNearest_9 : decode cX8_voltsAtNearest 9 = .ok (.istore_n 2, 1) := by decide +kernel
theorem dX8_voltsAtNearest_10 : decode cX8_voltsAtNearest 10 = .ok (.iconst 0, 1) := by decide +kernel
theorem dX8_voltsAtNearest_11 : decode cX8_voltsAtNearest 11 = .ok (.istore_n 3, 1) := by decide +kernel
theorem dX8_voltsAtNearest_12 : decode cX8_voltsAtNearest 12 = .ok (.iload_n 3, 1) := by decide +kernel
theorem dX8_voltsAtNearest_13 : decode cX8_voltsAtNearest 13 = .ok (.iload_n 2, 1) := by decide +kernel
theorem dX8_voltsAtNearest_14 : decode cX8_voltsAtNearest 14 = .ok (.if_icmp .ge 32, 3) := by decide +kernel
theorem dX8_voltsAtNearest_17 : decode cX8_voltsAtNearest 17 = .ok (.aload_n 0, 1) := by decide +kernel
theorem dX8_voltsAtNearest_18 : decode cX8_voltsAtNearest 18 = .ok (.iload_n 3, 1) := by decide +kernel
theorem dX8_voltsAtNearest_19 : decode cX8_voltsAtNearest 19 = .ok (.invokevirtual 99, 3) := by decide +kernel
theorem dX8_voltsAtNearest_22 : decode cX8_voltsAtNearest 22 = .ok (.ifCond .eq 18, 3) := by decide +kernel
theorem dX8_voltsAtNearest_25 : decode cX8_voltsAtNearest 25 = .ok (.aload_n 0, 1) := by decide +kernel
theorem dX8_voltsAtNearest_26 : decode cX8_voltsAtNearest 26 = .ok (.iload_n 3, 1) := by decide +kernel
theorem dX8_voltsAtNearest_27 : decode cX8_voltsAtNearest 27 = .ok (.invokevirtual 103, 3) := by decide +kernel
theorem dX8_voltsAtNearest_30 : decode cX8_voltsAtNearest 30 = .ok (.iload_n 1, 1) := by decide +kernel
theorem dX8_voltsAtNearest_31 : decode cX8_voltsAtNearest 31 = .ok (.aload_n 0, 1) := by decide +kernel
theorem dX8_voltsAtNearest_32 : decode cX8_voltsAtNearest 32 = .ok (.getfield 18, 3) := by decide +kernel
theorem dX8_voltsAtNearest_35 : decode cX8_voltsAtNearest 35 = .ok (.invokevirtual 107, 3) := by decide +kernel
theorem dX8_voltsAtNearest_38 : decode cX8_voltsAtNearest 38 = .ok (.iadd, 1) := by decide +kernel
theorem dX8_voltsAtNearest_39 : decode cX8_voltsAtNearest 39 = .ok (.istore_n 1, 1) := by decide +kernel
theorem dX8_voltsAtNearest_40 : decode cX8_voltsAtNearest 40 = .ok (.iinc 3 1, 3) := by decide +kernel
theorem dX8_voltsAtNearest_43 : decode cX8_voltsAtNearest 43 = .ok (.goto (-31), 3) := by decide +kernel
theorem dX8_voltsAtNearest_46 : decode cX8_voltsAtNearest 46 = .ok (.iload_n 1, 1) := by decide +kernel
theorem dX8_voltsAtNearest_47 : decode cX8_voltsAtNearest 47 = .ok (.ireturn, 1) := by decide +kernel
theorem dX8_comes_0 : decode cX8_comes 0 = .ok (.aload_n 0, 1) := by decide +kernel
theorem dX8_comes_1 : decode cX8_comes 1 = .ok (.getfield 18, 3) := by decide +kernel
theorem dX8_comes_4 : decode cX8_comes 4 = .ok (.aload_n 0, 1) := by decide +kernel
theorem dX8_comes_5 : decode cX8_comes 5 = .ok (.invokevirtual 96, 3) := by decide +kernel
theorem dX8_comes_8 : decode cX8_comes 8 = .ok (.putfield 110, 3) := by decide +kernel
theorem dX8_comes_11 : decode cX8_comes 11 = .ok (.aload_n 0, 1) := by decide +kernel
theorem dX8_comes_12 : decode cX8_comes 12 = .ok (.getfield 18, 3) := by decide +kernel
theorem dX8_comes_15 : decode cX8_comes 15 = .ok (.aload_n 0, 1) := by decide +kernel
theorem dX8_comes_16 : decode cX8_comes 16 = .ok (.invokevirtual 93, 3) := by decide +kernel
theorem dX8_comes_19 : decode cX8_comes 19 = .ok (.putfield 113, 3) := by decide +kernel
theorem dX8_comes_22 : decode cX8_comes 22 = .ok (.aload_n 0, 1) := by decide +kernel
theorem dX8_comes_23 : decode cX8_comes 23 = .ok (.getfield 22, 3) := by decide +kernel
theorem dX8_comes_26 : decode cX8_comes 26 = .ok (.getfield 84, 3) := by decide +kernel
theorem dX8_comes_29 : decode cX8_comes 29 = .ok (.iconst 1, 1) := by decide +kernel
theorem dX8_comes_30 : decode cX8_comes 30 = .ok (.isub, 1) := by decide +kernel
theorem dX8_comes_31 : decode cX8_comes 31 = .ok (.istore_n 2, 1) := by decide +kernel
theorem dX8_comes_32 : decode cX8_comes 32 = .ok (.iload_n 2, 1) := by decide +kernel
theorem dX8_comes_33 : decode cX8_comes 33 = .ok (.ifCond .lt 64, 3) := by decide +kernel
theorem dX8_comes_36 : decode cX8_comes 36 = .ok (.iload_n 1, 1) := by decide +kernel
theorem dX8_comes_37 : decode cX8_comes 37 = .ok (.iload_n 2, 1) := by decide +kernel
theorem dX8_comes_38 : decode cX8_comes 38 = .ok (.ishr, 1) := by decide +kernel
theorem dX8_comes_39 : decode cX8_comes 39 = .ok (.iconst 1, 1) := by decide +kernel
theorem dX8_comes_40 : decode cX8_comes 40 = .ok (.ior, 1) := by decide +kernel
theorem dX8_comes_41 : decode cX8_comes 41 = .ok (.iload_n 2, 1) := by decide +kernel
theorem dX8_comes_42 : decode cX8_comes 42 = .ok (.ishl, 1) := by decide +kernel
theorem dX8_comes_43 : decode cX8_comes 43 = .ok (.istore_n 3, 1) := by decide +kernel
theorem dX8_comes_44 : decode cX8_comes 44 = .ok (.aload_n 0, 1) := by decide +kernel
theorem dX8_comes_45 : decode cX8_comes 45 = .ok (.iload_n 3, 1) := by decide +kernel
theorem dX8_comes_46 : decode cX8_comes 46 = .ok (.invokevirtual 56, 3) := by decide +kernel
theorem dX8_comes_49 : decode cX8_comes 49 = .ok (.aload_n 0, 1) := by decide +kernel
theorem dX8_comes_50 : decode cX8_comes 50 = .ok (.getfield 22, 3) := by decide +kernel
theorem dX8_comes_53 : decode cX8_comes 53 = .ok (.getfield 87, 3) := by decide +kernel
theorem dX8_comes_56 : decode cX8_comes 56 = .ok (.isub, 1) := by decide +kernel
theorem dX8_comes_57 : decode cX8_comes 57 = .ok (.istore 4, 2) := by decide +kernel
theorem dX8_comes_59 : decode cX8_comes 59 = .ok (.iload_n 1, 1) := by decide +kernel
theorem dX8_comes_60 : decode cX8_comes 60 = .ok (.iload_n 2, 1) := by decide +kernel
theorem dX8_comes_61 : decode cX8_comes 61 = .ok (.ishr, 1) := by decide +kernel
theorem dX8_comes_62 : decode cX8_comes 62 = .ok (.iconst 1, 1) := by decide +kernel
theorem dX8_comes_63 : decode cX8_comes 63 = .ok (.iand, 1) := by decide +kernel
theorem dX8_comes_64 : decode cX8_comes 64 = .ok (.iconst 1, 1) := by decide +kernel
theorem dX8_comes_65 : decode cX8_comes 65 = .ok (.if_icmp .ne 15, 3) := by decide +kernel
theorem dX8_comes_68 : decode cX8_comes 68 = .ok (.aload_n 0, 1) := by decide +kernel
theorem dX8_comes_69 : decode cX8_comes 69 = .ok (.getfield 18, 3) := by decide +kernel
theorem dX8_comes_72 : decode cX8_comes 72 = .ok (.iload 4, 2) := by decide +kernel
theorem dX8_comes_74 : decode cX8_comes 74 = .ok (.invokevirtual 116, 3) := by decide +kernel
theorem dX8_comes_77 : decode cX8_comes 77 = .ok (.goto 14, 3) := by decide +kernel
theorem dX8_comes_80 : decode cX8_comes 80 = .ok (.aload_n 0, 1) := by decide +kernel
theorem dX8_comes_81 : decode cX8_comes 81 = .ok (.getfield 18, 3) := by decide +kernel
theorem dX8_comes_84 : decode cX8_comes 84 = .ok (.iload 4, 2) := by decide +kernel
theorem dX8_comes_86 : decode cX8_comes 86 = .ok (.iconst 1, 1) := by decide +kernel
theorem dX8_comes_87 : decode cX8_comes 87 = .ok (.isub, 1) := by decide +kernel
theorem dX8_comes_88 : decode cX8_comes 88 = .ok (.invokevirtual 119, 3) := by decide +kernel
theorem dX8_comes_91 : decode cX8_comes 91 = .ok (.iinc 2 (-1), 3) := by decide +kernel
theorem dX8_comes_94 : decode cX8_comes 94 = .ok (.goto (-62), 3) := by decide +kernel
theorem dX8_comes_97 : decode cX8_comes 97 = .ok (.aload_n 0, 1) := by decide +kernel
theorem dX8_comes_98 : decode cX8_comes 98 = .ok (.getfield 18, 3) := by decide +kernel
theorem dX8_comes_101 : decode cX8_comes 101 = .ok (.invokevirtual 107, 3) := by decide +kernel
theorem dX8_comes_104 : decode cX8_comes 104 = .ok (.ifCond .le 7, 3) := by decide +kernel
theorem dX8_comes_107 : decode cX8_comes 107 = .ok (.iconst 1, 1) := by decide +kernel
theorem dX8_comes_108 : decode cX8_comes 108 = .ok (.goto 4, 3) := by decide +kernel
theorem dX8_comes_111 : decode cX8_comes 111 = .ok (.iconst 0, 1) := by decide +kernel
theorem dX8_comes_112 : decode cX8_comes 112 = .ok (.ireturn, 1) := by decide +kernel
theorem dX8_cutToNearest_0 : decode cX8_cutToNearest 0 = .ok (.aload_n 0, 1) := by decide +kernel
theorem dX8_cutToNearest_1 : decode cX8_cutToNearest 1 = .ok (.iload_n 1, 1) := by decide +kernel
theorem dX8_cutToNearest_2 : decode cX8_cutToNearest 2 = .ok (.invokevirtual 56, 3) := by decide +kernel
theorem dX8_cutToNearest_5 : decode cX8_cutToNearest 5 = .ok (.istore_n 2, 1) := by decide +kernel
theorem dX8_cutToNearest_6 : decode cX8_cutToNearest 6 = .ok (.bipush (-4), 2) := by decide +kernel
theorem dX8_cutToNearest_8 : decode cX8_cutToNearest 8 = .ok (.istore_n 3, 1) := by decide +kernel
theorem dX8_cutToNearest_9 : decode cX8_cutToNearest 9 = .ok (.bipush (-4), 2) := by decide +kernel
theorem dX8_cutToNearest_11 : decode cX8_cutToNearest 11 = .ok (.istore 4, 2) := by decide +kernel
theorem dX8_cutToNearest_13 : decode cX8_cutToNearest 13 = .ok (.aload_n 0, 1) := by decide +kernel
theorem dX8_cutToNearest_14 : decode cX8_cutToNearest 14 = .ok (.getfield 22, 3) := by decide +kernel
theorem dX8_cutToNearest_17 : decode cX8_cutToNearest 17 = .ok (.invokevirtual 29, 3) := by decide +kernel
theorem dX8_cutToNearest_20 : decode cX8_cutToNearest 20 = .ok (.istore 5, 2) := by decide +kernel
theorem dX8_cutToNearest_22 : decode cX8_cutToNearest 22 = .ok (.iconst 0, 1) := by decide +kernel
theorem dX8_cutToNearest_23 : decode cX8_cutToNearest 23 = .ok (.istore 6, 2) := by decide +kernel
theorem dX8_cutToNearest_25 : decode cX8_cutToNearest 25 = .ok (.iload 6, 2) := by decide +kernel
theorem dX8_cutToNearest_27 : decode cX8_cutToNearest 27 = .ok (.iload 5, 2) := by decide +kernel
theorem dX8_cutToNearest_29 : decode cX8_cutToNearest 29 = .ok (.if_icmp .ge 99, 3) := by decide +kernel
theorem dX8_cutToNearest_32 : decode cX8_cutToNearest 32 = .ok (.aload_n 0, 1) := by decide +kernel
theorem dX8_cutToNearest_33 : decode cX8_cutToNearest 33 = .ok (.iload 6, 2) := by decide +kernel
theorem dX8_cutToNearest_35 : decode cX8_cutToNearest 35 = .ok (.invokevirtual 56, 3) := by decide +kernel
theorem dX8_cutToNearest_38 : decode cX8_cutToNearest 38 = .ok (.istore 7, 2) := by decide +kernel
theorem dX8_cutToNearest_40 : decode cX8_cutToNearest 40 = .ok (.iload 7, 2) := by decide +kernel
theorem dX8_cutToNearest_42 : decode cX8_cutToNearest 42 = .ok (.iload_n 2, 1) := by decide +kernel
theorem dX8_cutToNearest_43 : decode cX8_cutToNearest 43 = .ok (.if_icmp .ne 26, 3) := by decide +kernel
theorem dX8_cutToNearest_46 : decode cX8_cutToNearest 46 = .ok (.iload 6, 2) := by decide +kernel
theorem dX8_cutToNearest_48 : decode cX8_cutToNearest 48 = .ok (.iload_n 1, 1) := by decide +kernel
theorem dX8_cutToNearest_49 : decode cX8_cutToNearest 49 = .ok (.if_icmp .ge 20, 3) := by decide +kernel
theorem dX8_cutToNearest_52 : decode cX8_cutToNearest 52 = .ok (.aload_n 0, 1) := by decide +kernel
theorem dX8_cutToNearest_53 : decode cX8_cutToNearest 53 = .ok (.getfield 18, 3) := by decide +kernel
theorem dX8_cutToNearest_56 : decode cX8_cutToNearest 56 = .ok (.aload_n 0, 1) := by decide +kernel
theorem dX8_cutToNearest_57 : decode cX8_cutToNearest 57 = .ok (.getfield 18, 3) := by decide +kernel
theorem dX8_cutToNearest_60 : decode cX8_cutToNearest 60 = .ok (.getfield 110, 3) := by decide +kernel
theorem dX8_cutToNearest_63 : decode cX8_cutToNearest 63 = .ok (.iconst 1, 1) := by decide +kernel
theorem dX8_cutToNearest_64 : decode cX8_cutToNearest 64 = .ok (.isub, 1) := by decide +kernel
theorem dX8_cutToNearest_65 : decode cX8_cutToNearest 65 = .ok (.invokevirtual 119, 3) := by decide +kernel
theorem dX8_cutToNearest_68 : decode cX8_cutToNearest 68 = .ok (.return_, 1) := by decide +kernel
theorem dX8_cutToNearest_69 : decode cX8_cutToNearest 69 = .ok (.iload 7, 2) := by decide +kernel
theorem dX8_cutToNearest_71 : decode cX8_cutToNearest 71 = .ok (.iload_n 2, 1) := by decide +kernel
theorem dX8_cutToNearest_72 : decode cX8_cutToNearest 72 = .ok (.if_icmp .ge 22, 3) := by decide +kernel
theorem dX8_cutToNearest_75 : decode cX8_cutToNearest 75 = .ok (.iload_n 3, 1) := by decide +kernel
theorem dX8_cutToNearest_76 : decode cX8_cutToNearest 76 = .ok (.bipush (-4), 2) := by decide +kernel
theorem dX8_cutToNearest_78 : decode cX8_cutToNearest 78 = .ok (.if_icmp .eq 13, 3) := by decide +kernel
theorem dX8_cutToNearest_81 : decode cX8_cutToNearest 81 = .ok (.iload 7, 2) := by decide +kernel
theorem dX8_cutToNearest_83 : decode cX8_cutToNearest 83 = .ok (.aload_n 0, 1) := by decide +kernel
theorem dX8_cutToNearest_84 : decode cX8_cutToNearest 84 = .ok (.iload_n 3, 1) := by decide +kernel
theorem dX8_cutToNearest_85 : decode cX8_cutToNearest 85 = .ok (.invokevirtual 56, 3) := by decide +kernel
theorem dX8_cutToNearest_88 : decode cX8_cutToNearest 88 = .ok (.if_icmp .le 6, 3) := by decide +kernel
theorem dX8_cutToNearest_91 : decode cX8_cutToNearest 91 = .ok (.iload 6, 2) := by decide +kernel
theorem dX8_cutToNearest_93 : decode cX8_cutToNearest 93 = .ok (.istore_n 3, 1) := by decide +kernel
theorem dX8_cutToNearest_94 : decode cX8_cutToNearest 94 = .ok (.iload 7, 2) := by decide +kernel
theorem dX8_cutToNearest_96 : decode cX8_cutToNearest 96 = .ok (.iload_n 2, 1) := by decide +kernel
theorem dX8_cutToNearest_97 : decode cX8_cutToNearest 97 = .ok (.if_icmp .le 25, 3) := by decide +kernel
theorem dX8_cutToNearest_100 : decode cX8_cutToNearest 100 = .ok (.iload 4, 2) := by decide +kernel
theorem dX8_cutToNearest_102 : decode cX8_cutToNearest 102 = .ok (.bipush (-4), 2) := by decide +kernel
theorem dX8_cutToNearest_104 : decode cX8_cutToNearest 104 = .ok (.if_icmp .eq 14, 3) := by decide +kernel
theorem dX8_cutToNearest_107 : decode cX8_cutToNearest 107 = .ok (.iload 7, 2) := by decide +kernel
theorem dX8_cutToNearest_109 : decode cX8_cutToNearest 109 = .ok (.aload_n 0, 1) := by decide +kernel
theorem dX8_cutToNearest_110 : decode cX8_cutToNearest 110 = .ok (.iload 4, 2) := by decide +kernel
theorem dX8_cutToNearest_112 : decode cX8_cutToNearest 112 = .ok (.invokevirtual 56, 3) := by decide +kernel
theorem dX8_cutToNearest_115 : decode cX8_cutToNearest 115 = .ok (.if_icmp .ge 7, 3) := by decide +kernel
theorem dX8_cutToNearest_118 : decode cX8_cutToNearest 118 = .ok (.iload 6, 2) := by decide +kernel
theorem dX8_cutToNearest_120 : decode cX8_cutToNearest 120 = .ok (.istore 4, 2) := by decide +kernel
theorem dX8_cutToNearest_122 : decode cX8_cutToNearest 122 = .ok (.iinc 6 1, 3) := by decide +kernel
theorem dX8_cutToNearest_125 : decode cX8_cutToNearest 125 = .ok (.goto (-100), 3) := by decide +kernel
theorem dX8_cutToNearest_128 : decode cX8_cutToNearest 128 = .ok (.iload_n 3, 1) := by decide +kernel
theorem dX8_cutToNearest_129 : decode cX8_cutToNearest 129 = .ok (.bipush (-4), 2) := by decide +kernel
theorem dX8_cutToNearest_131 : decode cX8_cutToNearest 131 = .ok (.if_icmp .eq 32, 3) := by decide +kernel
theorem dX8_cutToNearest_134 : decode cX8_cutToNearest 134 = .ok (.aload_n 0, 1) := by decide +kernel
theorem dX8_cutToNearest_135 : decode cX8_cutToNearest 135 = .ok (.getfield 18, 3) := by decide +kernel
theorem dX8_cutToNearest_138 : decode cX8_cutToNearest 138 = .ok (.iload_n 2, 1) := by decide +kernel
theorem dX8_cutToNearest_139 : decode cX8_cutToNearest 139 = .ok (.aload_n 0, 1) := by decide +kernel
theorem dX8_cutToNearest_140 : decode cX8_cutToNearest 140 = .ok (.iload_n 3, 1) := by decide +kernel
theorem dX8_cutToNearest_141 : decode cX8_cutToNearest 141 = .ok (.invokevirtual 56, 3) := by decide +kernel
theorem dX8_cutToNearest_144 : decode cX8_cutToNearest 144 = .ok (.iadd, 1) := by decide +kernel
theorem dX8_cutToNearest_145 : decode cX8_cutToNearest 145 = .ok (.iload_n 1, 1) := by decide +kernel
theorem dX8_cutToNearest_146 : decode cX8_cutToNearest 146 = .ok (.iload_n 3, 1) := by decide +kernel
theorem dX8_cutToNearest_147 : decode cX8_cutToNearest 147 = .ok (.if_icmp .ge 7, 3) := by decide +kernel
theorem dX8_cutToNearest_150 : decode cX8_cutToNearest 150 = .ok (.iconst 1, 1) := by decide +kernel
theorem dX8_cutToNearest_151 : decode cX8_cutToNearest 151 = .ok (.goto 4, 3) := by decide +kernel
theorem dX8_cutToNearest_154 : decode cX8_cutToNearest 154 = .ok (.iconst 2, 1) := by decide +kernel
theorem dX8_cutToNearest_155 : decode cX8_cutToNearest 155 = .ok (.iadd, 1) := by decide +kernel
theorem dX8_cutToNearest_156 : decode cX8_cutToNearest 156 = .ok (.iconst 2, 1) := by decide +kernel
theorem dX8_cutToNearest_157 : decode cX8_cutToNearest 157 = .ok (.invokestatic 122, 3) := by decide +kernel
theorem dX8_cutToNearest_160 : decode cX8_cutToNearest 160 = .ok (.invokevirtual 116, 3) := by decide +kernel
theorem dX8_cutToNearest_163 : decode cX8_cutToNearest 163 = .ok (.iload 4, 2) := by decide +kernel
theorem dX8_cutToNearest_165 : decode cX8_cutToNearest 165 = .ok (.bipush (-4), 2) := by decide +kernel
theorem dX8_cutToNearest_167 : decode cX8_cutToNearest 167 = .ok (.if_icmp .eq 34, 3) := by decide +kernel
theorem dX8_cutToNearest_170 : decode cX8_cutToNearest 170 = .ok (.aload_n 0, 1) := by decide +kernel
theorem dX8_cutToNearest_171 : decode cX8_cutToNearest 171 = .ok (.getfield 18, 3) := by decide +kernel
theorem dX8_cutToNearest_174 : decode cX8_cutToNearest 174 = .ok (.iload_n 2, 1) := by decide +kernel
theorem dX8_cutToNearest_175 : decode cX8_cutToNearest 175 = .ok (.aload_n 0, 1) := by decide +kernel
theorem dX8_cutToNearest_176 : decode cX8_cutToNearest 176 = .ok (.iload 4, 2) := by decide +kernel
theorem dX8_cutToNearest_178 : decode cX8_cutToNearest 178 = .ok (.invokevirtual 56, 3) := by decide +kernel
theorem dX8_cutToNearest_181 : decode cX8_cutToNearest 181 = .ok (.iadd, 1) := by decide +kernel
theorem dX8_cutToNearest_182 : decode cX8_cutToNearest 182 = .ok (.iload_n 1, 1) := by decide +kernel
theorem dX8_cutToNearest_183 : decode cX8_cutToNearest 183 = .ok (.iload 4, 2) := by decide +kernel
theorem dX8_cutToNearest_185 : decode cX8_cutToNearest 185 = .ok (.if_icmp .ge 7, 3) := by decide +kernel
theorem dX8_cutToNearest_188 : decode cX8_cutToNearest 188 = .ok (.iconst 0, 1) := by decide +kernel
theorem dX8_cutToNearest_189 : decode cX8_cutToNearest 189 = .ok (.goto 4, 3) := by decide +kernel
theorem dX8_cutToNearest_192 : decode cX8_cutToNearest 192 = .ok (.iconst 1, 1) := by decide +kernel
theorem dX8_cutToNearest_193 : decode cX8_cutToNearest 193 = .ok (.isub, 1) := by decide +kernel
theorem dX8_cutToNearest_194 : decode cX8_cutToNearest 194 = .ok (.iconst 2, 1) := by decide +kernel
theorem dX8_cutToNearest_195 : decode cX8_cutToNearest 195 = .ok (.invokestatic 122, 3) := by decide +kernel
theorem dX8_cutToNearest_198 : decode cX8_cutToNearest 198 = .ok (.invokevirtual 119, 3) := by decide +kernel
theorem dX8_cutToNearest_201 : decode cX8_cutToNearest 201 = .ok (.return_, 1) := by decide +kernel
theorem dX9_init_0 : decode cX9_init 0 = .ok (.aload_n 0, 1) := by decide +kernel
theorem dX9_init_1 : decode cX9_init 1 = .ok (.invokespecial 1, 3) := by decide +kernel
theorem dX9_init_4 : decode cX9_init 4 = .ok (.aload_n 0, 1) := by decide +kernel
theorem dX9_init_5 : decode cX9_init 5 = .ok (.sipush 200, 3) := by decide +kernel
theorem dX9_init_8 : decode cX9_init 8 = .ok (.newarray .byte, 2) := by decide +kernel
theorem dX9_init_10 : decode cX9_init 10 = .ok (.putfield 9, 3) := by decide +kernel
theorem dX9_init_13 : decode cX9_init 13 = .ok (.aload_n 0, 1) := by decide +kernel
theorem dX9_init_14 : decode cX9_init 14 = .ok (.iconst 0, 1) := by decide +kernel
theorem dX9_init_15 : decode cX9_init 15 = .ok (.putfield 13, 3) := by decide +kernel
theorem dX9_init_18 : decode cX9_init 18 = .ok (.aload_n 0, 1) := by decide +kernel
theorem dX9_init_19 : decode cX9_init 19 = .ok (.iconst 0, 1) := by decide +kernel
theorem dX9_init_20 : decode cX9_init 20 = .ok (.putfield 17, 3) := by decide +kernel
theorem dX9_init_23 : decode cX9_init 23 = .ok (.aload_n 0, 1) := by decide +kernel
theorem dX9_init_24 : decode cX9_init 24 = .ok (.iconst 0, 1) := by decide +kernel
theorem dX9_init_25 : decode cX9_init 25 = .ok (.putfield 20, 3) := by decide +kernel
theorem dX9_init_28 : decode cX9_init 28 = .ok (.aload_n 0, 1) := by decide +kernel
theorem dX9_init_29 : decode cX9_init 29 = .ok (.iconst 0, 1) := by decide +kernel
theorem dX9_init_30 : decode cX9_init 30 = .ok (.putfield 23, 3) := by decide +kernel
theorem dX9_init_33 : decode cX9_init 33 = .ok (.aload_n 0, 1) := by decide +kernel
theorem dX9_init_34 : decode cX9_init 34 = .ok (.iconst 0, 1) := by decide +kernel
theorem dX9_init_35 : decode cX9_init 35 = .ok (.putfield 26, 3) := by decide +kernel
theorem dX9_init_38 : decode cX9_init 38 = .ok (.return_, 1) := by decide +kernel
theorem dX9_append_0 : decode cX9_append 0 = .ok (.aload_n 0, 1) := by decide +kernel
theorem dX9_append_1 : decode cX9_append 1 = .ok (.getfield 13, 3) := by decide +kernel
theorem dX9_append_4 : decode cX9_append 4 = .ok (.ifCond .lt 18, 3) := by decide +kernel
theorem dX9_append_7 : decode cX9_append 7 = .ok (.aload_n 0, 1) := by decide +kernel
theorem dX9_append_8 : decode cX9_append 8 = .ok (.getfield 13, 3) := by decide +kernel
theorem dX9_append_11 : decode cX9_append 11 = .ok (.bipush 8, 2) := by decide +kernel
theorem dX9_append_13 : decode cX9_append 13 = .ok (.iadd, 1) := by decide +kernel
theorem dX9_append_14 : decode cX9_append 14 = .ok (.aload_n 0, 1) := by decide +kernel
theorem dX9_append_15 : decode cX9_append 15 = .ok (.getfield 9, 3) := by decide +kernel
theorem dX9_append_18 : decode cX9_append 18 = .ok (.arraylength, 1) := by decide +kernel
theorem dX9_append_19 : decode cX9_append 19 = .ok (.if_icmp .le 5, 3) := by decide +kernel
theorem dX9_append_22 : decode cX9_append 22 = .ok (.iconst 0, 1) := by decide +kernel
theorem dX9_append_23 : decode cX9_append 23 = .ok (.ireturn, 1) := by decide +kernel
theorem dX9_append_24 : decode cX9_append 24 = .ok (.iconst 0, 1) := by decide +kernel
theorem dX9_append_25 : decode cX9_append 25 = .ok (.istore_n 3, 1) := by decide +kernel
theorem dX9_append_26 : decode cX9_append 26 = .ok (.iload_n 3, 1) := by decide +kernel
theorem dX9_append_27 : decode cX9_append 27 = .ok (.bipush 8, 2) := by decide +kernel
theorem dX9_append_29 : decode cX9_append 29 = .ok (.if_icmp .ge 31, 3) := by decide +kernel
theorem dX9_append_32 : decode cX9_append 32 = .ok (.aload_n 0, 1) := by decide +kernel
theorem dX9_append_33 : decode cX9_append 33 = .ok (.getfield 9, 3) := by decide +kernel
theorem dX9_append_36 : decode cX9_append 36 = .ok (.aload_n 0, 1) := by decide +kernel
theorem dX9_append_37 : decode cX9_append 37 = .ok (.getfield 13, 3) := by decide +kernel
theorem dX9_append_40 : decode cX9_append 40 = .ok (.iload_n 3, 1) := by decide +kernel
theorem dX9_append_41 : decode cX9_append 41 = .ok (.iadd, 1) := by decide +kernel
theorem dX9_append_42 : decode cX9_append 42 = .ok (.lload_n 1, 1) := by decide +kernel
theorem dX9_append_43 : decode cX9_append 43 = .ok (.bipush 56, 2) := by decide +kernel
theorem dX9_append_45 : decode cX9_append 45 = .ok (.bipush 8, 2) := by decide +kernel
theorem dX9_append_47 : decode cX9_append 47 = .ok (.iload_n 3, 1) := by decide +kernel
theorem dX9_append_48 : decode cX9_append 48 = .ok (.imul, 1) := by decide +kernel
theorem dX9_append_49 : decode cX9_append 49 = .ok (.isub, 1) := by decide +kernel
theorem dX9_append_50 : decode cX9_append 50 = .ok (.lushr, 1) := by decide +kernel
theorem dX9_append_51 : decode cX9_append 51 = .ok (.l2i, 1) := by decide +kernel
theorem dX9_append_52 : decode cX9_append 52 = .ok (.i2b, 1) := by decide +kernel
theorem dX9_append_53 : decode cX9_append 53 = .ok (.bastore, 1) := by decide +kernel
theorem dX9_append_54 : decode cX9_append 54 = .ok (.iinc 3 1, 3) := by decide +kernel
theorem dX9_append_57 : decode cX9_append 57 = .ok (.goto (-31), 3) := by decide +kernel
theorem dX9_append_60 : decode cX9_append 60 = .ok (.aload_n 0, 1) := by decide +kernel
theorem dX9_append_61 : decode cX9_append 61 = .ok (.dup, 1) := by decide +kernel
theorem dX9_append_62 : decode cX9_append 62 = .ok (.getfield 13, 3) := by decide +kernel
theorem dX9_append_65 : decode cX9_append 65 = .ok (.bipush 8, 2) := by decide +kernel
theorem dX9_append_67 : decode cX9_append 67 = .ok (.iadd, 1) := by decide +kernel
theorem dX9_append_68 : decode cX9_append 68 = .ok (.putfield 13, 3) := by decide +kernel
theorem dX9_append_71 : decode cX9_append 71 = .ok (.iconst 1, 1) := by decide +kernel
theorem dX9_append_72 : decode cX9_append 72 = .ok (.ireturn, 1) := by decide +kernel
theorem dX9_rewind_0 : decode cX9_rewind 0 = .ok (.aload_n 0, 1) := by decide +kernel
theorem dX9_rewind_1 : decode cX9_rewind 1 = .ok (.iconst 0, 1) := by decide +kernel
theorem dX9_rewind_2 : decode cX9_rewind 2 = .ok (.putfield 26, 3) := by decide +kernel
theorem dX9_rewind_5 : decode cX9_rewind 5 = .ok (.return_, 1) := by decide +kernel
theorem dX9_advance_0 : decode cX9_advance 0 = .ok (.aload_n 0, 1) := by decide +kernel
theorem dX9_advance_1 : decode cX9_advance 1 = .ok (.aload_n 0, 1) := by decide +kernel
theorem dX9_advance_2 : decode cX9_advance 2 = .ok (.getfield 26, 3) := by decide +kernel
theorem dX9_advance_5 : decode cX9_advance 5 = .ok (.putfield 20, 3) := by decide +kernel
theorem dX9_advance_8 : decode cX9_advance 8 = .ok (.aload_n 0, 1) := by decide +kernel
theorem dX9_advance_9 : decode cX9_advance 9 = .ok (.getfield 20, 3) := by decide +kernel
theorem dX9_advance_12 : decode cX9_advance 12 = .ok (.aload_n 0, 1) := by decide +kernel
theorem dX9_advance_13 : decode cX9_advance 13 = .ok (.getfield 13, 3) := by decide +kernel
theorem dX9_advance_16 : decode cX9_advance 16 = .ok (.if_icmp .ge 29, 3) := by decide +kernel
theorem dX9_advance_19 : decode cX9_advance 19 = .ok (.aload_n 0, 1) := by decide +kernel
theorem dX9_advance_20 : decode cX9_advance 20 = .ok (.aload_n 0, 1) := by decide +kernel
theorem dX9_advance_21 : decode cX9_advance 21 = .ok (.getfield 20, 3) := by decide +kernel
theorem dX9_advance_24 : decode cX9_advance 24 = .ok (.invokevirtual 29, 3) := by decide +kernel
theorem dX9_advance_27 : decode cX9_advance 27 = .ok (.bipush 6, 2) := by decide +kernel
theorem dX9_advance_29 : decode cX9_advance 29 = .ok (.if_icmp .ne 16, 3) := by decide +kernel
theorem dX9_advance_32 : decode cX9_advance 32 = .ok (.aload_n 0, 1) := by decide +kernel
theorem dX9_advance_33 : decode cX9_advance 33 = .ok (.dup, 1) := by decide +kernel
theorem dX9_advance_34 : decode cX9_advance 34 = .ok (.getfield 20, 3) := by decide +kernel
theorem dX9_advance_37 : decode cX9_advance 37 = .ok (.iconst 1, 1) := by decide +kernel
theorem dX9_advance_38 : decode cX9_advance 38 = .ok (.iadd, 1) := by decide +kernel
theorem dX9_advance_39 : decode cX9_advance 39 = .ok (.putfield 20, 3) := by decide +kernel
theorem dX9_advance_42 : decode cX9_advance 42 = .ok (.goto (-34), 3) := by decide +kernel
theorem dX9_advance_45 : decode cX9_advance 45 = .ok (.aload_n 0, 1) := by decide +kernel
theorem dX9_advance_46 : decode cX9_advance 46 = .ok (.aload_n 0, 1) := by decide +kernel
theorem dX9_advance_47 : decode cX9_advance 47 = .ok (.aload_n 0, 1) := by decide +kernel
theorem dX9_advance_48 : decode cX9_advance 48 = .ok (.getfield 20, 3) := by decide +kernel
theorem dX9_advance_51 : decode cX9_advance 51 = .ok (.invokevirtual 29, 3) := by decide +kernel
theorem dX9_advance_54 : decode cX9_advance 54 = .ok (.putfield 17, 3) := by decide +kernel
theorem dX9_advance_57 : decode cX9_advance 57 = .ok (.aload_n 0, 1) := by decide +kernel
theorem dX9_advance_58 : decode cX9_advance 58 = .ok (.aload_n 0, 1) := by decide +kernel
theorem dX9_advance_59 : decode cX9_advance 59 = .ok (.getfield 20, 3) := by decide +kernel
theorem dX9_advance_62 : decode cX9_advance 62 = .ok (.iconst 1, 1) := by decide +kernel
theorem dX9_advance_63 : decode cX9_advance 63 = .ok (.iadd, 1) := by decide +kernel
theorem dX9_advance_64 : decode cX9_advance 64 = .ok (.aload_n 0, 1) := by decide +kernel
theorem dX9_advance_65 : decode cX9_advance 65 = .ok (.getfield 13, 3) := by decide +kernel
theorem dX9_advance_68 : decode cX9_advance 68 = .ok (.invokestatic 33, 3) := by decide +kernel
theorem dX9_advance_71 : decode cX9_advance 71 = .ok (.putfield 26, 3) := by decide +kernel
theorem dX9_advance_74 : decode cX9_advance 74 = .ok (.aload_n 0, 1) := by decide +kernel
theorem dX9_advance_75 : decode cX9_advance 75 = .ok (.getfield 17, 3) := by decide +kernel
theorem dX9_advance_78 : decode cX9_advance 78 = .ok (.iconst 1, 1) := by decide +kernel
theorem dX9_advance_79 : decode cX9_advance 79 = .ok (.if_icmp .eq 11, 3) := by decide +kernel
theorem dX9_advance_82 : decode cX9_advance 82 = .ok (.aload_n 0, 1) := by decide +kernel
theorem dX9_advance_83 : decode cX9_advance 83 = .ok (.getfield 17, 3) := by decide +kernel
theorem dX9_advance_86 : decode cX9_advance 86 = .ok (.iconst 2, 1) := by decide +kernel
theorem dX9_advance_87 : decode cX9_advance 87 = .ok (.if_icmp .ne 42, 3) := by decide +kernel
theorem dX9_advance_90 : decode cX9_advance 90 = .ok (.aload_n 0, 1) := by decide +kernel
theorem dX9_advance_91 : decode cX9_advance 91 = .ok (.getfield 26, 3) := by decide +kernel
theorem dX9_advance_94 : decode cX9_advance 94 = .ok (.aload_n 0, 1) := by decide +kernel
theorem dX9_advance_95 : decode cX9_advance 95 = .ok (.getfield 13, 3) := by decide +kernel
theorem dX9_advance_98 : decode cX9_advance 98 = .ok (.if_icmp .ge 31, 3) := by decide +kernel
theorem dX9_advance_101 : decode cX9_advance 101 = .ok (.aload_n 0, 1) := by decide +kernel
theorem dX9_advance_102 : decode cX9_advance 102 = .ok (.aload_n 0, 1) := by decide +kernel
theorem dX9_advance_103 : decode cX9_advance 103 = .ok (.getfield 26, 3) := by decide +kernel
theorem dX9_advance_106 : decode cX9_advance 106 = .ok (.invokevirtual 29, 3) := by decide +kernel
theorem dX9_advance_109 : decode cX9_advance 109 = .ok (.aload_n 0, 1) := by decide +kernel
theorem dX9_advance_110 : decode cX9_advance 110 = .ok (.getfield 17, 3) := by decide +kernel
theorem dX9_advance_113 : decode cX9_advance 113 = .ok (.if_icmp .ne 16, 3) := by decide +kernel
theorem dX9_advance_116 : decode cX9_advance 116 = .ok (.aload_n 0, 1) := by decide +kernel
theorem dX9_advance_117 : decode cX9_advance 117 = .ok (.dup, 1) := by decide +kernel
theorem dX9_advance_118 : decode cX9_advance 118 = .ok (.getfield 26, 3) := by decide +kernel
theorem dX9_advance_121 : decode cX9_advance 121 = .ok (.iconst 1, 1) := by decide +kernel
theorem dX9_advance_122 : decode cX9_advance 122 = .ok (.iadd, 1) := by decide +kernel
theorem dX9_advance_123 : decode cX9_advance 123 = .ok (.putfield 26, 3) := by decide +kernel
theorem dX9_advance_126 : decode cX9_advance 126 = .ok (.goto (-36), 3) := by decide +kernel
theorem dX9_advance_129 : decode cX9_advance 129 = .ok (.aload_n 0, 1) := by decide +kernel
theorem dX9_advance_130 : decode cX9_advance 130 = .ok (.getfield 17, 3) := by decide +kernel
theorem dX9_advance_133 : decode cX9_advance 133 = .ok (.iconst 2, 1) := by decide +kernel
theorem dX9_advance_134 : decode cX9_advance 134 = .ok (.if_icmp .ne 7, 3) := by decide +kernel
theorem dX9_advance_137 : decode cX9_advance 137 = .ok (.aload_n 0, 1) := by decide +kernel
theorem dX9_advance_138 : decode cX9_advance 138 = .ok (.invokevirtual 39, 3) := by decide +kernel
theorem dX9_advance_141 : decode cX9_advance 141 = .ok (.return_, 1) := by decide +kernel
theorem dX9_readFigures_0 : decode cX9_readFigures 0 = .ok (.aload_n 0, 1) := by decide +kernel
theorem dX9_readFigures_1 : decode cX9_readFigures 1 = .ok (.getfield 26, 3) := by decide +kernel
theorem dX9_readFigures_4 : decode cX9_readFigures 4 = .ok (.aload_n 0, 1) := by decide +kernel
theorem dX9_readFigures_5 : decode cX9_readFigures 5 = .ok (.getfield 20, 3) := by decide +kernel
theorem dX9_readFigures_8 : decode cX9_readFigures 8 = .ok (.isub, 1) := by decide +kernel
theorem dX9_readFigures_9 : decode cX9_readFigures 9 = .ok (.iconst 3, 1) := by decide +kernel
theorem dX9_readFigures_10 : decode cX9_readFigures 10 = .ok (.if_icmp .le 9, 3) := by decide +kernel
theorem dX9_readFigures_13 : decode cX9_readFigures 13 = .ok (.aload_n 0, 1) := by decide +kernel
theorem dX9_readFigures_14 : decode cX9_readFigures 14 = .ok (.iconst 5, 1) := by decide +kernel
theorem dX9_readFigures_15 : decode cX9_readFigures 15 = .ok (.putfield 17, 3) := by decide +kernel
theorem dX9_readFigures_18 : decode cX9_readFigures 18 = .ok (.return_, 1) := by decide +kernel
theorem dX9_readFigures_19 : decode cX9_readFigures 19 = .ok (.aload_n 0, 1) := by decide +kernel
theorem dX9_readFigures_20 : decode cX9_readFigures 20 = .ok (.iconst 0, 1) := by decide +kernel
theorem dX9_readFigures_21 : decode cX9_readFigures 21 = .ok (.putfield 23, 3) := by decide +kernel
theorem dX9_readFigures_24 : decode cX9_readFigures 24 = .ok (.aload_n 0, 1) := by decide +kernel
theorem dX9_readFigures_25 : decode cX9_readFigures 25 = .ok (.getfield 20, 3) := by decide +kernel
theorem dX9_readFigures_28 : decode cX9_readFigures 28 = .ok (.istore_n 1, 1) := by decide +kernel
theorem dX9_readFigures_29 : decode cX9_readFigures 29 = .ok (.iload_n 1, 1) := by decide +kernel
theorem dX9_readFigures_30 : decode cX9_readFigures 30 = .ok (.aload_n 0, 1) := by decide +kernel
theorem dX9_readFigures_31 : decode cX9_readFigures 31 = .ok (.getfield 26, 3) := by decide +kernel
theorem dX9_readFigures_34 : decode cX9_readFigures 34 = .ok (.if_icmp .ge 39, 3) := by decide +kernel
theorem dX9_readFigures_37 : decode cX9_readFigures 37 = .ok (.iload_n 1, 1) := by decide +kernel
theorem dX9_readFigures_38 : decode cX9_readFigures 38 = .ok (.aload_n 0, 1) := by decide +kernel
theorem dX9_readFigures_39 : decode cX9_readFigures 39 = .ok (.getfield 9, 3) := by decide +kernel
theorem dX9_readFigures_42 : decode cX9_readFigures 42 = .ok (.arraylength, 1) := by decide +kernel
theorem dX9_readFigures_43 : decode cX9_readFigures 43 = .ok (.if_icmp .ge 30, 3) := by decide +kernel
theorem dX9_readFigures_46 : decode cX9_readFigures 46 = .ok (.aload_n 0, 1) := by decide +kernel
theorem dX9_readFigures_47 : decode cX9_readFigures 47 = .ok (.aload_n 0, 1) := by decide +kernel
theorem dX9_readFigures_48 : decode cX9_readFigures 48 = .ok (.getfield 23, 3) := by decide +kernel
theorem dX9_readFigures_51 : decode cX9_readFigures 51 = .ok (.bipush 10, 2) := by decide +kernel
theorem dX9_readFigures_53 : decode cX9_readFigures 53 = .ok (.imul, 1) := by decide +kernel
theorem dX9_readFigures_54 : decode cX9_readFigures 54 = .ok (.aload_n 0, 1) := by decide +kernel
theorem dX9_readFigures_55 : decode cX9_readFigures 55 = .ok (.getfield 9, 3) := by decide +kernel
theorem dX9_readFigures_58 : decode cX9_readFigures 58 = .ok (.iload_n 1, 1) := by decide +kernel
theorem dX9_readFigures_59 : decode cX9_readFigures 59 = .ok (.baload, 1) := by decide +kernel
theorem dX9_readFigures_60 : decode cX9_readFigures 60 = .ok (.iadd, 1) := by decide +kernel
theorem dX9_readFigures_61 : decode cX9_readFigures 61 = .ok (.bipush 48, 2) := by decide +kernel
theorem dX9_readFigures_63 : decode cX9_readFigures 63 = .ok (.isub, 1) := by decide +kernel
theorem dX9_readFigures_64 : decode cX9_readFigures 64 = .ok (.putfield 23, 3) := by decide +kernel
theorem dX9_readFigures_67 : decode cX9_readFigures 67 = .ok (.iinc 1 1, 3) := by decide +kernel
theorem dX9_readFigures_70 : decode cX9_readFigures 70 = .ok (.goto (-41), 3) := by decide +kernel
theorem dX9_readFigures_73 : decode cX9_readFigures 73 = .ok (.return_, 1) := by decide +kernel
theorem dX9_kindAt_0 : decode cX9_kindAt 0 = .ok (.iload_n 1, 1) := by decide +kernel
theorem dX9_kindAt_1 : decode cX9_kindAt 1 = .ok (.ifCond .lt 20, 3) := by decide +kernel
theorem dX9_kindAt_4 : decode cX9_kindAt 4 = .ok (.iload_n 1, 1) := by decide +kernel
theorem dX9_kindAt_5 : decode cX9_kindAt 5 = .ok (.aload_n 0, 1) := by decide +kernel
theorem dX9_kindAt_6 : decode cX9_kindAt 6 = .ok (.getfield 13, 3) := by decide +kernel
theorem dX9_kindAt_9 : decode cX9_kindAt 9 = .ok (.if_icmp .ge 12, 3) := by decide +kernel
theorem dX9_kindAt_12 : decode cX9_kindAt 12 = .ok (.iload_n 1, 1) := by decide +kernel
theorem dX9_kindAt_13 : decode cX9_kindAt 13 = .ok (.aload_n 0, 1) := by decide +kernel
theorem dX9_kindAt_14 : decode cX9_kindAt 14 = .ok (.getfield 9, 3) := by decide +kernel
theorem dX9_kindAt_17 : decode cX9_kindAt 17 = .ok (.arraylength, 1) := by decide +kernel
theorem dX9_kindAt_18 : decode cX9_kindAt 18 = .ok (.if_icmp .lt 5, 3) := by decide +kernel
theorem dX9_kindAt_21 : decode cX9_kindAt 21 = .ok (.iconst 0, 1) := by decide +kernel
theorem dX9_kindAt_22 : decode cX9_kindAt 22 = .ok (.ireturn, 1) := by decide +kernel
theorem dX9_kindAt_23 : decode cX9_kindAt 23 = .ok (.aload_n 0, 1) := by decide +kernel
theorem dX9_kindAt_24 : decode cX9_kindAt 24 = .ok (.getfield 9, 3) := by decide +kernel
theorem dX9_kindAt_27 : decode cX9_kindAt 27 = .ok (.iload_n 1, 1) := by decide +kernel
theorem dX9_kindAt_28 : decode cX9_kindAt 28 = .ok (.baload, 1) := by decide +kernel
theorem dX9_kindAt_29 : decode cX9_kindAt 29 = .ok (.istore_n 2, 1) := by decide +kernel
theorem dX9_kindAt_30 : decode cX9_kindAt 30 = .ok (.iload_n 2, 1) := by decide +kernel
theorem dX9_kindAt_31 : decode cX9_kindAt 31 = .ok (.bipush 97, 2) := by decide +kernel
theorem dX9_kindAt_33 : decode cX9_kindAt 33 = .ok (.if_icmp .lt 11, 3) := by decide +kernel
theorem dX9_kindAt_36 : decode cX9_kindAt 36 = .ok (.iload_n 2, 1) := by decide +kernel
theorem dX9_kindAt_37 : decode cX9_kindAt 37 = .ok (.bipush 122, 2) := by decide +kernel
theorem dX9_kindAt_39 : decode cX9_kindAt 39 = .ok (.if_icmp .gt 5, 3) := by decide +kernel
theorem dX9_kindAt_42 : decode cX9_kindAt 42 = .ok (.iconst 1, 1) := by decide +kernel
theorem dX9_kindAt_43 : decode cX9_kindAt 43 = .ok (.ireturn, 1) := by decide +kernel
theorem dX9_kindAt_44 : decode cX9_kindAt 44 = .ok (.iload_n 2, 1) := by decide +kernel
theorem dX9_kindAt_45 : decode cX9_kindAt 45 = .ok (.bipush 48, 2) := by decide +kernel
theorem dX9_kindAt_47 : decode cX9_kindAt 47 = .ok (.if_icmp .lt 11, 3) := by decide +kernel
theorem dX9_kindAt_50 : decode cX9_kindAt 50 = .ok (.iload_n 2, 1) := by decide +kernel
theorem dX9_kindAt_51 : decode cX9_kindAt 51 = .ok (.bipush 57, 2) := by decide +kernel
theorem dX9_kindAt_53 : decode cX9_kindAt 53 = .ok (.if_icmp .gt 5, 3) := by decide +kernel
theorem dX9_kindAt_56 : decode cX9_kindAt 56 = .ok (.iconst 2, 1) := by decide +kernel
theorem dX9_kindAt_57 : decode cX9_kindAt 57 = .ok (.ireturn, 1) := by decide +kernel
theorem dX9_kindAt_58 : decode cX9_kindAt 58 = .ok (.iload_n 2, 1) := by decide +kernel
theorem dX9_kindAt_59 : decode cX9_kindAt 59 = .ok (.lookupswitch 40 #[(32, 37), (45, 33), (59, 35)], 33) := by decide +kernel
theorem dX9_kindAt_92 : decode cX9_kindAt 92 = .ok (.iconst 3, 1) := by decide +kernel
theorem dX9_kindAt_93 : decode cX9_kindAt 93 = .ok (.ireturn, 1) := by decide +kernel
theorem dX9_kindAt_94 : decode cX9_kindAt 94 = .ok (.iconst 4, 1) := by decide +kernel
theorem dX9_kindAt_95 : decode cX9_kindAt 95 = .ok (.ireturn, 1) := by decide +kernel
theorem dX9_kindAt_96 : decode cX9_kindAt 96 = .ok (.bipush 6, 2) := by decide +kernel
theorem dX9_kindAt_98 : decode cX9_kindAt 98 = .ok (.ireturn, 1) := by decide +kernel
theorem dX9_kindAt_99 : decode cX9_kindAt 99 = .ok (.iconst 5, 1) := by decide +kernel
theorem dX9_kindAt_100 : decode cX9_kindAt 100 = .ok (.ireturn, 1) := by decide +kernel
theorem dX9_isNamed_0 : decode cX9_isNamed 0 = .ok (.aload_n 0, 1) := by decide +kernel
theorem dX9_isNamed_1 : decode cX9_isNamed 1 = .ok (.getfield 17, 3) := by decide +kernel
theorem dX9_isNamed_4 : decode cX9_isNamed 4 = .ok (.iconst 1, 1) := by decide +kernel
theorem dX9_isNamed_5 : decode cX9_isNamed 5 = .ok (.if_icmp .ne 23, 3) := by decide +kernel
theorem dX9_isNamed_8 : decode cX9_isNamed 8 = .ok (.aload_n 1, 1) := by decide +kernel
theorem dX9_isNamed_9 : decode cX9_isNamed 9 = .ok (.ifnull 19, 3) := by decide +kernel
theorem dX9_isNamed_12 : decode cX9_isNamed 12 = .ok (.aload_n 0, 1) := by decide +kernel
theorem dX9_isNamed_13 : decode cX9_isNamed 13 = .ok (.getfield 26, 3) := by decide +kernel
theorem dX9_isNamed_16 : decode cX9_isNamed 16 = .ok (.aload_n 0, 1) := by decide +kernel
theorem dX9_isNamed_17 : decode cX9_isNamed 17 = .ok (.getfield 20, 3) := by decide +kernel
theorem dX9_isNamed_20 : decode cX9_isNamed 20 = .ok (.isub, 1) := by decide +kernel
theorem dX9_isNamed_21 : decode cX9_isNamed 21 = .ok (.aload_n 1, 1) := by decide +kernel
theorem dX9_isNamed_22 : decode cX9_isNamed 22 = .ok (.invokevirtual 42, 3) := by decide +kernel
theorem dX9_isNamed_25 : decode cX9_isNamed 25 = .ok (.if_icmp .eq 5, 3) := by decide +kernel
theorem dX9_isNamed_28 : decode cX9_isNamed 28 = .ok (.iconst 0, 1) := by decide +kernel
theorem dX9_isNamed_29 : decode cX9_isNamed 29 = .ok (.ireturn, 1) := by decide +kernel
theorem dX9_isNamed_30 : decode cX9_isNamed 30 = .ok (.iconst 0, 1) := by decide +kernel
theorem dX9_isNamed_31 : decode cX9_isNamed 31 = .ok (.istore_n 2, 1) := by decide +kernel
theorem dX9_isNamed_32 : decode cX9_isNamed 32 = .ok (.iload_n 2, 1) := by decide +kernel
theorem dX9_isNamed_33 : decode cX9_isNamed 33 = .ok (.aload_n 1, 1) := by decide +kernel
theorem dX9_isNamed_34 : decode cX9_isNamed 34 = .ok (.invokevirtual 42, 3) := by decide +kernel
theorem dX9_isNamed_37 : decode cX9_isNamed 37 = .ok (.if_icmp .ge 29, 3) := by decide +kernel
theorem dX9_isNamed_40 : decode cX9_isNamed 40 = .ok (.aload_n 1, 1) := by decide +kernel
theorem dX9_isNamed_41 : decode cX9_isNamed 41 = .ok (.iload_n 2, 1) := by decide +kernel
theorem dX9_isNamed_42 : decode cX9_isNamed 42 = .ok (.invokevirtual 47, 3) := by decide +kernel
theorem dX9_isNamed_45 : decode cX9_isNamed 45 = .ok (.aload_n 0, 1) := by decide +kernel
theorem dX9_isNamed_46 : decode cX9_isNamed 46 = .ok (.aload_n 0, 1) := by decide +kernel
theorem dX9_isNamed_47 : decode cX9_isNamed 47 = .ok (.getfield 20, 3) := by decide +kernel
theorem dX9_isNamed_50 : decode cX9_isNamed 50 = .ok (.iload_n 2, 1) := by decide +kernel
theorem dX9_isNamed_51 : decode cX9_isNamed 51 = .ok (.iadd, 1) := by decide +kernel
theorem dX9_isNamed_52 : decode cX9_isNamed 52 = .ok (.invokevirtual 51, 3) := by decide +kernel
theorem dX9_isNamed_55 : decode cX9_isNamed 55 = .ok (.if_icmp .eq 5, 3) := by decide +kernel
theorem dX9_isNamed_58 : decode cX9_isNamed 58 = .ok (.iconst 0, 1) := by decide +kernel
theorem dX9_isNamed_59 : decode cX9_isNamed 59 = .ok (.ireturn, 1) := by decide +kernel
theorem dX9_isNamed_60 : decode cX9_isNamed 60 = .ok (.iinc 2 1, 3) := by decide +kernel
theorem dX9_isNamed_63 : decode cX9_isNamed 63 = .ok (.goto (-31), 3) := by decide +kernel
theorem dX9_isNamed_66 : decode cX9_isNamed 66 = .ok (.iconst 1, 1) := by decide +kernel
theorem dX9_isNamed_67 : decode cX9_isNamed 67 = .ok (.ireturn, 1) := by decide +kernel
theorem dX9_byteAt_0 : decode cX9_byteAt 0 = .ok (.iload_n 1, 1) := by decide +kernel
theorem dX9_byteAt_1 : decode cX9_byteAt 1 = .ok (.ifCond .lt 21, 3) := by decide +kernel
theorem dX9_byteAt_4 : decode cX9_byteAt 4 = .ok (.iload_n 1, 1) := by decide +kernel
theorem dX9_byteAt_5 : decode cX9_byteAt 5 = .ok (.aload_n 0, 1) := by decide +kernel
theorem dX9_byteAt_6 : decode cX9_byteAt 6 = .ok (.getfield 9, 3) := by decide +kernel
theorem dX9_byteAt_9 : decode cX9_byteAt 9 = .ok (.arraylength, 1) := by decide +kernel
theorem dX9_byteAt_10 : decode cX9_byteAt 10 = .ok (.if_icmp .ge 12, 3) := by decide +kernel
theorem dX9_byteAt_13 : decode cX9_byteAt 13 = .ok (.aload_n 0, 1) := by decide +kernel
theorem dX9_byteAt_14 : decode cX9_byteAt 14 = .ok (.getfield 9, 3) := by decide +kernel
theorem dX9_byteAt_17 : decode cX9_byteAt 17 = .ok (.iload_n 1, 1) := by decide +kernel
theorem dX9_byteAt_18 : decode cX9_byteAt 18 = .ok (.baload, 1) := by decide +kernel
theorem dX9_byteAt_19 : decode cX9_byteAt 19 = .ok (.goto 4, 3) := by decide +kernel
theorem dX9_byteAt_22 : decode cX9_byteAt 22 = .ok (.iconst 0, 1) := by decide +kernel
theorem dX9_byteAt_23 : decode cX9_byteAt 23 = .ok (.ireturn, 1) := by decide +kernel
theorem dX10_init_0 : decode cX10_init 0 = .ok (.aload_n 0, 1) := by decide +kernel
theorem dX10_init_1 : decode cX10_init 1 = .ok (.invokespecial 3, 3) := by decide +kernel
theorem dX10_init_4 : decode cX10_init 4 = .ok (.aload_n 0, 1) := by decide +kernel
theorem dX10_init_5 : decode cX10_init 5 = .ok (.sipush 256, 3) := by decide +kernel
theorem dX10_init_8 : decode cX10_init 8 = .ok (.newarray .int, 2) := by decide +kernel
theorem dX10_init_10 : decode cX10_init 10 = .ok (.putfield 11, 3) := by decide +kernel
theorem dX10_init_13 : decode cX10_init 13 = .ok (.aload_n 0, 1) := by decide +kernel
theorem dX10_init_14 : decode cX10_init 14 = .ok (.bipush (-4), 2) := by decide +kernel
theorem dX10_init_16 : decode cX10_init 16 = .ok (.putfield 17, 3) := by decide +kernel
theorem dX10_init_19 : decode cX10_init 19 = .ok (.aload_n 0, 1) := by decide +kernel
theorem dX10_init_20 : decode cX10_init 20 = .ok (.iconst 0, 1) := by decide +kernel
theorem dX10_init_21 : decode cX10_init 21 = .ok (.putfield 21, 3) := by decide +kernel
theorem dX10_init_24 : decode cX10_init 24 = .ok (.return_, 1) := by decide +kernel
theorem dX10_clear_0 : decode cX10_clear 0 = .ok (.aload_n 0, 1) := by decide +kernel
theorem dX10_clear_1 : decode cX10_clear 1 = .ok (.getfield 11, 3) := by decide +kernel
theorem dX10_clear_4 : decode cX10_clear 4 = .ok (.iconst 0, 1) := by decide +kernel
theorem dX10_clear_5 : decode cX10_clear 5 = .ok (.invokestatic 24, 3) := by decide +kernel
theorem dX10_clear_8 : decode cX10_clear 8 = .ok (.aload_n 0, 1) := by decide +kernel
theorem dX10_clear_9 : decode cX10_clear 9 = .ok (.bipush (-4), 2) := by decide +kernel
theorem dX10_clear_11 : decode cX10_clear 11 = .ok (.putfield 17, 3) := by decide +kernel
theorem dX10_clear_14 : decode cX10_clear 14 = .ok (.aload_n 0, 1) := by decide +kernel
theorem dX10_clear_15 : decode cX10_clear 15 = .ok (.iconst 0, 1) := by decide +kernel
theorem dX10_clear_16 : decode cX10_clear 16 = .ok (.putfield 21, 3) := by decide +kernel
theorem dX10_clear_19 : decode cX10_clear 19 = .ok (.return_, 1) := by decide +kernel
theorem dX10_add_0 : decode cX10_add 0 = .ok (.iload_n 1, 1) := by decide +kernel
theorem dX10_add_1 : decode cX10_add 1 = .ok (.ifCond .lt 12, 3) := by decide +kernel
theorem dX10_add_4 : decode cX10_add 4 = .ok (.iload_n 1, 1) := by decide +kernel
theorem dX10_add_5 : decode cX10_add 5 = .ok (.aload_n 0, 1) := by decide +kernel
theorem dX10_add_6 : decode cX10_add 6 = .ok (.getfield 11, 3) := by decide +kernel
theorem dX10_add_9 : decode cX10_add 9 = .ok (.arraylength, 1) := by decide +kernel
theorem dX10_add_10 : decode cX10_add 10 = .ok (.if_icmp .lt 4, 3) := by decide +kernel
theorem dX10_add_13 : decode cX10_add 13 = .ok (.return_, 1) := by decide +kernel
theorem dX10_add_14 : decode cX10_add 14 = .ok (.iload_n 1, 1) := by decide +kernel
theorem dX10_add_15 : decode cX10_add 15 = .ok (.aload_n 0, 1) := by decide +kernel
theorem dX10_add_16 : decode cX10_add 16 = .ok (.getfield 17, 3) := by decide +kernel
theorem dX10_add_19 : decode cX10_add 19 = .ok (.if_icmp .ge 13, 3) := by decide +kernel
theorem dX10_add_22 : decode cX10_add 22 = .ok (.aload_n 0, 1) := by decide +kernel
theorem dX10_add_23 : decode cX10_add 23 = .ok (.dup, 1) := by decide +kernel
theorem dX10_add_24 : decode cX10_add 24 = .ok (.getfield 21, 3) := by decide +kernel
theorem dX10_add_27 : decode cX10_add 27 = .ok (.iconst 1, 1) := by decide +kernel
theorem dX10_add_28 : decode cX10_add 28 = .ok (.iadd, 1) := by decide +kernel
theorem dX10_add_29 : decode cX10_add 29 = .ok (.putfield 21, 3) := by decide +kernel
theorem dX10_add_32 : decode cX10_add 32 = .ok (.aload_n 0, 1) := by decide +kernel
theorem dX10_add_33 : decode cX10_add 33 = .ok (.iload_n 1, 1) := by decide +kernel
theorem dX10_add_34 : decode cX10_add 34 = .ok (.putfield 17, 3) := by decide +kernel
theorem dX10_add_37 : decode cX10_add 37 = .ok (.aload_n 0, 1) := by decide +kernel
theorem dX10_add_38 : decode cX10_add 38 = .ok (.getfield 11, 3) := by decide +kernel
theorem dX10_add_41 : decode cX10_add 41 = .ok (.iload_n 1, 1) := by decide +kernel
theorem dX10_add_42 : decode cX10_add 42 = .ok (.dup2, 1) := by decide +kernel
theorem dX10_add_43 : decode cX10_add 43 = .ok (.iaload, 1) := by decide +kernel
theorem dX10_add_44 : decode cX10_add 44 = .ok (.iconst 1, 1) := by decide +kernel
theorem dX10_add_45 : decode cX10_add 45 = .ok (.iadd, 1) := by decide +kernel
theorem dX10_add_46 : decode cX10_add 46 = .ok (.iastore, 1) := by decide +kernel
theorem dX10_add_47 : decode cX10_add 47 = .ok (.return_, 1) := by decide +kernel
theorem dX10_unlike_0 : decode cX10_unlike 0 = .ok (.iconst 0, 1) := by decide +kernel
theorem dX10_unlike_1 : decode cX10_unlike 1 = .ok (.istore_n 1, 1) := by decide +kernel
theorem dX10_unlike_2 : decode cX10_unlike 2 = .ok (.iconst 0, 1) := by decide +kernel
theorem dX10_unlike_3 : decode cX10_unlike 3 = .ok (.istore_n 2, 1) := by decide +kernel
theorem dX10_unlike_4 : decode cX10_unlike 4 = .ok (.iload_n 2, 1) := by decide +kernel
theorem dX10_unlike_5 : decode cX10_unlike 5 = .ok (.aload_n 0, 1) := by decide +kernel
theorem dX10_unlike_6 : decode cX10_unlike 6 = .ok (.getfield 11, 3) := by decide +kernel
theorem dX10_unlike_9 : decode cX10_unlike 9 = .ok (.arraylength, 1) := by decide +kernel
theorem dX10_unlike_10 : decode cX10_unlike 10 = .ok (.if_icmp .ge 21, 3) := by decide +kernel
theorem dX10_unlike_13 : decode cX10_unlike 13 = .ok (.aload_n 0, 1) := by decide +kernel
theorem dX10_unlike_14 : decode cX10_unlike 14 = .ok (.getfield 11, 3) := by decide +kernel
theorem dX10_unlike_17 : decode cX10_unlike 17 = .ok (.iload_n 2, 1) := by decide +kernel
theorem dX10_unlike_18 : decode cX10_unlike 18 = .ok (.iaload, 1) := by decide +kernel
theorem dX10_unlike_19 : decode cX10_unlike 19 = .ok (.ifCond .le 6, 3) := by decide +kernel
theorem dX10_unlike_22 : decode cX10_unlike 22 = .ok (.iinc 1 1, 3) := by decide +kernel
theorem dX10_unlike_25 : decode cX10_unlike 25 = .ok (.iinc 2 1, 3) := by decide +kernel
theorem dX10_unlike_28 : decode cX10_unlike 28 = .ok (.goto (-24), 3) := by decide +kernel
theorem dX10_unlike_31 : decode cX10_unlike 31 = .ok (.iload_n 1, 1) := by decide +kernel
theorem dX10_unlike_32 : decode cX10_unlike 32 = .ok (.ireturn, 1) := by decide +kernel
theorem dX10_mostOften_0 : decode cX10_mostOften 0 = .ok (.iconst 0, 1) := by decide +kernel
theorem dX10_mostOften_1 : decode cX10_mostOften 1 = .ok (.istore_n 1, 1) := by decide +kernel
theorem dX10_mostOften_2 : decode cX10_mostOften 2 = .ok (.bipush (-4), 2) := by decide +kernel
theorem dX10_mostOften_4 : decode cX10_mostOften 4 = .ok (.istore_n 2, 1) := by decide +kernel
theorem dX10_mostOften_5 : decode cX10_mostOften 5 = .ok (.iconst 0, 1) := by decide +kernel
theorem dX10_mostOften_6 : decode cX10_mostOften 6 = .ok (.istore_n 3, 1) := by decide +kernel
theorem dX10_mostOften_7 : decode cX10_mostOften 7 = .ok (.iload_n 3, 1) := by decide +kernel
theorem dX10_mostOften_8 : decode cX10_mostOften 8 = .ok (.aload_n 0, 1) := by decide +kernel
theorem dX10_mostOften_9 : decode cX10_mostOften 9 = .ok (.getfield 11, 3) := by decide +kernel
theorem dX10_mostOften_12 : decode cX10_mostOften 12 = .ok (.arraylength, 1) := by decide +kernel
theorem dX10_mostOften_13 : decode cX10_mostOften 13 = .ok (.if_icmp .ge 28, 3) := by decide +kernel
theorem dX10_mostOften_16 : decode cX10_mostOften 16 = .ok (.aload_n 0, 1) := by decide +kernel
theorem dX10_mostOften_17 : decode cX10_mostOften 17 = .ok (.getfield 11, 3) := by decide +kernel
theorem dX10_mostOften_20 : decode cX10_mostOften 20 = .ok (.iload_n 3, 1) := by decide +kernel
theorem dX10_mostOften_21 : decode cX10_mostOften 21 = .ok (.iaload, 1) := by decide +kernel
theorem dX10_mostOften_22 : decode cX10_mostOften 22 = .ok (.iload_n 1, 1) := by decide +kernel
theorem dX10_mostOften_23 : decode cX10_mostOften 23 = .ok (.if_icmp .le 12, 3) := by decide +kernel
theorem dX10_mostOften_26 : decode cX10_mostOften 26 = .ok (.aload_n 0, 1) := by decide +kernel
theorem dX10_mostOften_27 : decode cX10_mostOften 27 = .ok (.getfield 11, 3) := by decide +kernel
theorem dX10_mostOften_30 : decode cX10_mostOften 30 = .ok (.iload_n 3, 1) := by decide +kernel
theorem dX10_mostOften_31 : decode cX10_mostOften 31 = .ok (.iaload, 1) := by decide +kernel
theorem dX10_mostOften_32 : decode cX10_mostOften 32 = .ok (.istore_n 1, 1) := by decide +kernel
theorem dX10_mostOften_33 : decode cX10_mostOften 33 = .ok (.iload_n 3, 1) := by decide +kernel
theorem dX10_mostOften_34 : decode cX10_mostOften 34 = .ok (.istore_n 2, 1) := by decide +kernel
theorem dX10_mostOften_35 : decode cX10_mostOften 35 = .ok (.iinc 3 1, 3) := by decide +kernel
theorem dX10_mostOften_38 : decode cX10_mostOften 38 = .ok (.goto (-31), 3) := by decide +kernel
theorem dX10_mostOften_41 : decode cX10_mostOften 41 = .ok (.iload_n 2, 1) := by decide +kernel
theorem dX10_mostOften_42 : decode cX10_mostOften 42 = .ok (.ireturn, 1) := by decide +kernel
theorem dX11_init_0 : decode cX11_init 0 = .ok (.aload_n 0, 1) := by decide +kernel
theorem dX11_init_1 : decode cX11_init 1 = .ok (.invokespecial 1, 3) := by decide +kernel
theorem dX11_init_4 : decode cX11_init 4 = .ok (.aload_n 0, 1) := by decide +kernel
theorem dX11_init_5 : decode cX11_init 5 = .ok (.new 7, 3) := by decide +kernel
theorem dX11_init_8 : decode cX11_init 8 = .ok (.dup, 1) := by decide +kernel
theorem dX11_init_9 : decode cX11_init 9 = .ok (.invokespecial 9, 3) := by decide +kernel
theorem dX11_init_12 : decode cX11_init 12 = .ok (.putfield 10, 3) := by decide +kernel
theorem dX11_init_15 : decode cX11_init 15 = .ok (.aload_n 0, 1) := by decide +kernel
theorem dX11_init_16 : decode cX11_init 16 = .ok (.new 7, 3) := by decide +kernel
theorem dX11_init_19 : decode cX11_init 19 = .ok (.dup, 1) := by decide +kernel
theorem dX11_init_20 : decode cX11_init 20 = .ok (.invokespecial 9, 3) := by decide +kernel
theorem dX11_init_23 : decode cX11_init 23 = .ok (.putfield 16, 3) := by decide +kernel
theorem dX11_init_26 : decode cX11_init 26 = .ok (.aload_n 0, 1) := by decide +kernel
theorem dX11_init_27 : decode cX11_init 27 = .ok (.new 19, 3) := by decide +kernel
theorem dX11_init_30 : decode cX11_init 30 = .ok (.dup, 1) := by decide +kernel
theorem dX11_init_31 : decode cX11_init 31 = .ok (.invokespecial 21, 3) := by decide +kernel
theorem dX11_init_34 : decode cX11_init 34 = .ok (.putfield 22, 3) := by decide +kernel
theorem dX11_init_37 : decode cX11_init 37 = .ok (.aload_n 0, 1) := by decide +kernel
theorem dX11_init_38 : decode cX11_init 38 = .ok (.new 26, 3) := by decide +kernel
theorem dX11_init_41 : decode cX11_init 41 = .ok (.dup, 1) := by decide +kernel
theorem dX11_init_42 : decode cX11_init 42 = .ok (.aload_n 0, 1) := by decide +kernel
theorem dX11_init_43 : decode cX11_init 43 = .ok (.getfield 22, 3) := by decide +kernel
theorem dX11_init_46 : decode cX11_init 46 = .ok (.aload_n 0, 1) := by decide +kernel
theorem dX11_init_47 : decode cX11_init 47 = .ok (.getfield 16, 3) := by decide +kernel
theorem dX11_init_50 : decode cX11_init 50 = .ok (.invokespecial 28, 3) := by decide +kernel
theorem dX11_init_53 : decode cX11_init 53 = .ok (.putfield 31, 3) := by decide +kernel
theorem dX11_init_56 : decode cX11_init 56 = .ok (.aload_n 0, 1) := by decide +kernel
theorem dX11_init_57 : decode cX11_init 57 = .ok (.new 35, 3) := by decide +kernel
theorem dX11_init_60 : decode cX11_init 60 = .ok (.dup, 1) := by decide +kernel
theorem dX11_init_61 : decode cX11_init 61 = .ok (.aload_n 0, 1) := by decide +kernel
theorem dX11_init_62 : decode cX11_init 62 = .ok (.getfield 10, 3) := by decide +kernel
theorem dX11_init_65 : decode cX11_init 65 = .ok (.invokespecial 37, 3) := by decide +kernel
theorem dX11_init_68 : decode cX11_init 68 = .ok (.putfield 40, 3) := by decide +kernel
theorem dX11_init_71 : decode cX11_init 71 = .ok (.aload_n 0, 1) := by decide +kernel
theorem dX11_init_72 : decode cX11_init 72 = .ok (.new 44, 3) := by decide +kernel
theorem dX11_init_75 : decode cX11_init 75 = .ok (.dup, 1) := by decide +kernel
theorem dX11_init_76 : decode cX11_init 76 = .ok (.invokespecial 46, 3) := by decide +kernel
theorem dX11_init_79 : decode cX11_init 79 = .ok (.putfield 47, 3) := by decide +kernel
theorem dX11_init_82 : decode cX11_init 82 = .ok (.aload_n 0, 1) := by decide +kernel
theorem dX11_init_83 : decode cX11_init 83 = .ok (.new 51, 3) := by decide +kernel
theorem dX11_init_86 : decode cX11_init 86 = .ok (.dup, 1) := by decide +kernel
theorem dX11_init_87 : decode cX11_init 87 = .ok (.aload_n 0, 1) := by decide +kernel
theorem dX11_init_88 : decode cX11_init 88 = .ok (.getfield 10, 3) := by decide +kernel
theorem dX11_init_91 : decode cX11_init 91 = .ok (.invokespecial 53, 3) := by decide +kernel
theorem dX11_init_94 : decode cX11_init 94 = .ok (.putfield 54, 3) := by decide +kernel
theorem dX11_init_97 : decode cX11_init 97 = .ok (.aload_n 0, 1) := by decide +kernel
theorem dX11_init_98 : decode cX11_init 98 = .ok (.new 58, 3) := by decide +kernel
theorem dX11_init_101 : decode cX11_init 101 = .ok (.dup, 1) := by decide +kernel
theorem dX11_init_102 : decode cX11_init 102 = .ok (.invokespecial 60, 3) := by decide +kernel
theorem dX11_init_105 : decode cX11_init 105 = .ok (.putfield 61, 3) := by decide +kernel
theorem dX11_init_108 : decode cX11_init 108 = .ok (.aload_n 0, 1) := by decide +kernel
theorem dX11_init_109 : decode cX11_init 109 = .ok (.new 58, 3) := by decide +kernel
theorem dX11_init_112 : decode cX11_init 112 = .ok (.dup, 1) := by decide +kernel
theorem dX11_init_113 : decode cX11_init 113 = .ok (.invokespecial 60, 3) := by decide +kernel
theorem dX11_init_116 : decode cX11_init 116 = .ok (.putfield 65, 3) := by decide +kernel
theorem dX11_init_119 : decode cX11_init 119 = .ok (.aload_n 0, 1) := by decide +kernel
theorem dX11_init_120 : decode cX11_init 120 = .ok (.new 68, 3) := by decide +kernel
theorem dX11_init_123 : decode cX11_init 123 = .ok (.dup, 1) := by decide +kernel
theorem dX11_init_124 : decode cX11_init 124 = .ok (.aload_n 0, 1) := by decide +kernel
theorem dX11_init_125 : decode cX11_init 125 = .ok (.getfield 10, 3) := by decide +kernel
theorem dX11_init_128 : decode cX11_init 128 = .ok (.invokespecial 70, 3) := by decide +kernel
theorem dX11_init_131 : decode cX11_init 131 = .ok (.putfield 71, 3) := by decide +kernel
theorem dX11_init_134 : decode cX11_init 134 = .ok (.aload_n 0, 1) := by decide +kernel
theorem dX11_init_135 : decode cX11_init 135 = .ok (.iconst 4, 1) := by decide +kernel
theorem dX11_init_136 : decode cX11_init 136 = .ok (.anewarray 75, 3) := by decide +kernel
theorem dX11_init_139 : decode cX11_init 139 = .ok (.putfield 77, 3) := by decide +kernel
theorem dX11_init_142 : decode cX11_init 142 = .ok (.iconst 0, 1) := by decide +kernel
theorem dX11_init_143 : decode cX11_init 143 = .ok (.istore_n 1, 1) := by decide +kernel
theorem dX11_init_144 : decode cX11_init 144 = .ok (.iload_n 1, 1) := by decide +kernel
theorem dX11_init_145 : decode cX11_init 145 = .ok (.aload_n 0, 1) := by decide +kernel
theorem dX11_init_146 : decode cX11_init 146 = .ok (.getfield 77, 3) := by decide +kernel
theorem dX11_init_149 : decode cX11_init 149 = .ok (.arraylength, 1) := by decide +kernel
theorem dX11_init_150 : decode cX11_init 150 = .ok (.if_icmp .ge 22, 3) := by decide +kernel
theorem dX11_init_153 : decode cX11_init 153 = .ok (.aload_n 0, 1) := by decide +kernel
theorem dX11_init_154 : decode cX11_init 154 = .ok (.getfield 77, 3) := by decide +kernel
theorem dX11_init_157 : decode cX11_init 157 = .ok (.iload_n 1, 1) := by decide +kernel
theorem dX11_init_158 : decode cX11_init 158 = .ok (.new 75, 3) := by decide +kernel
theorem dX11_init_161 : decode cX11_init 161 = .ok (.dup, 1) := by decide +kernel
theorem dX11_init_162 : decode cX11_init 162 = .ok (.invokespecial 81, 3) := by decide +kernel
theorem dX11_init_165 : decode cX11_init 165 = .ok (.aastore, 1) := by decide +kernel
theorem dX11_init_166 : decode cX11_init 166 = .ok (.iinc 1 1, 3) := by decide +kernel
theorem dX11_init_169 : decode cX11_init 169 = .ok (.goto (-25), 3) := by decide +kernel
theorem dX11_init_172 : decode cX11_init 172 = .ok (.aload_n 0, 1) := by decide +kernel
theorem dX11_init_173 : decode cX11_init 173 = .ok (.new 82, 3) := by decide +kernel
theorem dX11_init_176 : decode cX11_init 176 = .ok (.dup, 1) := by decide +kernel
theorem dX11_init_177 : decode cX11_init 177 = .ok (.invokespecial 84, 3) := by decide +kernel
theorem dX11_init_180 : decode cX11_init 180 = .ok (.putfield 85, 3) := by decide +kernel
theorem dX11_init_183 : decode cX11_init 183 = .ok (.return_, 1) := by decide +kernel
theorem dX11_feed_0 : decode cX11_feed 0 = .ok (.aload_n 0, 1) := by decide +kernel
theorem dX11_feed_1 : decode cX11_feed 1 = .ok (.getfield 22, 3) := by decide +kernel
theorem dX11_feed_4 : decode cX11_feed 4 = .ok (.lload_n 1, 1) := by decide +kernel
theorem dX11_feed_5 : decode cX11_feed 5 = .ok (.invokevirtual 89, 3) := by decide +kernel
theorem dX11_feed_8 : decode cX11_feed 8 = .ok (.ifCond .eq 13, 3) := by decide +kernel
theorem dX11_feed_11 : decode cX11_feed 11 = .ok (.aload_n 0, 1) := by decide +kernel
theorem dX11_feed_12 : decode cX11_feed 12 = .ok (.getfield 22, 3) := by decide +kernel
theorem dX11_feed_15 : decode cX11_feed 15 = .ok (.getfield 93, 3) := by decide +kernel
theorem dX11_feed_18 : decode cX11_feed 18 = .ok (.goto 5, 3) := by decide +kernel
theorem dX11_feed_21 : decode cX11_feed 21 = .ok (.bipush (-3), 2) := by decide +kernel
theorem dX11_feed_23 : decode cX11_feed 23 = .ok (.ireturn, 1) := by decide +kernel
theorem dX11_end_0 : decode cX11_end 0 = .ok (.iload_n 1, 1) := by decide +kernel
theorem dX11_end_1 : decode cX11_end 1 = .ok (.ifCond .lt 14, 3) := by decide +kernel
theorem dX11_end_4 : decode cX11_end 4 = .ok (.iload_n 1, 1) := by decide +kernel
theorem dX11_end_5 : decode cX11_end 5 = .ok (.aload_n 0, 1) := by decide +kernel
theorem dX11_end_6 : decode cX11_end 6 = .ok (.getfield 22, 3) := by decide +kernel
theorem dX11_end_9 : decode cX11_end 9 = .ok (.getfield 93, 3) := by decide +kernel
theorem dX11_end_12 : decode cX11_end 12 = .ok (.if_icmp .le 5, 3) := by decide +kernel
theorem dX11_end_15 : decode cX11_end 15 = .ok (.iconst (-1), 1) := by decide +kernel
theorem dX11_end_16 : decode cX11_end 16 = .ok (.ireturn, 1) := by decide +kernel
theorem dX11_end_17 : decode cX11_end 17 = .ok (.aload_n 0, 1) := by decide +kernel
theorem dX11_end_18 : decode cX11_end 18 = .ok (.getfield 22, 3) := by decide +kernel
theorem dX11_end_21 : decode cX11_end 21 = .ok (.getfield 93, 3) := by decide +kernel
theorem dX11_end_24 : decode cX11_end 24 = .ok (.istore_n 2, 1) := by decide +kernel
theorem dX11_end_25 : decode cX11_end 25 = .ok (.aload_n 0, 1) := by decide +kernel
theorem dX11_end_26 : decode cX11_end 26 = .ok (.getfield 22, 3) := by decide +kernel
theorem dX11_end_29 : decode cX11_end 29 = .ok (.iload_n 1, 1) := by decide +kernel
theorem dX11_end_30 : decode cX11_end 30 = .ok (.putfield 93, 3) := by decide +kernel
theorem dX11_end_33 : decode cX11_end 33 = .ok (.iload_n 2, 1) := by decide +kernel
theorem dX11_end_34 : decode cX11_end 34 = .ok (.ireturn, 1) := by decide +kernel
theorem dX11_text_0 : decode cX11_text 0 = .ok (.aload_n 0, 1) := by decide +kernel
theorem dX11_text_1 : decode cX11_text 1 = .ok (.getfield 31, 3) := by decide +kernel
theorem dX11_text_4 : decode cX11_text 4 = .ok (.invokevirtual 97, 3) := by decide +kernel
theorem dX11_text_7 : decode cX11_text 7 = .ok (.istore_n 1, 1) := by decide +kernel
theorem dX11_text_8 : decode cX11_text 8 = .ok (.aload_n 0, 1) := by decide +kernel
theorem dX11_text_9 : decode cX11_text 9 = .ok (.getfield 22, 3) := by decide +kernel
theorem dX11_text_12 : decode cX11_text 12 = .ok (.iconst 0, 1) := by decide +kernel
theorem dX11_text_13 : decode cX11_text 13 = .ok (.putfield 93, 3) := by decide +kernel
theorem dX11_text_16 : decode cX11_text 16 = .ok (.aload_n 0, 1) := by decide +kernel
theorem dX11_text_17 : decode cX11_text 17 = .ok (.getfield 31, 3) := by decide +kernel
theorem dX11_text_20 : decode cX11_text 20 = .ok (.getfield 101, 3) := by decide +kernel
theorem dX11_text_23 : decode cX11_text 23 = .ok (.ifCond .eq 14, 3) := by decide +kernel
theorem dX11_text_26 : decode cX11_text 26 = .ok (.bipush (-10), 2) := by decide +kernel
theorem dX11_text_28 : decode cX11_text 28 = .ok (.aload_n 0, 1) := by decide +kernel
theorem dX11_text_29 : decode cX11_text 29 = .ok (.getfield 31, 3) := by decide +kernel
theorem dX11_text_32 : decode cX11_text 32 = .ok (.getfield 104, 3) := by decide +kernel
theorem dX11_text_35 : decode cX11_text 35 = .ok (.isub, 1) := by decide +kernel
theorem dX11_text_36 : decode cX11_text 36 = .ok (.ireturn, 1) := by decide +kernel
theorem dX11_text_37 : decode cX11_text 37 = .ok (.aload_n 0, 1) := by decide +kernel
theorem dX11_text_38 : decode cX11_text 38 = .ok (.getfield 10, 3) := by decide +kernel
theorem dX11_text_41 : decode cX11_text 41 = .ok (.aload_n 0, 1) := by decide +kernel
theorem dX11_text_42 : decode cX11_text 42 = .ok (.getfield 16, 3) := by decide +kernel
theorem dX11_text_45 : decode cX11_text 45 = .ok (.invokevirtual 107, 3) := by decide +kernel
theorem dX11_text_48 : decode cX11_text 48 = .ok (.aload_n 0, 1) := by decide +kernel
theorem dX11_text_49 : decode cX11_text 49 = .ok (.getfield 40, 3) := by decide +kernel
theorem dX11_text_52 : decode cX11_text 52 = .ok (.invokevirtual 110, 3) := by decide +kernel
theorem dX11_text_55 : decode cX11_text 55 = .ok (.aload_n 0, 1) := by decide +kernel
theorem dX11_text_56 : decode cX11_text 56 = .ok (.getfield 71, 3) := by decide +kernel
theorem dX11_text_59 : decode cX11_text 59 = .ok (.iconst 0, 1) := by decide +kernel
theorem dX11_text_60 : decode cX11_text 60 = .ok (.putfield 113, 3) := by decide +kernel
theorem dX11_text_63 : decode cX11_text 63 = .ok (.iload_n 1, 1) := by decide +kernel
theorem dX11_text_64 : decode cX11_text 64 = .ok (.ireturn, 1) := by decide +kernel
theorem dX11_fault_0 : decode cX11_fault 0 = .ok (.aload_n 0, 1) := by decide +kernel
theorem dX11_fault_1 : decode cX11_fault 1 = .ok (.getfield 31, 3) := by decide +kernel
theorem dX11_fault_4 : decode cX11_fault 4 = .ok (.getfield 101, 3) := by decide +kernel
theorem dX11_fault_7 : decode cX11_fault 7 = .ok (.ireturn, 1) := by decide +kernel
theorem dX11_rule_0 : decode cX11_rule 0 = .ok (.iload_n 1, 1) := by decide +kernel
theorem dX11_rule_1 : decode cX11_rule 1 = .ok (.tableswitch 95 0 5 #[39, 47, 55, 63, 79, 87], 39) := by decide +kernel
theorem dX11_rule_40 : decode cX11_rule 40 = .ok (.aload_n 0, 1) := by decide +kernel
theorem dX11_rule_41 : decode cX11_rule 41 = .ok (.getfield 10, 3) := by decide +kernel
theorem dX11_rule_44 : decode cX11_rule 44 = .ok (.getfield 116, 3) := by decide +kernel
theorem dX11_rule_47 : decode cX11_rule 47 = .ok (.ireturn, 1) := by decide +kernel
theorem dX11_rule_48 : decode cX11_rule 48 = .ok (.aload_n 0, 1) := by decide +kernel
theorem dX11_rule_49 : decode cX11_rule 49 = .ok (.getfield 10, 3) := by decide +kernel
theorem dX11_rule_52 : decode cX11_rule 52 = .ok (.getfield 119, 3) := by decide +kernel
theorem dX11_rule_55 : decode cX11_rule 55 = .ok (.ireturn, 1) := by decide +kernel
theorem dX11_rule_56 : decode cX11_rule 56 = .ok (.aload_n 0, 1) := by decide +kernel
theorem dX11_rule_57 : decode cX11_rule 57 = .ok (.getfield 10, 3) := by decide +kernel
theorem dX11_rule_60 : decode cX11_rule 60 = .ok (.getfield 122, 3) := by decide +kernel
theorem dX11_rule_63 : decode cX11_rule 63 = .ok (.ireturn, 1) := by decide +kernel
theorem dX11_rule_64 : decode cX11_rule 64 = .ok (.aload_n 0, 1) := by decide +kernel
theorem dX11_rule_65 : decode cX11_rule 65 = .ok (.getfield 10, 3) := by decide +kernel
theorem dX11_rule_68 : decode cX11_rule 68 = .ok (.getfield 125, 3) := by decide +kernel
theorem dX11_rule_71 : decode cX11_rule 71 = .ok (.ifCond .eq 7, 3) := by decide +kernel
theorem dX11_rule_74 : decode cX11_rule 74 = .ok (.iconst 1, 1) := by decide +kernel
theorem dX11_rule_75 : decode cX11_rule 75 = .ok (.goto 4, 3) := by decide +kernel
theorem dX11_rule_78 : decode cX11_rule 78 = .ok (.iconst 0, 1) := by decide +kernel
theorem dX11_rule_79 : decode cX11_rule 79 = .ok (.ireturn, 1) := by decide +kernel
theorem dX11_rule_80 : decode cX11_rule 80 = .ok (.aload_n 0, 1) := by decide +kernel
theorem dX11_rule_81 : decode cX11_rule 81 = .ok (.getfield 10, 3) := by decide +kernel
theorem dX11_rule_84 : decode cX11_rule 84 = .ok (.getfield 129, 3) := by decide +kernel
theorem dX11_rule_87 : decode cX11_rule 87 = .ok (.ireturn, 1) := by decide +kernel
theorem dX11_rule_88 : decode cX11_rule 88 = .ok (.aload_n 0, 1) := by decide +kernel
theorem dX11_rule_89 : decode cX11_rule 89 = .ok (.getfield 10, 3) := by decide +kernel
theorem dX11_rule_92 : decode cX11_rule 92 = .ok (.getfield 132, 3) := by decide +kernel
theorem dX11_rule_95 : decode cX11_rule 95 = .ok (.ireturn, 1) := by decide +kernel
theorem dX11_rule_96 : decode cX11_rule 96 = .ok (.iload_n 1, 1) := by decide +kernel
theorem dX11_rule_97 : decode cX11_rule 97 = .ok (.bipush 10, 2) := by decide +kernel
theorem dX11_rule_99 : decode cX11_rule 99 = .ok (.if_icmp .lt 21, 3) := by decide +kernel
theorem dX11_rule_102 : decode cX11_rule 102 = .ok (.iload_n 1, 1) := by decide +kernel
theorem dX11_rule_103 : decode cX11_rule 103 = .ok (.bipush 19, 2) := by decide +kernel
theorem dX11_rule_105 : decode cX11_rule 105 = .ok (.if_icmp .ge 15, 3) := by decide +kernel
theorem dX11_rule_108 : decode cX11_rule 108 = .ok (.aload_n 0, 1) := by decide +kernel
theorem dX11_rule_109 : decode cX11_rule 109 = .ok (.getfield 10, 3) := by decide +kernel
theorem dX11_rule_112 : decode cX11_rule 112 = .ok (.iload_n 1, 1) := by decide +kernel
theorem dX11_rule_113 : decode cX11_rule 113 = .ok (.bipush 10, 2) := by decide +kernel
theorem dX11_rule_115 : decode cX11_rule 115 = .ok (.isub, 1) := by decide +kernel
theorem dX11_rule_116 : decode cX11_rule 116 = .ok (.invokevirtual 135, 3) := by decide +kernel
theorem dX11_rule_119 : decode cX11_rule 119 = .ok (.ireturn, 1) := by decide +kernel
theorem dX11_rule_120 : decode cX11_rule 120 = .ok (.iload_n 1, 1) := by decide +kernel
theorem dX11_rule_121 : decode cX11_rule 121 = .ok (.bipush 30, 2) := by decide +kernel
theorem dX11_rule_123 : decode cX11_rule 123 = .ok (.if_icmp .lt 21, 3) := by decide +kernel
theorem dX11_rule_126 : decode cX11_rule 126 = .ok (.iload_n 1, 1) := by decide +kernel
theorem dX11_rule_127 : decode cX11_rule 127 = .ok (.bipush 46, 2) := by decide +kernel
theorem dX11_rule_129 : decode cX11_rule 129 = .ok (.if_icmp .ge 15, 3) := by decide +kernel
theorem dX11_rule_132 : decode cX11_rule 132 = .ok (.aload_n 0, 1) := by decide +kernel
theorem dX11_rule_133 : decode cX11_rule 133 = .ok (.getfield 10, 3) := by decide +kernel
theorem dX11_rule_136 : decode cX11_rule 136 = .ok (.iload_n 1, 1) := by decide +kernel
theorem dX11_rule_137 : decode cX11_rule 137 = .ok (.bipush 30, 2) := by decide +kernel
theorem dX11_rule_139 : decode cX11_rule 139 = .ok (.isub, 1) := by decide +kernel
theorem dX11_rule_140 : decode cX11_rule 140 = .ok (.invokevirtual 139, 3) := by decide +kernel
theorem dX11_rule_143 : decode cX11_rule 143 = .ok (.ireturn, 1) := by decide +kernel
theorem dX11_rule_144 : decode cX11_rule 144 = .ok (.sipush (-1000), 3) := by decide +kernel
theorem dX11_rule_147 : decode cX11_rule 147 = .ok (.ireturn, 1) := by decide +kernel
theorem dX11_out_0 : decode cX11_out 0 = .ok (.aload_n 0, 1) := by decide +kernel
theorem dX11_out_1 : decode cX11_out 1 = .ok (.getfield 10, 3) := by decide +kernel
theorem dX11_out_4 : decode cX11_out 4 = .ok (.iload_n 1, 1) := by decide +kernel
theorem dX11_out_5 : decode cX11_out 5 = .ok (.invokevirtual 142, 3) := by decide +kernel
theorem dX11_out_8 : decode cX11_out 8 = .ok (.ifCond .eq 14, 3) := by decide +kernel
theorem dX11_out_11 : decode cX11_out 11 = .ok (.aload_n 0, 1) := by decide +kernel
theorem dX11_out_12 : decode cX11_out 12 = .ok (.getfield 40, 3) := by decide +kernel
theorem dX11_out_15 : decode cX11_out 15 = .ok (.iload_n 1, 1) := by decide +kernel
theorem dX11_out_16 : decode cX11_out 16 = .ok (.invokevirtual 146, 3) := by decide +kernel
theorem dX11_out_19 : decode cX11_out 19 = .ok (.goto 5, 3) := by decide +kernel
theorem dX11_out_22 : decode cX11_out 22 = .ok (.ldc 149, 2) := by decide +kernel
theorem dX11_out_24 : decode cX11_out 24 = .ok (.ireturn, 1) := by decide +kernel
theorem dX11_lsb_0 : decode cX11_lsb 0 = .ok (.iload_n 1, 1) := by decide +kernel
theorem dX11_lsb_1 : decode cX11_lsb 1 = .ok (.ifCond .lt 8, 3) := by decide +kernel
theorem dX11_lsb_4 : decode cX11_lsb 4 = .ok (.iload_n 1, 1) := by decide +kernel
theorem dX11_lsb_5 : decode cX11_lsb 5 = .ok (.iconst 1, 1) := by decide +kernel
theorem dX11_lsb_6 : decode cX11_lsb 6 = .ok (.if_icmp .le 6, 3) := by decide +kernel
theorem dX11_lsb_9 : decode cX11_lsb 9 = .ok (.ldc 150, 2) := by decide +kernel
theorem dX11_lsb_11 : decode cX11_lsb 11 = .ok (.ireturn, 1) := by decide +kernel
theorem dX11_lsb_12 : decode cX11_lsb 12 = .ok (.aload_n 0, 1) := by decide +kernel
theorem dX11_lsb_13 : decode cX11_lsb 13 = .ok (.getfield 47, 3) := by decide +kernel
theorem dX11_lsb_16 : decode cX11_lsb 16 = .ok (.aload_n 0, 1) := by decide +kernel
theorem dX11_lsb_17 : decode cX11_lsb 17 = .ok (.getfield 40, 3) := by decide +kernel
theorem dX11_lsb_20 : decode cX11_lsb 20 = .ok (.invokevirtual 151, 3) := by decide +kernel
theorem dX11_lsb_23 : decode cX11_lsb 23 = .ok (.i2l, 1) := by decide +kernel
theorem dX11_lsb_24 : decode cX11_lsb 24 = .ok (.aload_n 0, 1) := by decide +kernel
theorem dX11_lsb_25 : decode cX11_lsb 25 = .ok (.getfield 40, 3) := by decide +kernel
theorem dX11_lsb_28 : decode cX11_lsb 28 = .ok (.invokevirtual 154, 3) := by decide +kernel
theorem dX11_lsb_31 : decode cX11_lsb 31 = .ok (.i2l, 1) := by decide +kernel
theorem dX11_lsb_32 : decode cX11_lsb 32 = .ok (.invokevirtual 157, 3) := by decide +kernel
theorem dX11_lsb_35 : decode cX11_lsb 35 = .ok (.aload_n 0, 1) := by decide +kernel
theorem dX11_lsb_36 : decode cX11_lsb 36 = .ok (.getfield 47, 3) := by decide +kernel
theorem dX11_lsb_39 : decode cX11_lsb 39 = .ok (.iload_n 1, 1) := by decide +kernel
theorem dX11_lsb_40 : decode cX11_lsb 40 = .ok (.invokevirtual 161, 3) := by decide +kernel
theorem dX11_lsb_43 : decode cX11_lsb 43 = .ok (.l2i, 1) := by decide +kernel
theorem dX11_lsb_44 : decode cX11_lsb 44 = .ok (.ireturn, 1) := by decide +kernel
theorem dX11_wide_0 : decode cX11_wide 0 = .ok (.iload_n 1, 1) := by decide +kernel
theorem dX11_wide_1 : decode cX11_wide 1 = .ok (.ifCond .lt 14, 3) := by decide +kernel
theorem dX11_wide_4 : decode cX11_wide 4 = .ok (.iload_n 1, 1) := by decide +kernel
theorem dX11_wide_5 : decode cX11_wide 5 = .ok (.aload_n 0, 1) := by decide +kernel
theorem dX11_wide_6 : decode cX11_wide 6 = .ok (.getfield 40, 3) := by decide +kernel
theorem dX11_wide_9 : decode cX11_wide 9 = .ok (.invokevirtual 154, 3) := by decide +kernel
theorem dX11_wide_12 : decode cX11_wide 12 = .ok (.if_icmp .lt 7, 3) := by decide +kernel
theorem dX11_wide_15 : decode cX11_wide 15 = .ok (.ldc2_w 165, 3) := by decide +kernel
theorem dX11_wide_18 : decode cX11_wide 18 = .ok (.lreturn, 1) := by decide +kernel
theorem dX11_wide_19 : decode cX11_wide 19 = .ok (.aload_n 0, 1) := by decide +kernel
theorem dX11_wide_20 : decode cX11_wide 20 = .ok (.aload_n 0, 1) := by decide +kernel
theorem dX11_wide_21 : decode cX11_wide 21 = .ok (.getfield 40, 3) := by decide +kernel
theorem dX11_wide_24 : decode cX11_wide 24 = .ok (.iload_n 1, 1) := by decide +kernel
theorem dX11_wide_25 : decode cX11_wide 25 = .ok (.invokevirtual 167, 3) := by decide +kernel
theorem dX11_wide_28 : decode cX11_wide 28 = .ok (.iload_n 2, 1) := by decide +kernel
theorem dX11_wide_29 : decode cX11_wide 29 = .ok (.invokevirtual 170, 3) := by decide +kernel
theorem dX11_wide_32 : decode cX11_wide 32 = .ok (.lreturn, 1) := by decide +kernel
theorem dX11_bent_0 : decode cX11_bent 0 = .ok (.aload_n 0, 1) := by decide +kernel
theorem dX11_bent_1 : decode cX11_bent 1 = .ok (.getfield 10, 3) := by decide +kernel
theorem dX11_bent_4 : decode cX11_bent 4 = .ok (.iload_n 1, 1) := by decide +kernel
theorem dX11_bent_5 : decode cX11_bent 5 = .ok (.invokevirtual 142, 3) := by decide +kernel
theorem dX11_bent_8 : decode cX11_bent 8 = .ok (.ifCond .ne 7, 3) := by decide +kernel
theorem dX11_bent_11 : decode cX11_bent 11 = .ok (.ldc2_w 165, 3) := by decide +kernel
theorem dX11_bent_14 : decode cX11_bent 14 = .ok (.lreturn, 1) := by decide +kernel
theorem dX11_bent_15 : decode cX11_bent 15 = .ok (.aload_n 0, 1) := by decide +kernel
theorem dX11_bent_16 : decode cX11_bent 16 = .ok (.aload_n 0, 1) := by decide +kernel
theorem dX11_bent_17 : decode cX11_bent 17 = .ok (.getfield 40, 3) := by decide +kernel
theorem dX11_bent_20 : decode cX11_bent 20 = .ok (.iload_n 1, 1) := by decide +kernel
theorem dX11_bent_21 : decode cX11_bent 21 = .ok (.invokevirtual 174, 3) := by decide +kernel
theorem dX11_bent_24 : decode cX11_bent 24 = .ok (.iload_n 2, 1) := by decide +kernel
theorem dX11_bent_25 : decode cX11_bent 25 = .ok (.invokevirtual 170, 3) := by decide +kernel
theorem dX11_bent_28 : decode cX11_bent 28 = .ok (.lreturn, 1) := by decide +kernel
theorem dX11_uneven_0 : decode cX11_uneven 0 = .ok (.iload_n 3, 1) := by decide +kernel
theorem dX11_uneven_1 : decode cX11_uneven 1 = .ok (.ifCond .lt 8, 3) := by decide +kernel
theorem dX11_uneven_4 : decode cX11_uneven 4 = .ok (.iload_n 3, 1) := by decide +kernel
theorem dX11_uneven_5 : decode cX11_uneven 5 = .ok (.iconst 1, 1) := by decide +kernel
theorem dX11_uneven_6 : decode cX11_uneven 6 = .ok (.if_icmp .le 7, 3) := by decide +kernel
theorem dX11_uneven_9 : decode cX11_uneven 9 = .ok (.ldc2_w 165, 3) := by decide +kernel
theorem dX11_uneven_12 : decode cX11_uneven 12 = .ok (.lreturn, 1) := by decide +kernel
theorem dX11_uneven_13 : decode cX11_uneven 13 = .ok (.aload_n 0, 1) := by decide +kernel
theorem dX11_uneven_14 : decode cX11_uneven 14 = .ok (.getfield 40, 3) := by decide +kernel
theorem dX11_uneven_17 : decode cX11_uneven 17 = .ok (.invokevirtual 151, 3) := by decide +kernel
theorem dX11_uneven_20 : decode cX11_uneven 20 = .ok (.ifCond .gt 7, 3) := by decide +kernel
theorem dX11_uneven_23 : decode cX11_uneven 23 = .ok (.ldc2_w 177, 3) := by decide +kernel
theorem dX11_uneven_26 : decode cX11_uneven 26 = .ok (.lreturn, 1) := by decide +kernel
theorem dX11_uneven_27 : decode cX11_uneven 27 = .ok (.aload_n 0, 1) := by decide +kernel
theorem dX11_uneven_28 : decode cX11_uneven 28 = .ok (.getfield 47, 3) := by decide +kernel
theorem dX11_uneven_31 : decode cX11_uneven 31 = .ok (.lload_n 1, 1) := by decide +kernel
theorem dX11_uneven_32 : decode cX11_uneven 32 = .ok (.aload_n 0, 1) := by decide +kernel
theorem dX11_uneven_33 : decode cX11_uneven 33 = .ok (.getfield 40, 3) := by decide +kernel
theorem dX11_uneven_36 : decode cX11_uneven 36 = .ok (.invokevirtual 151, 3) := by decide +kernel
theorem dX11_uneven_39 : decode cX11_uneven 39 = .ok (.i2l, 1) := by decide +kernel
theorem dX11_uneven_40 : decode cX11_uneven 40 = .ok (.invokevirtual 157, 3) := by decide +kernel
theorem dX11_uneven_43 : decode cX11_uneven 43 = .ok (.aload_n 0, 1) := by decide +kernel
theorem dX11_uneven_44 : decode cX11_uneven 44 = .ok (.getfield 47, 3) := by decide +kernel
theorem dX11_uneven_47 : decode cX11_uneven 47 = .ok (.iload_n 3, 1) := by decide +kernel
theorem dX11_uneven_48 : decode cX11_uneven 48 = .ok (.invokevirtual 161, 3) := by decide +kernel
theorem dX11_uneven_51 : decode cX11_uneven 51 = .ok (.lreturn, 1) := by decide +kernel
theorem dX11_worst_0 : decode cX11_worst 0 = .ok (.iload_n 1, 1) := by decide +kernel
theorem dX11_worst_1 : decode cX11_worst 1 = .ok (.ifCond .lt 17, 3) := by decide +kernel
theorem dX11_worst_4 : decode cX11_worst 4 = .ok (.iload_n 1, 1) := by decide +kernel
theorem dX11_worst_5 : decode cX11_worst 5 = .ok (.iconst 1, 1) := by decide +kernel
theorem dX11_worst_6 : decode cX11_worst 6 = .ok (.if_icmp .gt 12, 3) := by decide +kernel
theorem dX11_worst_9 : decode cX11_worst 9 = .ok (.iload_n 2, 1) := by decide +kernel
theorem dX11_worst_10 : decode cX11_worst 10 = .ok (.ifCond .lt 8, 3) := by decide +kernel
theorem dX11_worst_13 : decode cX11_worst 13 = .ok (.iload_n 2, 1) := by decide +kernel
theorem dX11_worst_14 : decode cX11_worst 14 = .ok (.iconst 2, 1) := by decide +kernel
theorem dX11_worst_15 : decode cX11_worst 15 = .ok (.if_icmp .le 7, 3) := by decide +kernel
theorem dX11_worst_18 : decode cX11_worst 18 = .ok (.ldc2_w 179, 3) := by decide +kernel
theorem dX11_worst_21 : decode cX11_worst 21 = .ok (.lreturn, 1) := by decide +kernel
theorem dX11_worst_22 : decode cX11_worst 22 = .ok (.aload_n 0, 1) := by decide +kernel
theorem dX11_worst_23 : decode cX11_worst 23 = .ok (.getfield 40, 3) := by decide +kernel
theorem dX11_worst_26 : decode cX11_worst 26 = .ok (.invokevirtual 151, 3) := by decide +kernel
theorem dX11_worst_29 : decode cX11_worst 29 = .ok (.ifCond .gt 7, 3) := by decide +kernel
theorem dX11_worst_32 : decode cX11_worst 32 = .ok (.ldc2_w 181, 3) := by decide +kernel
theorem dX11_worst_35 : decode cX11_worst 35 = .ok (.lreturn, 1) := by decide +kernel
theorem dX11_worst_36 : decode cX11_worst 36 = .ok (.aload_n 0, 1) := by decide +kernel
theorem dX11_worst_37 : decode cX11_worst 37 = .ok (.getfield 40, 3) := by decide +kernel
theorem dX11_worst_40 : decode cX11_worst 40 = .ok (.iload_n 1, 1) := by decide +kernel
theorem dX11_worst_41 : decode cX11_worst 41 = .ok (.invokevirtual 183, 3) := by decide +kernel
theorem dX11_worst_44 : decode cX11_worst 44 = .ok (.istore_n 3, 1) := by decide +kernel
theorem dX11_worst_45 : decode cX11_worst 45 = .ok (.iload_n 2, 1) := by decide +kernel
theorem dX11_worst_46 : decode cX11_worst 46 = .ok (.ifCond .ne 6, 3) := by decide +kernel
theorem dX11_worst_49 : decode cX11_worst 49 = .ok (.iload_n 3, 1) := by decide +kernel
theorem dX11_worst_50 : decode cX11_worst 50 = .ok (.i2l, 1) := by decide +kernel
theorem dX11_worst_51 : decode cX11_worst 51 = .ok (.lreturn, 1) := by decide +kernel
theorem dX11_worst_52 : decode cX11_worst 52 = .ok (.aload_n 0, 1) := by decide +kernel
theorem dX11_worst_53 : decode cX11_worst 53 = .ok (.getfield 47, 3) := by decide +kernel
theorem dX11_worst_56 : decode cX11_worst 56 = .ok (.aload_n 0, 1) := by decide +kernel
theorem dX11_worst_57 : decode cX11_worst 57 = .ok (.getfield 40, 3) := by decide +kernel
theorem dX11_worst_60 : decode cX11_worst 60 = .ok (.iload_n 1, 1) := by decide +kernel
theorem dX11_worst_61 : decode cX11_worst 61 = .ok (.iload_n 3, 1) := by decide +kernel
theorem dX11_worst_62 : decode cX11_worst 62 = .ok (.invokevirtual 186, 3) := by decide +kernel
theorem dX11_worst_65 : decode cX11_worst 65 = .ok (.aload_n 0, 1) := by decide +kernel
theorem dX11_worst_66 : decode cX11_worst 66 = .ok (.getfield 40, 3) := by decide +kernel
theorem dX11_worst_69 : decode cX11_worst 69 = .ok (.invokevirtual 151, 3) := by decide +kernel
theorem dX11_worst_72 : decode cX11_worst 72 = .ok (.i2l, 1) := by decide +kernel
theorem dX11_worst_73 : decode cX11_worst 73 = .ok (.invokevirtual 157, 3) := by decide +kernel
theorem dX11_worst_76 : decode cX11_worst 76 = .ok (.aload_n 0, 1) := by decide +kernel
theorem dX11_worst_77 : decode cX11_worst 77 = .ok (.getfield 47, 3) := by decide +kernel
theorem dX11_worst_80 : decode cX11_worst 80 = .ok (.iload_n 2, 1) := by decide +kernel
theorem dX11_worst_81 : decode cX11_worst 81 = .ok (.iconst 1, 1) := by decide +kernel
theorem dX11_worst_82 : decode cX11_worst 82 = .ok (.isub, 1) := by decide +kernel
theorem dX11_worst_83 : decode cX11_worst 83 = .ok (.invokevirtual 161, 3) := by decide +kernel
theorem dX11_worst_86 : decode cX11_worst 86 = .ok (.lreturn, 1) := by decide +kernel
theorem dX11_back_0 : decode cX11_back 0 = .ok (.iload_n 1, 1) := by decide +kernel
theorem dX11_back_1 : decode cX11_back 1 = .ok (.tableswitch 51 0 2 #[27, 35, 43], 27) := by decide +kernel
theorem dX11_back_28 : decode cX11_back 28 = .ok (.aload_n 0, 1) := by decide +kernel
theorem dX11_back_29 : decode cX11_back 29 = .ok (.getfield 40, 3) := by decide +kernel
theorem dX11_back_32 : decode cX11_back 32 = .ok (.invokevirtual 190, 3) := by decide +kernel
theorem dX11_back_35 : decode cX11_back 35 = .ok (.ireturn, 1) := by decide +kernel
theorem dX11_back_36 : decode cX11_back 36 = .ok (.aload_n 0, 1) := by decide +kernel
theorem dX11_back_37 : decode cX11_back 37 = .ok (.getfield 40, 3) := by decide +kernel
theorem dX11_back_40 : decode cX11_back 40 = .ok (.invokevirtual 193, 3) := by decide +kernel
theorem dX11_back_43 : decode cX11_back 43 = .ok (.ireturn, 1) := by decide +kernel
theorem dX11_back_44 : decode cX11_back 44 = .ok (.aload_n 0, 1) := by decide +kernel
theorem dX11_back_45 : decode cX11_back 45 = .ok (.getfield 40, 3) := by decide +kernel
theorem dX11_back_48 : decode cX11_back 48 = .ok (.invokevirtual 196, 3) := by decide +kernel
theorem dX11_back_51 : decode cX11_back 51 = .ok (.ireturn, 1) := by decide +kernel
theorem dX11_back_52 : decode cX11_back 52 = .ok (.iconst (-1), 1) := by decide +kernel
theorem dX11_back_53 : decode cX11_back 53 = .ok (.ireturn, 1) := by decide +kernel
theorem dX11_nearest_0 : decode cX11_nearest 0 = .ok (.iload_n 1, 1) := by decide +kernel
theorem dX11_nearest_1 : decode cX11_nearest 1 = .ok (.invokestatic 199, 3) := by decide +kernel
theorem dX11_nearest_4 : decode cX11_nearest 4 = .ok (.ifCond .eq 14, 3) := by decide +kernel
theorem dX11_nearest_7 : decode cX11_nearest 7 = .ok (.aload_n 0, 1) := by decide +kernel
theorem dX11_nearest_8 : decode cX11_nearest 8 = .ok (.getfield 40, 3) := by decide +kernel
theorem dX11_nearest_11 : decode cX11_nearest 11 = .ok (.iload_n 1, 1) := by decide +kernel
theorem dX11_nearest_12 : decode cX11_nearest 12 = .ok (.invokevirtual 202, 3) := by decide +kernel
theorem dX11_nearest_15 : decode cX11_nearest 15 = .ok (.goto 4, 3) := by decide +kernel
theorem dX11_nearest_18 : decode cX11_nearest 18 = .ok (.iconst (-1), 1) := by decide +kernel
theorem dX11_nearest_19 : decode cX11_nearest 19 = .ok (.ireturn, 1) := by decide +kernel
theorem dX11_halves_0 : decode cX11_halves 0 = .ok (.iload_n 1, 1) := by decide +kernel
theorem dX11_halves_1 : decode cX11_halves 1 = .ok (.invokestatic 199, 3) := by decide +kernel
theorem dX11_halves_4 : decode cX11_halves 4 = .ok (.ifCond .eq 24, 3) := by decide +kernel
theorem dX11_halves_7 : decode cX11_halves 7 = .ok (.iload_n 2, 1) := by decide +kernel
theorem dX11_halves_8 : decode cX11_halves 8 = .ok (.bipush (-4), 2) := by decide +kernel
theorem dX11_halves_10 : decode cX11_halves 10 = .ok (.if_icmp .eq 20, 3) := by decide +kernel
theorem dX11_halves_13 : decode cX11_halves 13 = .ok (.iload_n 2, 1) := by decide +kernel
theorem dX11_halves_14 : decode cX11_halves 14 = .ok (.ifCond .lt 14, 3) := by decide +kernel
theorem dX11_halves_17 : decode cX11_halves 17 = .ok (.iload_n 2, 1) := by decide +kernel
theorem dX11_halves_18 : decode cX11_halves 18 = .ok (.aload_n 0, 1) := by decide +kernel
theorem dX11_halves_19 : decode cX11_halves 19 = .ok (.getfield 10, 3) := by decide +kernel
theorem dX11_halves_22 : decode cX11_halves 22 = .ok (.getfield 116, 3) := by decide +kernel
theorem dX11_halves_25 : decode cX11_halves 25 = .ok (.if_icmp .lt 5, 3) := by decide +kernel
theorem dX11_halves_28 : decode cX11_halves 28 = .ok (.iconst (-1), 1) := by decide +kernel
theorem dX11_halves_29 : decode cX11_halves 29 = .ok (.ireturn, 1) := by decide +kernel
theorem dX11_halves_30 : decode cX11_halves 30 = .ok (.aload_n 0, 1) := by decide +kernel
theorem dX11_halves_31 : decode cX11_halves 31 = .ok (.getfield 40, 3) := by decide +kernel
theorem dX11_halves_34 : decode cX11_halves 34 = .ok (.iload_n 1, 1) := by decide +kernel
theorem dX11_halves_35 : decode cX11_halves 35 = .ok (.iload_n 2, 1) := by decide +kernel
theorem dX11_halves_36 : decode cX11_halves 36 = .ok (.invokevirtual 205, 3) := by decide +kernel
theorem dX11_halves_39 : decode cX11_halves 39 = .ok (.ireturn, 1) := by decide +kernel
