theorem dX12_strings_14 : decode cX12_strings 14 = .ok (.iload_n 2, 1) := by decide +kernel
theorem dX12_strings_15 : decode cX12_strings 15 = .ok (.i2l, 1) := by decide +kernel
theorem dX12_strings_16 : decode cX12_strings 16 = .ok (.lconst 0, 1) := by decide +kernel
theorem dX12_strings_17 : decode cX12_strings 17 = .ok (.lconst 1, 1) := by decide +kernel
theorem dX12_strings_18 : decode cX12_strings 18 = .ok (.invokestatic 70, 3) := by decide +kernel
theorem dX12_strings_21 : decode cX12_strings 21 = .ok (.ifCond .ne 5, 3) := by decide +kernel
theorem dX12_strings_24 : decode cX12_strings 24 = .ok (.iconst (-1), 1) := by decide +kernel
theorem dX12_strings_25 : decode cX12_strings 25 = .ok (.ireturn, 1) := by decide +kernel
theorem dX12_strings_26 : decode cX12_strings 26 = .ok (.iconst 0, 1) := by decide +kernel
theorem dX12_strings_27 : decode cX12_strings 27 = .ok (.istore_n 3, 1) := by decide +kernel
theorem dX12_strings_28 : decode cX12_strings 28 = .ok (.iconst 0, 1) := by decide +kernel
theorem dX12_strings_29 : decode cX12_strings 29 = .ok (.istore 4, 2) := by decide +kernel
theorem dX12_strings_31 : decode cX12_strings 31 = .ok (.iload 4, 2) := by decide +kernel
theorem dX12_strings_33 : decode cX12_strings 33 = .ok (.aload_n 0, 1) := by decide +kernel
theorem dX12_strings_34 : decode cX12_strings 34 = .ok (.getfield 19, 3) := by decide +kernel
theorem dX12_strings_37 : decode cX12_strings 37 = .ok (.iconst 5, 1) := by decide +kernel
theorem dX12_strings_38 : decode cX12_strings 38 = .ok (.iaload, 1) := by decide +kernel
theorem dX12_strings_39 : decode cX12_strings 39 = .ok (.if_icmp .gt 83, 3) := by decide +kernel
theorem dX12_strings_42 : decode cX12_strings 42 = .ok (.aload_n 0, 1) := by decide +kernel
theorem dX12_strings_43 : decode cX12_strings 43 = .ok (.iload_n 1, 1) := by decide +kernel
theorem dX12_strings_44 : decode cX12_strings 44 = .ok (.iload 4, 2) := by decide +kernel
theorem dX12_strings_46 : decode cX12_strings 46 = .ok (.invokevirtual 230, 3) := by decide +kernel
theorem dX12_strings_49 : decode cX12_strings 49 = .ok (.istore 5, 2) := by decide +kernel
theorem dX12_strings_51 : decode cX12_strings 51 = .ok (.iload 4, 2) := by decide +kernel
theorem dX12_strings_53 : decode cX12_strings 53 = .ok (.iload_n 1, 1) := by decide +kernel
theorem dX12_strings_54 : decode cX12_strings 54 = .ok (.ishl, 1) := by decide +kernel
theorem dX12_strings_55 : decode cX12_strings 55 = .ok (.aload_n 0, 1) := by decide +kernel
theorem dX12_strings_56 : decode cX12_strings 56 = .ok (.getfield 19, 3) := by decide +kernel
theorem dX12_strings_59 : decode cX12_strings 59 = .ok (.iconst 5, 1) := by decide +kernel
theorem dX12_strings_60 : decode cX12_strings 60 = .ok (.iaload, 1) := by decide +kernel
theorem dX12_strings_61 : decode cX12_strings 61 = .ok (.idiv, 1) := by decide +kernel
theorem dX12_strings_62 : decode cX12_strings 62 = .ok (.istore 6, 2) := by decide +kernel
theorem dX12_strings_64 : decode cX12_strings 64 = .ok (.iload 6, 2) := by decide +kernel
theorem dX12_strings_66 : decode cX12_strings 66 = .ok (.iconst 1, 1) := by decide +kernel
theorem dX12_strings_67 : decode cX12_strings 67 = .ok (.iload_n 1, 1) := by decide +kernel
theorem dX12_strings_68 : decode cX12_strings 68 = .ok (.ishl, 1) := by decide +kernel
theorem dX12_strings_69 : decode cX12_strings 69 = .ok (.iconst 1, 1) := by decide +kernel
theorem dX12_strings_70 : decode cX12_strings 70 = .ok (.isub, 1) := by decide +kernel
theorem dX12_strings_71 : decode cX12_strings 71 = .ok (.if_icmp .le 11, 3) := by decide +kernel
theorem dX12_strings_74 : decode cX12_strings 74 = .ok (.iconst 1, 1) := by decide +kernel
theorem dX12_strings_75 : decode cX12_strings 75 = .ok (.iload_n 1, 1) := by decide +kernel
theorem dX12_strings_76 : decode cX12_strings 76 = .ok (.ishl, 1) := by decide +kernel
theorem dX12_strings_77 : decode cX12_strings 77 = .ok (.iconst 1, 1) := by decide +kernel
theorem dX12_strings_78 : decode cX12_strings 78 = .ok (.isub, 1) := by decide +kernel
theorem dX12_strings_79 : decode cX12_strings 79 = .ok (.goto 5, 3) := by decide +kernel
theorem dX12_strings_82 : decode cX12_strings 82 = .ok (.iload 6, 2) := by decide +kernel
theorem dX12_strings_84 : decode cX12_strings 84 = .ok (.istore 6, 2) := by decide +kernel
theorem dX12_strings_86 : decode cX12_strings 86 = .ok (.iload_n 3, 1) := by decide +kernel
theorem dX12_strings_87 : decode cX12_strings 87 = .ok (.iload 5, 2) := by decide +kernel
theorem dX12_strings_89 : decode cX12_strings 89 = .ok (.invokestatic 233, 3) := by decide +kernel
theorem dX12_strings_92 : decode cX12_strings 92 = .ok (.iload_n 2, 1) := by decide +kernel
theorem dX12_strings_93 : decode cX12_strings 93 = .ok (.ifCond .ne 11, 3) := by decide +kernel
theorem dX12_strings_96 : decode cX12_strings 96 = .ok (.iload 5, 2) := by decide +kernel
theorem dX12_strings_98 : decode cX12_strings 98 = .ok (.invokestatic 236, 3) := by decide +kernel
theorem dX12_strings_101 : decode cX12_strings 101 = .ok (.goto 5, 3) := by decide +kernel
theorem dX12_strings_104 : decode cX12_strings 104 = .ok (.iload 6, 2) := by decide +kernel
theorem dX12_strings_106 : decode cX12_strings 106 = .ok (.if_icmp .eq 7, 3) := by decide +kernel
theorem dX12_strings_109 : decode cX12_strings 109 = .ok (.iconst 1, 1) := by decide +kernel
theorem dX12_strings_110 : decode cX12_strings 110 = .ok (.goto 4, 3) := by decide +kernel
theorem dX12_strings_113 : decode cX12_strings 113 = .ok (.iconst 0, 1) := by decide +kernel
theorem dX12_strings_114 : decode cX12_strings 114 = .ok (.iadd, 1) := by decide +kernel
theorem dX12_strings_115 : decode cX12_strings 115 = .ok (.istore_n 3, 1) := by decide +kernel
theorem dX12_strings_116 : decode cX12_strings 116 = .ok (.iinc 4 1, 3) := by decide +kernel
theorem dX12_strings_119 : decode cX12_strings 119 = .ok (.goto (-88), 3) := by decide +kernel
theorem dX12_strings_122 : decode cX12_strings 122 = .ok (.iload_n 3, 1) := by decide +kernel
theorem dX12_strings_123 : decode cX12_strings 123 = .ok (.ireturn, 1) := by decide +kernel
theorem dX12_sloped_0 : decode cX12_sloped 0 = .ok (.iconst 0, 1) := by decide +kernel
theorem dX12_sloped_1 : decode cX12_sloped 1 = .ok (.istore 6, 2) := by decide +kernel
theorem dX12_sloped_3 : decode cX12_sloped 3 = .ok (.iconst 0, 1) := by decide +kernel
theorem dX12_sloped_4 : decode cX12_sloped 4 = .ok (.istore 7, 2) := by decide +kernel
theorem dX12_sloped_6 : decode cX12_sloped 6 = .ok (.iload 7, 2) := by decide +kernel
theorem dX12_sloped_8 : decode cX12_sloped 8 = .ok (.iload_n 1, 1) := by decide +kernel
theorem dX12_sloped_9 : decode cX12_sloped 9 = .ok (.if_icmp .ge 38, 3) := by decide +kernel
theorem dX12_sloped_12 : decode cX12_sloped 12 = .ok (.iload 6, 2) := by decide +kernel
theorem dX12_sloped_14 : decode cX12_sloped 14 = .ok (.iload 5, 2) := by decide +kernel
theorem dX12_sloped_16 : decode cX12_sloped 16 = .ok (.iload 7, 2) := by decide +kernel
theorem dX12_sloped_18 : decode cX12_sloped 18 = .ok (.iadd, 1) := by decide +kernel
theorem dX12_sloped_19 : decode cX12_sloped 19 = .ok (.iload 4, 2) := by decide +kernel
theorem dX12_sloped_21 : decode cX12_sloped 21 = .ok (.irem, 1) := by decide +kernel
theorem dX12_sloped_22 : decode cX12_sloped 22 = .ok (.iload 4, 2) := by decide +kernel
theorem dX12_sloped_24 : decode cX12_sloped 24 = .ok (.iconst 2, 1) := by decide +kernel
theorem dX12_sloped_25 : decode cX12_sloped 25 = .ok (.idiv, 1) := by decide +kernel
theorem dX12_sloped_26 : decode cX12_sloped 26 = .ok (.if_icmp .ge 9, 3) := by decide +kernel
theorem dX12_sloped_29 : decode cX12_sloped 29 = .ok (.iload_n 2, 1) := by decide +kernel
theorem dX12_sloped_30 : decode cX12_sloped 30 = .ok (.iload_n 3, 1) := by decide +kernel
theorem dX12_sloped_31 : decode cX12_sloped 31 = .ok (.iadd, 1) := by decide +kernel
theorem dX12_sloped_32 : decode cX12_sloped 32 = .ok (.goto 6, 3) := by decide +kernel
theorem dX12_sloped_35 : decode cX12_sloped 35 = .ok (.iload_n 2, 1) := by decide +kernel
theorem dX12_sloped_36 : decode cX12_sloped 36 = .ok (.iload_n 3, 1) := by decide +kernel
theorem dX12_sloped_37 : decode cX12_sloped 37 = .ok (.isub, 1) := by decide +kernel
theorem dX12_sloped_38 : decode cX12_sloped 38 = .ok (.iadd, 1) := by decide +kernel
theorem dX12_sloped_39 : decode cX12_sloped 39 = .ok (.istore 6, 2) := by decide +kernel
theorem dX12_sloped_41 : decode cX12_sloped 41 = .ok (.iinc 7 1, 3) := by decide +kernel
theorem dX12_sloped_44 : decode cX12_sloped 44 = .ok (.goto (-38), 3) := by decide +kernel
theorem dX12_sloped_47 : decode cX12_sloped 47 = .ok (.iconst 0, 1) := by decide +kernel
theorem dX12_sloped_48 : decode cX12_sloped 48 = .ok (.istore 7, 2) := by decide +kernel
theorem dX12_sloped_50 : decode cX12_sloped 50 = .ok (.iload 6, 2) := by decide +kernel
theorem dX12_sloped_52 : decode cX12_sloped 52 = .ok (.ifCond .le 28, 3) := by decide +kernel
theorem dX12_sloped_55 : decode cX12_sloped 55 = .ok (.iload 7, 2) := by decide +kernel
theorem dX12_sloped_57 : decode cX12_sloped 57 = .ok (.sipush 1000, 3) := by decide +kernel
theorem dX12_sloped_60 : decode cX12_sloped 60 = .ok (.if_icmp .ge 20, 3) := by decide +kernel
theorem dX12_sloped_63 : decode cX12_sloped 63 = .ok (.iload 6, 2) := by decide +kernel
theorem dX12_sloped_65 : decode cX12_sloped 65 = .ok (.aload_n 0, 1) := by decide +kernel
theorem dX12_sloped_66 : decode cX12_sloped 66 = .ok (.getfield 19, 3) := by decide +kernel
theorem dX12_sloped_69 : decode cX12_sloped 69 = .ok (.iconst 5, 1) := by decide +kernel
theorem dX12_sloped_70 : decode cX12_sloped 70 = .ok (.iaload, 1) := by decide +kernel
theorem dX12_sloped_71 : decode cX12_sloped 71 = .ok (.isub, 1) := by decide +kernel
theorem dX12_sloped_72 : decode cX12_sloped 72 = .ok (.istore 6, 2) := by decide +kernel
theorem dX12_sloped_74 : decode cX12_sloped 74 = .ok (.iinc 7 1, 3) := by decide +kernel
theorem dX12_sloped_77 : decode cX12_sloped 77 = .ok (.goto (-27), 3) := by decide +kernel
theorem dX12_sloped_80 : decode cX12_sloped 80 = .ok (.iload 7, 2) := by decide +kernel
theorem dX12_sloped_82 : decode cX12_sloped 82 = .ok (.ireturn, 1) := by decide +kernel
theorem dX12_isHum_0 : decode cX12_isHum 0 = .ok (.iload_n 0, 1) := by decide +kernel
theorem dX12_isHum_1 : decode cX12_isHum 1 = .ok (.i2l, 1) := by decide +kernel
theorem dX12_isHum_2 : decode cX12_isHum 2 = .ok (.lconst 1, 1) := by decide +kernel
theorem dX12_isHum_3 : decode cX12_isHum 3 = .ok (.ldc2_w 239, 3) := by decide +kernel
theorem dX12_isHum_6 : decode cX12_isHum 6 = .ok (.invokestatic 70, 3) := by decide +kernel
theorem dX12_isHum_9 : decode cX12_isHum 9 = .ok (.ifCond .eq 51, 3) := by decide +kernel
theorem dX12_isHum_12 : decode cX12_isHum 12 = .ok (.iload_n 1, 1) := by decide +kernel
theorem dX12_isHum_13 : decode cX12_isHum 13 = .ok (.i2l, 1) := by decide +kernel
theorem dX12_isHum_14 : decode cX12_isHum 14 = .ok (.lconst 0, 1) := by decide +kernel
theorem dX12_isHum_15 : decode cX12_isHum 15 = .ok (.ldc2_w 241, 3) := by decide +kernel
theorem dX12_isHum_18 : decode cX12_isHum 18 = .ok (.invokestatic 70, 3) := by decide +kernel
theorem dX12_isHum_21 : decode cX12_isHum 21 = .ok (.ifCond .eq 39, 3) := by decide +kernel
theorem dX12_isHum_24 : decode cX12_isHum 24 = .ok (.iload_n 2, 1) := by decide +kernel
theorem dX12_isHum_25 : decode cX12_isHum 25 = .ok (.i2l, 1) := by decide +kernel
theorem dX12_isHum_26 : decode cX12_isHum 26 = .ok (.lconst 0, 1) := by decide +kernel
theorem dX12_isHum_27 : decode cX12_isHum 27 = .ok (.ldc2_w 243, 3) := by decide +kernel
theorem dX12_isHum_30 : decode cX12_isHum 30 = .ok (.invokestatic 70, 3) := by decide +kernel
theorem dX12_isHum_33 : decode cX12_isHum 33 = .ok (.ifCond .eq 27, 3) := by decide +kernel
theorem dX12_isHum_36 : decode cX12_isHum 36 = .ok (.iload_n 3, 1) := by decide +kernel
theorem dX12_isHum_37 : decode cX12_isHum 37 = .ok (.i2l, 1) := by decide +kernel
theorem dX12_isHum_38 : decode cX12_isHum 38 = .ok (.ldc2_w 202, 3) := by decide +kernel
theorem dX12_isHum_41 : decode cX12_isHum 41 = .ok (.ldc2_w 245, 3) := by decide +kernel
theorem dX12_isHum_44 : decode cX12_isHum 44 = .ok (.invokestatic 70, 3) := by decide +kernel
theorem dX12_isHum_47 : decode cX12_isHum 47 = .ok (.ifCond .eq 13, 3) := by decide +kernel
theorem dX12_isHum_50 : decode cX12_isHum 50 = .ok (.iload_n 3, 1) := by decide +kernel
theorem dX12_isHum_51 : decode cX12_isHum 51 = .ok (.iconst 2, 1) := by decide +kernel
theorem dX12_isHum_52 : decode cX12_isHum 52 = .ok (.irem, 1) := by decide +kernel
theorem dX12_isHum_53 : decode cX12_isHum 53 = .ok (.ifCond .ne 7, 3) := by decide +kernel
theorem dX12_isHum_56 : decode cX12_isHum 56 = .ok (.iconst 1, 1) := by decide +kernel
theorem dX12_isHum_57 : decode cX12_isHum 57 = .ok (.goto 4, 3) := by decide +kernel
theorem dX12_isHum_60 : decode cX12_isHum 60 = .ok (.iconst 0, 1) := by decide +kernel
theorem dX12_isHum_61 : decode cX12_isHum 61 = .ok (.ireturn, 1) := by decide +kernel
theorem dX12_slopes_0 : decode cX12_slopes 0 = .ok (.iload_n 1, 1) := by decide +kernel
theorem dX12_slopes_1 : decode cX12_slopes 1 = .ok (.iload_n 2, 1) := by decide +kernel
theorem dX12_slopes_2 : decode cX12_slopes 2 = .ok (.iload_n 3, 1) := by decide +kernel
theorem dX12_slopes_3 : decode cX12_slopes 3 = .ok (.iload 4, 2) := by decide +kernel
theorem dX12_slopes_5 : decode cX12_slopes 5 = .ok (.invokestatic 247, 3) := by decide +kernel
theorem dX12_slopes_8 : decode cX12_slopes 8 = .ok (.ifCond .eq 32, 3) := by decide +kernel
theorem dX12_slopes_11 : decode cX12_slopes 11 = .ok (.iload 5, 2) := by decide +kernel
theorem dX12_slopes_13 : decode cX12_slopes 13 = .ok (.i2l, 1) := by decide +kernel
theorem dX12_slopes_14 : decode cX12_slopes 14 = .ok (.lconst 0, 1) := by decide +kernel
theorem dX12_slopes_15 : decode cX12_slopes 15 = .ok (.iload 4, 2) := by decide +kernel
theorem dX12_slopes_17 : decode cX12_slopes 17 = .ok (.iconst 1, 1) := by decide +kernel
theorem dX12_slopes_18 : decode cX12_slopes 18 = .ok (.isub, 1) := by decide +kernel
theorem dX12_slopes_19 : decode cX12_slopes 19 = .ok (.i2l, 1) := by decide +kernel
theorem dX12_slopes_20 : decode cX12_slopes 20 = .ok (.invokestatic 70, 3) := by decide +kernel
theorem dX12_slopes_23 : decode cX12_slopes 23 = .ok (.ifCond .eq 17, 3) := by decide +kernel
theorem dX12_slopes_26 : decode cX12_slopes 26 = .ok (.aload_n 0, 1) := by decide +kernel
theorem dX12_slopes_27 : decode cX12_slopes 27 = .ok (.iload_n 1, 1) := by decide +kernel
theorem dX12_slopes_28 : decode cX12_slopes 28 = .ok (.iload_n 2, 1) := by decide +kernel
theorem dX12_slopes_29 : decode cX12_slopes 29 = .ok (.iload_n 3, 1) := by decide +kernel
theorem dX12_slopes_30 : decode cX12_slopes 30 = .ok (.iload 4, 2) := by decide +kernel
theorem dX12_slopes_32 : decode cX12_slopes 32 = .ok (.iload 5, 2) := by decide +kernel
theorem dX12_slopes_34 : decode cX12_slopes 34 = .ok (.invokevirtual 251, 3) := by decide +kernel
theorem dX12_slopes_37 : decode cX12_slopes 37 = .ok (.goto 4, 3) := by decide +kernel
theorem dX12_slopes_40 : decode cX12_slopes 40 = .ok (.iconst (-1), 1) := by decide +kernel
theorem dX12_slopes_41 : decode cX12_slopes 41 = .ok (.ireturn, 1) := by decide +kernel
theorem dX12_hum_0 : decode cX12_hum 0 = .ok (.iload_n 1, 1) := by decide +kernel
theorem dX12_hum_1 : decode cX12_hum 1 = .ok (.iload_n 2, 1) := by decide +kernel
theorem dX12_hum_2 : decode cX12_hum 2 = .ok (.iload_n 3, 1) := by decide +kernel
theorem dX12_hum_3 : decode cX12_hum 3 = .ok (.iload 4, 2) := by decide +kernel
theorem dX12_hum_5 : decode cX12_hum 5 = .ok (.invokestatic 247, 3) := by decide +kernel
theorem dX12_hum_8 : decode cX12_hum 8 = .ok (.ifCond .ne 5, 3) := by decide +kernel
theorem dX12_hum_11 : decode cX12_hum 11 = .ok (.iconst (-1), 1) := by decide +kernel
theorem dX12_hum_12 : decode cX12_hum 12 = .ok (.ireturn, 1) := by decide +kernel
theorem dX12_hum_13 : decode cX12_hum 13 = .ok (.sipush 10000, 3) := by decide +kernel
theorem dX12_hum_16 : decode cX12_hum 16 = .ok (.istore 5, 2) := by decide +kernel
theorem dX12_hum_18 : decode cX12_hum 18 = .ok (.iconst 0, 1) := by decide +kernel
theorem dX12_hum_19 : decode cX12_hum 19 = .ok (.istore 6, 2) := by decide +kernel
theorem dX12_hum_21 : decode cX12_hum 21 = .ok (.iconst 0, 1) := by decide +kernel
theorem dX12_hum_22 : decode cX12_hum 22 = .ok (.istore 7, 2) := by decide +kernel
theorem dX12_hum_24 : decode cX12_hum 24 = .ok (.iload 7, 2) := by decide +kernel
theorem dX12_hum_26 : decode cX12_hum 26 = .ok (.iload 4, 2) := by decide +kernel
theorem dX12_hum_28 : decode cX12_hum 28 = .ok (.if_icmp .ge 54, 3) := by decide +kernel
theorem dX12_hum_31 : decode cX12_hum 31 = .ok (.aload_n 0, 1) := by decide +kernel
theorem dX12_hum_32 : decode cX12_hum 32 = .ok (.iload_n 1, 1) := by decide +kernel
theorem dX12_hum_33 : decode cX12_hum 33 = .ok (.iload_n 2, 1) := by decide +kernel
theorem dX12_hum_34 : decode cX12_hum 34 = .ok (.iload_n 3, 1) := by decide +kernel
theorem dX12_hum_35 : decode cX12_hum 35 = .ok (.iload 4, 2) := by decide +kernel
theorem dX12_hum_37 : decode cX12_hum 37 = .ok (.iload 7, 2) := by decide +kernel
theorem dX12_hum_39 : decode cX12_hum 39 = .ok (.invokevirtual 251, 3) := by decide +kernel
theorem dX12_hum_42 : decode cX12_hum 42 = .ok (.istore 8, 2) := by decide +kernel
theorem dX12_hum_44 : decode cX12_hum 44 = .ok (.iload 8, 2) := by decide +kernel
theorem dX12_hum_46 : decode cX12_hum 46 = .ok (.iload 5, 2) := by decide +kernel
theorem dX12_hum_48 : decode cX12_hum 48 = .ok (.if_icmp .ge 8, 3) := by decide +kernel
theorem dX12_hum_51 : decode cX12_hum 51 = .ok (.iload 8, 2) := by decide +kernel
theorem dX12_hum_53 : decode cX12_hum 53 = .ok (.goto 5, 3) := by decide +kernel
theorem dX12_hum_56 : decode cX12_hum 56 = .ok (.iload 5, 2) := by decide +kernel
theorem dX12_hum_58 : decode cX12_hum 58 = .ok (.istore 5, 2) := by decide +kernel
theorem dX12_hum_60 : decode cX12_hum 60 = .ok (.iload 8, 2) := by decide +kernel
theorem dX12_hum_62 : decode cX12_hum 62 = .ok (.iload 6, 2) := by decide +kernel
theorem dX12_hum_64 : decode cX12_hum 64 = .ok (.if_icmp .le 8, 3) := by decide +kernel
theorem dX12_hum_67 : decode cX12_hum 67 = .ok (.iload 8, 2) := by decide +kernel
theorem dX12_hum_69 : decode cX12_hum 69 = .ok (.goto 5, 3) := by decide +kernel
theorem dX12_hum_72 : decode cX12_hum 72 = .ok (.iload 6, 2) := by decide +kernel
theorem dX12_hum_74 : decode cX12_hum 74 = .ok (.istore 6, 2) := by decide +kernel
theorem dX12_hum_76 : decode cX12_hum 76 = .ok (.iinc 7 1, 3) := by decide +kernel
theorem dX12_hum_79 : decode cX12_hum 79 = .ok (.goto (-55), 3) := by decide +kernel
theorem dX12_hum_82 : decode cX12_hum 82 = .ok (.iload 6, 2) := by decide +kernel
theorem dX12_hum_84 : decode cX12_hum 84 = .ok (.iload 5, 2) := by decide +kernel
theorem dX12_hum_86 : decode cX12_hum 86 = .ok (.isub, 1) := by decide +kernel
theorem dX12_hum_87 : decode cX12_hum 87 = .ok (.ireturn, 1) := by decide +kernel
theorem dX12_cut_0 : decode cX12_cut 0 = .ok (.iload_n 0, 1) := by decide +kernel
theorem dX12_cut_1 : decode cX12_cut 1 = .ok (.ldc 255, 2) := by decide +kernel
theorem dX12_cut_3 : decode cX12_cut 3 = .ok (.if_icmp .le 8, 3) := by decide +kernel
theorem dX12_cut_6 : decode cX12_cut 6 = .ok (.ldc 255, 2) := by decide +kernel
theorem dX12_cut_8 : decode cX12_cut 8 = .ok (.goto 15, 3) := by decide +kernel
theorem dX12_cut_11 : decode cX12_cut 11 = .ok (.iload_n 0, 1) := by decide +kernel
theorem dX12_cut_12 : decode cX12_cut 12 = .ok (.ldc 179, 2) := by decide +kernel
theorem dX12_cut_14 : decode cX12_cut 14 = .ok (.if_icmp .ge 8, 3) := by decide +kernel
theorem dX12_cut_17 : decode cX12_cut 17 = .ok (.ldc 179, 2) := by decide +kernel
theorem dX12_cut_19 : decode cX12_cut 19 = .ok (.goto 4, 3) := by decide +kernel
theorem dX12_cut_22 : decode cX12_cut 22 = .ok (.iload_n 0, 1) := by decide +kernel
theorem dX12_cut_23 : decode cX12_cut 23 = .ok (.ireturn, 1) := by decide +kernel
theorem dX12_layKept_0 : decode cX12_layKept 0 = .ok (.aload_n 0, 1) := by decide +kernel
theorem dX12_layKept_1 : decode cX12_layKept 1 = .ok (.getfield 35, 3) := by decide +kernel
theorem dX12_layKept_4 : decode cX12_layKept 4 = .ok (.iconst 0, 1) := by decide +kernel
theorem dX12_layKept_5 : decode cX12_layKept 5 = .ok (.iconst 0, 1) := by decide +kernel
theorem dX12_layKept_6 : decode cX12_layKept 6 = .ok (.iastore, 1) := by decide +kernel
theorem dX12_layKept_7 : decode cX12_layKept 7 = .ok (.aload_n 0, 1) := by decide +kernel
theorem dX12_layKept_8 : decode cX12_layKept 8 = .ok (.getfield 38, 3) := by decide +kernel
theorem dX12_layKept_11 : decode cX12_layKept 11 = .ok (.iconst 0, 1) := by decide +kernel
theorem dX12_layKept_12 : decode cX12_layKept 12 = .ok (.iconst 0, 1) := by decide +kernel
theorem dX12_layKept_13 : decode cX12_layKept 13 = .ok (.iastore, 1) := by decide +kernel
theorem dX12_layKept_14 : decode cX12_layKept 14 = .ok (.aload_n 0, 1) := by decide +kernel
theorem dX12_layKept_15 : decode cX12_layKept 15 = .ok (.getfield 41, 3) := by decide +kernel
theorem dX12_layKept_18 : decode cX12_layKept 18 = .ok (.iconst 0, 1) := by decide +kernel
theorem dX12_layKept_19 : decode cX12_layKept 19 = .ok (.bipush (-4), 2) := by decide +kernel
theorem dX12_layKept_21 : decode cX12_layKept 21 = .ok (.iastore, 1) := by decide +kernel
theorem dX12_layKept_22 : decode cX12_layKept 22 = .ok (.iconst 1, 1) := by decide +kernel
theorem dX12_layKept_23 : decode cX12_layKept 23 = .ok (.istore 4, 2) := by decide +kernel
theorem dX12_layKept_25 : decode cX12_layKept 25 = .ok (.iload 4, 2) := by decide +kernel
theorem dX12_layKept_27 : decode cX12_layKept 27 = .ok (.iload_n 3, 1) := by decide +kernel
theorem dX12_layKept_28 : decode cX12_layKept 28 = .ok (.if_icmp .gt 200, 3) := by decide +kernel
theorem dX12_layKept_31 : decode cX12_layKept 31 = .ok (.aload_n 0, 1) := by decide +kernel
theorem dX12_layKept_32 : decode cX12_layKept 32 = .ok (.getfield 41, 3) := by decide +kernel
theorem dX12_layKept_35 : decode cX12_layKept 35 = .ok (.iload 4, 2) := by decide +kernel
theorem dX12_layKept_37 : decode cX12_layKept 37 = .ok (.iconst 1, 1) := by decide +kernel
theorem dX12_layKept_38 : decode cX12_layKept 38 = .ok (.isub, 1) := by decide +kernel
theorem dX12_layKept_39 : decode cX12_layKept 39 = .ok (.iaload, 1) := by decide +kernel
theorem dX12_layKept_40 : decode cX12_layKept 40 = .ok (.bipush (-4), 2) := by decide +kernel
theorem dX12_layKept_42 : decode cX12_layKept 42 = .ok (.if_icmp .ne 7, 3) := by decide +kernel
theorem dX12_layKept_45 : decode cX12_layKept 45 = .ok (.iconst 0, 1) := by decide +kernel
theorem dX12_layKept_46 : decode cX12_layKept 46 = .ok (.goto 32, 3) := by decide +kernel
theorem dX12_layKept_49 : decode cX12_layKept 49 = .ok (.aload_n 0, 1) := by decide +kernel
theorem dX12_layKept_50 : decode cX12_layKept 50 = .ok (.getfield 41, 3) := by decide +kernel
theorem dX12_layKept_53 : decode cX12_layKept 53 = .ok (.iload 4, 2) := by decide +kernel
theorem dX12_layKept_55 : decode cX12_layKept 55 = .ok (.iconst 1, 1) := by decide +kernel
theorem dX12_layKept_56 : decode cX12_layKept 56 = .ok (.isub, 1) := by decide +kernel
theorem dX12_layKept_57 : decode cX12_layKept 57 = .ok (.iaload, 1) := by decide +kernel
theorem dX12_layKept_58 : decode cX12_layKept 58 = .ok (.iconst 1, 1) := by decide +kernel
theorem dX12_layKept_59 : decode cX12_layKept 59 = .ok (.if_icmp .ne 12, 3) := by decide +kernel
theorem dX12_layKept_62 : decode cX12_layKept 62 = .ok (.aload_n 0, 1) := by decide +kernel
theorem dX12_layKept_63 : decode cX12_layKept 63 = .ok (.getfield 19, 3) := by decide +kernel
theorem dX12_layKept_66 : decode cX12_layKept 66 = .ok (.iconst 5, 1) := by decide +kernel
theorem dX12_layKept_67 : decode cX12_layKept 67 = .ok (.iaload, 1) := by decide +kernel
theorem dX12_layKept_68 : decode cX12_layKept 68 = .ok (.goto 10, 3) := by decide +kernel
theorem dX12_layKept_71 : decode cX12_layKept 71 = .ok (.aload_n 0, 1) := by decide +kernel
theorem dX12_layKept_72 : decode cX12_layKept 72 = .ok (.getfield 19, 3) := by decide +kernel
theorem dX12_layKept_75 : decode cX12_layKept 75 = .ok (.iconst 5, 1) := by decide +kernel
theorem dX12_layKept_76 : decode cX12_layKept 76 = .ok (.iaload, 1) := by decide +kernel
theorem dX12_layKept_77 : decode cX12_layKept 77 = .ok (.ineg, 1) := by decide +kernel
theorem dX12_layKept_78 : decode cX12_layKept 78 = .ok (.istore 5, 2) := by decide +kernel
theorem dX12_layKept_80 : decode cX12_layKept 80 = .ok (.aload_n 0, 1) := by decide +kernel
theorem dX12_layKept_81 : decode cX12_layKept 81 = .ok (.getfield 35, 3) := by decide +kernel
theorem dX12_layKept_84 : decode cX12_layKept 84 = .ok (.iload 4, 2) := by decide +kernel
theorem dX12_layKept_86 : decode cX12_layKept 86 = .ok (.iconst 1, 1) := by decide +kernel
theorem dX12_layKept_87 : decode cX12_layKept 87 = .ok (.isub, 1) := by decide +kernel
theorem dX12_layKept_88 : decode cX12_layKept 88 = .ok (.iaload, 1) := by decide +kernel
theorem dX12_layKept_89 : decode cX12_layKept 89 = .ok (.iload_n 2, 1) := by decide +kernel
theorem dX12_layKept_90 : decode cX12_layKept 90 = .ok (.iadd, 1) := by decide +kernel
theorem dX12_layKept_91 : decode cX12_layKept 91 = .ok (.iload_n 1, 1) := by decide +kernel
theorem dX12_layKept_92 : decode cX12_layKept 92 = .ok (.iconst 2, 1) := by decide +kernel
theorem dX12_layKept_93 : decode cX12_layKept 93 = .ok (.if_icmp .ne 8, 3) := by decide +kernel
theorem dX12_layKept_96 : decode cX12_layKept 96 = .ok (.iload 5, 2) := by decide +kernel
theorem dX12_layKept_98 : decode cX12_layKept 98 = .ok (.goto 4, 3) := by decide +kernel
theorem dX12_layKept_101 : decode cX12_layKept 101 = .ok (.iconst 0, 1) := by decide +kernel
theorem dX12_layKept_102 : decode cX12_layKept 102 = .ok (.isub, 1) := by decide +kernel
theorem dX12_layKept_103 : decode cX12_layKept 103 = .ok (.istore 6, 2) := by decide +kernel
theorem dX12_layKept_105 : decode cX12_layKept 105 = .ok (.iload_n 1, 1) := by decide +kernel
theorem dX12_layKept_106 : decode cX12_layKept 106 = .ok (.iconst 2, 1) := by decide +kernel
theorem dX12_layKept_107 : decode cX12_layKept 107 = .ok (.if_icmp .ne 21, 3) := by decide +kernel
theorem dX12_layKept_110 : decode cX12_layKept 110 = .ok (.aload_n 0, 1) := by decide +kernel
theorem dX12_layKept_111 : decode cX12_layKept 111 = .ok (.getfield 38, 3) := by decide +kernel
theorem dX12_layKept_114 : decode cX12_layKept 114 = .ok (.iload 4, 2) := by decide +kernel
theorem dX12_layKept_116 : decode cX12_layKept 116 = .ok (.iconst 1, 1) := by decide +kernel
theorem dX12_layKept_117 : decode cX12_layKept 117 = .ok (.isub, 1) := by decide +kernel
theorem dX12_layKept_118 : decode cX12_layKept 118 = .ok (.iaload, 1) := by decide +kernel
theorem dX12_layKept_119 : decode cX12_layKept 119 = .ok (.iload 6, 2) := by decide +kernel
theorem dX12_layKept_121 : decode cX12_layKept 121 = .ok (.iadd, 1) := by decide +kernel
theorem dX12_layKept_122 : decode cX12_layKept 122 = .ok (.iload 5, 2) := by decide +kernel
theorem dX12_layKept_124 : decode cX12_layKept 124 = .ok (.isub, 1) := by decide +kernel
theorem dX12_layKept_125 : decode cX12_layKept 125 = .ok (.goto 4, 3) := by decide +kernel
theorem dX12_layKept_128 : decode cX12_layKept 128 = .ok (.iconst 0, 1) := by decide +kernel
theorem dX12_layKept_129 : decode cX12_layKept 129 = .ok (.istore 7, 2) := by decide +kernel
theorem dX12_layKept_131 : decode cX12_layKept 131 = .ok (.aload_n 0, 1) := by decide +kernel
theorem dX12_layKept_132 : decode cX12_layKept 132 = .ok (.getfield 41, 3) := by decide +kernel
theorem dX12_layKept_135 : decode cX12_layKept 135 = .ok (.iload 4, 2) := by decide +kernel
theorem dX12_layKept_137 : decode cX12_layKept 137 = .ok (.iload_n 1, 1) := by decide +kernel
theorem dX12_layKept_138 : decode cX12_layKept 138 = .ok (.iconst 2, 1) := by decide +kernel
theorem dX12_layKept_139 : decode cX12_layKept 139 = .ok (.if_icmp .ne 8, 3) := by decide +kernel
theorem dX12_layKept_142 : decode cX12_layKept 142 = .ok (.iload 7, 2) := by decide +kernel
theorem dX12_layKept_144 : decode cX12_layKept 144 = .ok (.goto 5, 3) := by decide +kernel
theorem dX12_layKept_147 : decode cX12_layKept 147 = .ok (.iload 6, 2) := by decide +kernel
theorem dX12_layKept_149 : decode cX12_layKept 149 = .ok (.ifCond .lt 7, 3) := by decide +kernel
theorem dX12_layKept_152 : decode cX12_layKept 152 = .ok (.iconst 1, 1) := by decide +kernel
theorem dX12_layKept_153 : decode cX12_layKept 153 = .ok (.goto 4, 3) := by decide +kernel
theorem dX12_layKept_156 : decode cX12_layKept 156 = .ok (.iconst 0, 1) := by decide +kernel
theorem dX12_layKept_157 : decode cX12_layKept 157 = .ok (.iastore, 1) := by decide +kernel
theorem dX12_layKept_158 : decode cX12_layKept 158 = .ok (.aload_n 0, 1) := by decide +kernel
theorem dX12_layKept_159 : decode cX12_layKept 159 = .ok (.getfield 35, 3) := by decide +kernel
theorem dX12_layKept_162 : decode cX12_layKept 162 = .ok (.iload 4, 2) := by decide +kernel
theorem dX12_layKept_164 : decode cX12_layKept 164 = .ok (.iload_n 1, 1) := by decide +kernel
theorem dX12_layKept_165 : decode cX12_layKept 165 = .ok (.iconst 2, 1) := by decide +kernel
theorem dX12_layKept_166 : decode cX12_layKept 166 = .ok (.if_icmp .ne 8, 3) := by decide +kernel
theorem dX12_layKept_169 : decode cX12_layKept 169 = .ok (.iload 6, 2) := by decide +kernel
theorem dX12_layKept_171 : decode cX12_layKept 171 = .ok (.goto 35, 3) := by decide +kernel
theorem dX12_layKept_174 : decode cX12_layKept 174 = .ok (.aload_n 0, 1) := by decide +kernel
theorem dX12_layKept_175 : decode cX12_layKept 175 = .ok (.getfield 41, 3) := by decide +kernel
theorem dX12_layKept_178 : decode cX12_layKept 178 = .ok (.iload 4, 2) := by decide +kernel
theorem dX12_layKept_180 : decode cX12_layKept 180 = .ok (.iaload, 1) := by decide +kernel
theorem dX12_layKept_181 : decode cX12_layKept 181 = .ok (.iconst 1, 1) := by decide +kernel
theorem dX12_layKept_182 : decode cX12_layKept 182 = .ok (.if_icmp .ne 15, 3) := by decide +kernel
theorem dX12_layKept_185 : decode cX12_layKept 185 = .ok (.iload 6, 2) := by decide +kernel
theorem dX12_layKept_187 : decode cX12_layKept 187 = .ok (.aload_n 0, 1) := by decide +kernel
theorem dX12_layKept_188 : decode cX12_layKept 188 = .ok (.getfield 19, 3) := by decide +kernel
theorem dX12_layKept_191 : decode cX12_layKept 191 = .ok (.iconst 5, 1) := by decide +kernel
theorem dX12_layKept_192 : decode cX12_layKept 192 = .ok (.iaload, 1) := by decide +kernel
theorem dX12_layKept_193 : decode cX12_layKept 193 = .ok (.isub, 1) := by decide +kernel
theorem dX12_layKept_194 : decode cX12_layKept 194 = .ok (.goto 12, 3) := by decide +kernel
theorem dX12_layKept_197 : decode cX12_layKept 197 = .ok (.iload 6, 2) := by decide +kernel
theorem dX12_layKept_199 : decode cX12_layKept 199 = .ok (.aload_n 0, 1) := by decide +kernel
theorem dX12_layKept_200 : decode cX12_layKept 200 = .ok (.getfield 19, 3) := by decide +kernel
theorem dX12_layKept_203 : decode cX12_layKept 203 = .ok (.iconst 5, 1) := by decide +kernel
theorem dX12_layKept_204 : decode cX12_layKept 204 = .ok (.iaload, 1) := by decide +kernel
theorem dX12_layKept_205 : decode cX12_layKept 205 = .ok (.iadd, 1) := by decide +kernel
theorem dX12_layKept_206 : decode cX12_layKept 206 = .ok (.invokestatic 256, 3) := by decide +kernel
theorem dX12_layKept_209 : decode cX12_layKept 209 = .ok (.iastore, 1) := by decide +kernel
theorem dX12_layKept_210 : decode cX12_layKept 210 = .ok (.aload_n 0, 1) := by decide +kernel
theorem dX12_layKept_211 : decode cX12_layKept 211 = .ok (.getfield 38, 3) := by decide +kernel
theorem dX12_layKept_214 : decode cX12_layKept 214 = .ok (.iload 4, 2) := by decide +kernel
theorem dX12_layKept_216 : decode cX12_layKept 216 = .ok (.iload 7, 2) := by decide +kernel
theorem dX12_layKept_218 : decode cX12_layKept 218 = .ok (.invokestatic 256, 3) := by decide +kernel
theorem dX12_layKept_221 : decode cX12_layKept 221 = .ok (.iastore, 1) := by decide +kernel
theorem dX12_layKept_222 : decode cX12_layKept 222 = .ok (.iinc 4 1, 3) := by decide +kernel
theorem dX12_layKept_225 : decode cX12_layKept 225 = .ok (.goto (-200), 3) := by decide +kernel
theorem dX12_layKept_228 : decode cX12_layKept 228 = .ok (.return_, 1) := by decide +kernel
theorem dX12_isKept_0 : decode cX12_isKept 0 = .ok (.iload_n 0, 1) := by decide +kernel
theorem dX12_isKept_1 : decode cX12_isKept 1 = .ok (.i2l, 1) := by decide +kernel
theorem dX12_isKept_2 : decode cX12_isKept 2 = .ok (.lconst 1, 1) := by decide +kernel
theorem dX12_isKept_3 : decode cX12_isKept 3 = .ok (.ldc2_w 202, 3) := by decide +kernel
theorem dX12_isKept_6 : decode cX12_isKept 6 = .ok (.invokestatic 70, 3) := by decide +kernel
theorem dX12_isKept_9 : decode cX12_isKept 9 = .ok (.ifCond .eq 21, 3) := by decide +kernel
theorem dX12_isKept_12 : decode cX12_isKept 12 = .ok (.iload_n 1, 1) := by decide +kernel
theorem dX12_isKept_13 : decode cX12_isKept 13 = .ok (.i2l, 1) := by decide +kernel
theorem dX12_isKept_14 : decode cX12_isKept 14 = .ok (.ldc2_w 259, 3) := by decide +kernel
theorem dX12_isKept_17 : decode cX12_isKept 17 = .ok (.ldc2_w 241, 3) := by decide +kernel
theorem dX12_isKept_20 : decode cX12_isKept 20 = .ok (.invokestatic 70, 3) := by decide +kernel
theorem dX12_isKept_23 : decode cX12_isKept 23 = .ok (.ifCond .eq 7, 3) := by decide +kernel
theorem dX12_isKept_26 : decode cX12_isKept 26 = .ok (.iconst 1, 1) := by decide +kernel
theorem dX12_isKept_27 : decode cX12_isKept 27 = .ok (.goto 4, 3) := by decide +kernel
theorem dX12_isKept_30 : decode cX12_isKept 30 = .ok (.iconst 0, 1) := by decide +kernel
theorem dX12_isKept_31 : decode cX12_isKept 31 = .ok (.ireturn, 1) := by decide +kernel
theorem dX12_kept_0 : decode cX12_kept 0 = .ok (.iload_n 1, 1) := by decide +kernel
theorem dX12_kept_1 : decode cX12_kept 1 = .ok (.iload_n 2, 1) := by decide +kernel
theorem dX12_kept_2 : decode cX12_kept 2 = .ok (.invokestatic 261, 3) := by decide +kernel
theorem dX12_kept_5 : decode cX12_kept 5 = .ok (.ifCond .eq 28, 3) := by decide +kernel
theorem dX12_kept_8 : decode cX12_kept 8 = .ok (.iload_n 3, 1) := by decide +kernel
theorem dX12_kept_9 : decode cX12_kept 9 = .ok (.i2l, 1) := by decide +kernel
theorem dX12_kept_10 : decode cX12_kept 10 = .ok (.lconst 0, 1) := by decide +kernel
theorem dX12_kept_11 : decode cX12_kept 11 = .ok (.ldc2_w 239, 3) := by decide +kernel
theorem dX12_kept_14 : decode cX12_kept 14 = .ok (.invokestatic 70, 3) := by decide +kernel
theorem dX12_kept_17 : decode cX12_kept 17 = .ok (.ifCond .eq 16, 3) := by decide +kernel
theorem dX12_kept_20 : decode cX12_kept 20 = .ok (.iload 4, 2) := by decide +kernel
theorem dX12_kept_22 : decode cX12_kept 22 = .ok (.i2l, 1) := by decide +kernel
theorem dX12_kept_23 : decode cX12_kept 23 = .ok (.lconst 1, 1) := by decide +kernel
theorem dX12_kept_24 : decode cX12_kept 24 = .ok (.ldc2_w 154, 3) := by decide +kernel
theorem dX12_kept_27 : decode cX12_kept 27 = .ok (.invokestatic 70, 3) := by decide +kernel
theorem dX12_kept_30 : decode cX12_kept 30 = .ok (.ifCond .ne 5, 3) := by decide +kernel
theorem dX12_kept_33 : decode cX12_kept 33 = .ok (.iconst (-1), 1) := by decide +kernel
theorem dX12_kept_34 : decode cX12_kept 34 = .ok (.ireturn, 1) := by decide +kernel
theorem dX12_kept_35 : decode cX12_kept 35 = .ok (.aload_n 0, 1) := by decide +kernel
theorem dX12_kept_36 : decode cX12_kept 36 = .ok (.iload_n 1, 1) := by decide +kernel
theorem dX12_kept_37 : decode cX12_kept 37 = .ok (.iload_n 2, 1) := by decide +kernel
theorem dX12_kept_38 : decode cX12_kept 38 = .ok (.iload_n 3, 1) := by decide +kernel
theorem dX12_kept_39 : decode cX12_kept 39 = .ok (.iload 4, 2) := by decide +kernel
theorem dX12_kept_41 : decode cX12_kept 41 = .ok (.iadd, 1) := by decide +kernel
theorem dX12_kept_42 : decode cX12_kept 42 = .ok (.invokevirtual 264, 3) := by decide +kernel
theorem dX12_kept_45 : decode cX12_kept 45 = .ok (.iconst 0, 1) := by decide +kernel
theorem dX12_kept_46 : decode cX12_kept 46 = .ok (.istore 5, 2) := by decide +kernel
theorem dX12_kept_48 : decode cX12_kept 48 = .ok (.iconst 0, 1) := by decide +kernel
theorem dX12_kept_49 : decode cX12_kept 49 = .ok (.istore 6, 2) := by decide +kernel
theorem dX12_kept_51 : decode cX12_kept 51 = .ok (.iload 6, 2) := by decide +kernel
theorem dX12_kept_53 : decode cX12_kept 53 = .ok (.iload 4, 2) := by decide +kernel
theorem dX12_kept_55 : decode cX12_kept 55 = .ok (.if_icmp .ge 28, 3) := by decide +kernel
theorem dX12_kept_58 : decode cX12_kept 58 = .ok (.iload 5, 2) := by decide +kernel
theorem dX12_kept_60 : decode cX12_kept 60 = .ok (.aload_n 0, 1) := by decide +kernel
theorem dX12_kept_61 : decode cX12_kept 61 = .ok (.getfield 41, 3) := by decide +kernel
theorem dX12_kept_64 : decode cX12_kept 64 = .ok (.iload_n 3, 1) := by decide +kernel
theorem dX12_kept_65 : decode cX12_kept 65 = .ok (.iload 6, 2) := by decide +kernel
theorem dX12_kept_67 : decode cX12_kept 67 = .ok (.iadd, 1) := by decide +kernel
theorem dX12_kept_68 : decode cX12_kept 68 = .ok (.iconst 1, 1) := by decide +kernel
theorem dX12_kept_69 : decode cX12_kept 69 = .ok (.iadd, 1) := by decide +kernel
theorem dX12_kept_70 : decode cX12_kept 70 = .ok (.iaload, 1) := by decide +kernel
theorem dX12_kept_71 : decode cX12_kept 71 = .ok (.iload 6, 2) := by decide +kernel
theorem dX12_kept_73 : decode cX12_kept 73 = .ok (.ishl, 1) := by decide +kernel
theorem dX12_kept_74 : decode cX12_kept 74 = .ok (.ior, 1) := by decide +kernel
theorem dX12_kept_75 : decode cX12_kept 75 = .ok (.istore 5, 2) := by decide +kernel
theorem dX12_kept_77 : decode cX12_kept 77 = .ok (.iinc 6 1, 3) := by decide +kernel
theorem dX12_kept_80 : decode cX12_kept 80 = .ok (.goto (-29), 3) := by decide +kernel
theorem dX12_kept_83 : decode cX12_kept 83 = .ok (.iload 5, 2) := by decide +kernel
theorem dX12_kept_85 : decode cX12_kept 85 = .ok (.ireturn, 1) := by decide +kernel
theorem dX12_onesIn_0 : decode cX12_onesIn 0 = .ok (.iconst 0, 1) := by decide +kernel
theorem dX12_onesIn_1 : decode cX12_onesIn 1 = .ok (.istore_n 3, 1) := by decide +kernel
theorem dX12_onesIn_2 : decode cX12_onesIn 2 = .ok (.iload_n 1, 1) := by decide +kernel
theorem dX12_onesIn_3 : decode cX12_onesIn 3 = .ok (.istore 4, 2) := by decide +kernel
theorem dX12_onesIn_5 : decode cX12_onesIn 5 = .ok (.iload 4, 2) := by decide +kernel
theorem dX12_onesIn_7 : decode cX12_onesIn 7 = .ok (.iload_n 2, 1) := by decide +kernel
theorem dX12_onesIn_8 : decode cX12_onesIn 8 = .ok (.if_icmp .gt 28, 3) := by decide +kernel
theorem dX12_onesIn_11 : decode cX12_onesIn 11 = .ok (.iload_n 3, 1) := by decide +kernel
theorem dX12_onesIn_12 : decode cX12_onesIn 12 = .ok (.aload_n 0, 1) := by decide +kernel
theorem dX12_onesIn_13 : decode cX12_onesIn 13 = .ok (.getfield 41, 3) := by decide +kernel
theorem dX12_onesIn_16 : decode cX12_onesIn 16 = .ok (.iload 4, 2) := by decide +kernel
theorem dX12_onesIn_18 : decode cX12_onesIn 18 = .ok (.iaload, 1) := by decide +kernel
theorem dX12_onesIn_19 : decode cX12_onesIn 19 = .ok (.iconst 1, 1) := by decide +kernel
theorem dX12_onesIn_20 : decode cX12_onesIn 20 = .ok (.if_icmp .ne 7, 3) := by decide +kernel
theorem dX12_onesIn_23 : decode cX12_onesIn 23 = .ok (.iconst 1, 1) := by decide +kernel
theorem dX12_onesIn_24 : decode cX12_onesIn 24 = .ok (.goto 4, 3) := by decide +kernel
theorem dX12_onesIn_27 : decode cX12_onesIn 27 = .ok (.iconst 0, 1) := by decide +kernel
theorem dX12_onesIn_28 : decode cX12_onesIn 28 = .ok (.iadd, 1) := by decide +kernel
theorem dX12_onesIn_29 : decode cX12_onesIn 29 = .ok (.istore_n 3, 1) := by decide +kernel
theorem dX12_onesIn_30 : decode cX12_onesIn 30 = .ok (.iinc 4 1, 3) := by decide +kernel
theorem dX12_onesIn_33 : decode cX12_onesIn 33 = .ok (.goto (-28), 3) := by decide +kernel
theorem dX12_onesIn_36 : decode cX12_onesIn 36 = .ok (.iload_n 3, 1) := by decide +kernel
theorem dX12_onesIn_37 : decode cX12_onesIn 37 = .ok (.ireturn, 1) := by decide +kernel
theorem dX12_ones_0 : decode cX12_ones 0 = .ok (.iload_n 1, 1) := by decide +kernel
theorem dX12_ones_1 : decode cX12_ones 1 = .ok (.iload_n 2, 1) := by decide +kernel
theorem dX12_ones_2 : decode cX12_ones 2 = .ok (.invokestatic 261, 3) := by decide +kernel
theorem dX12_ones_5 : decode cX12_ones 5 = .ok (.ifCond .eq 15, 3) := by decide +kernel
theorem dX12_ones_8 : decode cX12_ones 8 = .ok (.iload_n 3, 1) := by decide +kernel
theorem dX12_ones_9 : decode cX12_ones 9 = .ok (.i2l, 1) := by decide +kernel
theorem dX12_ones_10 : decode cX12_ones 10 = .ok (.lconst 1, 1) := by decide +kernel
theorem dX12_ones_11 : decode cX12_ones 11 = .ok (.ldc2_w 239, 3) := by decide +kernel
theorem dX12_ones_14 : decode cX12_ones 14 = .ok (.invokestatic 70, 3) := by decide +kernel
theorem dX12_ones_17 : decode cX12_ones 17 = .ok (.ifCond .ne 5, 3) := by decide +kernel
theorem dX12_ones_20 : decode cX12_ones 20 = .ok (.iconst (-1), 1) := by decide +kernel
theorem dX12_ones_21 : decode cX12_ones 21 = .ok (.ireturn, 1) := by decide +kernel
theorem dX12_ones_22 : decode cX12_ones 22 = .ok (.aload_n 0, 1) := by decide +kernel
theorem dX12_ones_23 : decode cX12_ones 23 = .ok (.iload_n 1, 1) := by decide +kernel
theorem dX12_ones_24 : decode cX12_ones 24 = .ok (.iload_n 2, 1) := by decide +kernel
theorem dX12_ones_25 : decode cX12_ones 25 = .ok (.iload_n 3, 1) := by decide +kernel
theorem dX12_ones_26 : decode cX12_ones 26 = .ok (.invokevirtual 264, 3) := by decide +kernel
theorem dX12_ones_29 : decode cX12_ones 29 = .ok (.aload_n 0, 1) := by decide +kernel
theorem dX12_ones_30 : decode cX12_ones 30 = .ok (.iconst 1, 1) := by decide +kernel
theorem dX12_ones_31 : decode cX12_ones 31 = .ok (.iload_n 3, 1) := by decide +kernel
theorem dX12_ones_32 : decode cX12_ones 32 = .ok (.invokevirtual 268, 3) := by decide +kernel
theorem dX12_ones_35 : decode cX12_ones 35 = .ok (.ireturn, 1) := by decide +kernel
theorem dX12_round_0 : decode cX12_round 0 = .ok (.iload_n 1, 1) := by decide +kernel
theorem dX12_round_1 : decode cX12_round 1 = .ok (.iload_n 2, 1) := by decide +kernel
theorem dX12_round_2 : decode cX12_round 2 = .ok (.invokestatic 261, 3) := by decide +kernel
theorem dX12_round_5 : decode cX12_round 5 = .ok (.ifCond .eq 15, 3) := by decide +kernel
theorem dX12_round_8 : decode cX12_round 8 = .ok (.iload_n 3, 1) := by decide +kernel
theorem dX12_round_9 : decode cX12_round 9 = .ok (.i2l, 1) := by decide +kernel
theorem dX12_round_10 : decode cX12_round 10 = .ok (.lconst 0, 1) := by decide +kernel
theorem dX12_round_11 : decode cX12_round 11 = .ok (.ldc2_w 202, 3) := by decide +kernel
theorem dX12_round_14 : decode cX12_round 14 = .ok (.invokestatic 70, 3) := by decide +kernel
theorem dX12_round_17 : decode cX12_round 17 = .ok (.ifCond .ne 5, 3) := by decide +kernel
theorem dX12_round_20 : decode cX12_round 20 = .ok (.iconst (-1), 1) := by decide +kernel
theorem dX12_round_21 : decode cX12_round 21 = .ok (.ireturn, 1) := by decide +kernel
theorem dX12_round_22 : decode cX12_round 22 = .ok (.aload_n 0, 1) := by decide +kernel
theorem dX12_round_23 : decode cX12_round 23 = .ok (.iload_n 1, 1) := by decide +kernel
theorem dX12_round_24 : decode cX12_round 24 = .ok (.iload_n 2, 1) := by decide +kernel
theorem dX12_round_25 : decode cX12_round 25 = .ok (.sipush 400, 3) := by decide +kernel
theorem dX12_round_28 : decode cX12_round 28 = .ok (.invokevirtual 264, 3) := by decide +kernel
theorem dX12_round_31 : decode cX12_round 31 = .ok (.iconst 1, 1) := by decide +kernel
theorem dX12_round_32 : decode cX12_round 32 = .ok (.istore 4, 2) := by decide +kernel
theorem dX12_round_34 : decode cX12_round 34 = .ok (.iload 4, 2) := by decide +kernel
theorem dX12_round_36 : decode cX12_round 36 = .ok (.sipush 400, 3) := by decide +kernel
theorem dX12_round_39 : decode cX12_round 39 = .ok (.if_icmp .gt 114, 3) := by decide +kernel
theorem dX12_round_42 : decode cX12_round 42 = .ok (.iconst 0, 1) := by decide +kernel
theorem dX12_round_43 : decode cX12_round 43 = .ok (.istore 5, 2) := by decide +kernel
theorem dX12_round_45 : decode cX12_round 45 = .ok (.iload 5, 2) := by decide +kernel
theorem dX12_round_47 : decode cX12_round 47 = .ok (.iload 4, 2) := by decide +kernel
theorem dX12_round_49 : decode cX12_round 49 = .ok (.if_icmp .ge 98, 3) := by decide +kernel
theorem dX12_round_52 : decode cX12_round 52 = .ok (.aload_n 0, 1) := by decide +kernel
theorem dX12_round_53 : decode cX12_round 53 = .ok (.getfield 35, 3) := by decide +kernel
theorem dX12_round_56 : decode cX12_round 56 = .ok (.iload 5, 2) := by decide +kernel
theorem dX12_round_58 : decode cX12_round 58 = .ok (.iaload, 1) := by decide +kernel
theorem dX12_round_59 : decode cX12_round 59 = .ok (.aload_n 0, 1) := by decide +kernel
theorem dX12_round_60 : decode cX12_round 60 = .ok (.getfield 35, 3) := by decide +kernel
theorem dX12_round_63 : decode cX12_round 63 = .ok (.iload 4, 2) := by decide +kernel
theorem dX12_round_65 : decode cX12_round 65 = .ok (.iaload, 1) := by decide +kernel
theorem dX12_round_66 : decode cX12_round 66 = .ok (.if_icmp .ne 75, 3) := by decide +kernel
theorem dX12_round_69 : decode cX12_round 69 = .ok (.iload_n 1, 1) := by decide +kernel
theorem dX12_round_70 : decode cX12_round 70 = .ok (.iconst 1, 1) := by decide +kernel
theorem dX12_round_71 : decode cX12_round 71 = .ok (.if_icmp .eq 37, 3) := by decide +kernel
theorem dX12_round_74 : decode cX12_round 74 = .ok (.aload_n 0, 1) := by decide +kernel
theorem dX12_round_75 : decode cX12_round 75 = .ok (.getfield 38, 3) := by decide +kernel
theorem dX12_round_78 : decode cX12_round 78 = .ok (.iload 5, 2) := by decide +kernel
theorem dX12_round_80 : decode cX12_round 80 = .ok (.iaload, 1) := by decide +kernel
theorem dX12_round_81 : decode cX12_round 81 = .ok (.aload_n 0, 1) := by decide +kernel
theorem dX12_round_82 : decode cX12_round 82 = .ok (.getfield 38, 3) := by decide +kernel
theorem dX12_round_85 : decode cX12_round 85 = .ok (.iload 4, 2) := by decide +kernel
theorem dX12_round_87 : decode cX12_round 87 = .ok (.iaload, 1) := by decide +kernel
theorem dX12_round_88 : decode cX12_round 88 = .ok (.if_icmp .ne 53, 3) := by decide +kernel
theorem dX12_round_91 : decode cX12_round 91 = .ok (.aload_n 0, 1) := by decide +kernel
theorem dX12_round_92 : decode cX12_round 92 = .ok (.getfield 41, 3) := by decide +kernel
theorem dX12_round_95 : decode cX12_round 95 = .ok (.iload 5, 2) := by decide +kernel
theorem dX12_round_97 : decode cX12_round 97 = .ok (.iaload, 1) := by decide +kernel
theorem dX12_round_98 : decode cX12_round 98 = .ok (.aload_n 0, 1) := by decide +kernel
theorem dX12_round_99 : decode cX12_round 99 = .ok (.getfield 41, 3) := by decide +kernel
theorem dX12_round_102 : decode cX12_round 102 = .ok (.iload 4, 2) := by decide +kernel
theorem dX12_round_104 : decode cX12_round 104 = .ok (.iaload, 1) := by decide +kernel
theorem dX12_round_105 : decode cX12_round 105 = .ok (.if_icmp .ne 36, 3) := by decide +kernel
theorem dX12_round_108 : decode cX12_round 108 = .ok (.iload_n 3, 1) := by decide +kernel
theorem dX12_round_109 : decode cX12_round 109 = .ok (.ifCond .ne 8, 3) := by decide +kernel
theorem dX12_round_112 : decode cX12_round 112 = .ok (.iload 5, 2) := by decide +kernel
theorem dX12_round_114 : decode cX12_round 114 = .ok (.goto 26, 3) := by decide +kernel
theorem dX12_round_117 : decode cX12_round 117 = .ok (.iload_n 3, 1) := by decide +kernel
theorem dX12_round_118 : decode cX12_round 118 = .ok (.iconst 1, 1) := by decide +kernel
theorem dX12_round_119 : decode cX12_round 119 = .ok (.if_icmp .ne 11, 3) := by decide +kernel
theorem dX12_round_122 : decode cX12_round 122 = .ok (.iload 4, 2) := by decide +kernel
theorem dX12_round_124 : decode cX12_round 124 = .ok (.iload 5, 2) := by decide +kernel
theorem dX12_round_126 : decode cX12_round 126 = .ok (.isub, 1) := by decide +kernel
theorem dX12_round_127 : decode cX12_round 127 = .ok (.goto 13, 3) := by decide +kernel
theorem dX12_round_130 : decode cX12_round 130 = .ok (.aload_n 0, 1) := by decide +kernel
theorem dX12_round_131 : decode cX12_round 131 = .ok (.iload 5, 2) := by decide +kernel
theorem dX12_round_133 : decode cX12_round 133 = .ok (.iconst 1, 1) := by decide +kernel
theorem dX12_round_134 : decode cX12_round 134 = .ok (.iadd, 1) := by decide +kernel
theorem dX12_round_135 : decode cX12_round 135 = .ok (.iload 4, 2) := by decide +kernel
theorem dX12_round_137 : decode cX12_round 137 = .ok (.invokevirtual 268, 3) := by decide +kernel
theorem dX12_round_140 : decode cX12_round 140 = .ok (.ireturn, 1) := by decide +kernel
theorem dX12_round_141 : decode cX12_round 141 = .ok (.iinc 5 1, 3) := by decide +kernel
theorem dX12_round_144 : decode cX12_round 144 = .ok (.goto (-99), 3) := by decide +kernel
theorem dX12_round_147 : decode cX12_round 147 = .ok (.iinc 4 1, 3) := by decide +kernel
theorem dX12_round_150 : decode cX12_round 150 = .ok (.goto (-116), 3) := by decide +kernel
theorem dX12_round_153 : decode cX12_round 153 = .ok (.bipush (-4), 2) := by decide +kernel
theorem dX12_round_155 : decode cX12_round 155 = .ok (.ireturn, 1) := by decide +kernel
theorem dX12_measure_0 : decode cX12_measure 0 = .ok (.aload_n 0, 1) := by decide +kernel
theorem dX12_measure_1 : decode cX12_measure 1 = .ok (.iload_n 1, 1) := by decide +kernel
theorem dX12_measure_2 : decode cX12_measure 2 = .ok (.invokevirtual 174, 3) := by decide +kernel
theorem dX12_measure_5 : decode cX12_measure 5 = .ok (.ifCond .eq 10, 3) := by decide +kernel
theorem dX12_measure_8 : decode cX12_measure 8 = .ok (.iload_n 2, 1) := by decide +kernel
theorem dX12_measure_9 : decode cX12_measure 9 = .ok (.invokestatic 212, 3) := by decide +kernel
theorem dX12_measure_12 : decode cX12_measure 12 = .ok (.ifCond .ne 5, 3) := by decide +kernel
theorem dX12_measure_15 : decode cX12_measure 15 = .ok (.iconst (-1), 1) := by decide +kernel
theorem dX12_measure_16 : decode cX12_measure 16 = .ok (.ireturn, 1) := by decide +kernel
theorem dX12_measure_17 : decode cX12_measure 17 = .ok (.iconst 0, 1) := by decide +kernel
theorem dX12_measure_18 : decode cX12_measure 18 = .ok (.istore_n 3, 1) := by decide +kernel
theorem dX12_measure_19 : decode cX12_measure 19 = .ok (.iload_n 3, 1) := by decide +kernel
theorem dX12_measure_20 : decode cX12_measure 20 = .ok (.aload_n 0, 1) := by decide +kernel
theorem dX12_measure_21 : decode cX12_measure 21 = .ok (.getfield 142, 3) := by decide +kernel
theorem dX12_measure_24 : decode cX12_measure 24 = .ok (.if_icmp .ge 31, 3) := by decide +kernel
theorem dX12_measure_27 : decode cX12_measure 27 = .ok (.aload_n 0, 1) := by decide +kernel
theorem dX12_measure_28 : decode cX12_measure 28 = .ok (.getfield 44, 3) := by decide +kernel
theorem dX12_measure_31 : decode cX12_measure 31 = .ok (.iload_n 3, 1) := by decide +kernel
theorem dX12_measure_32 : decode cX12_measure 32 = .ok (.iaload, 1) := by decide +kernel
theorem dX12_measure_33 : decode cX12_measure 33 = .ok (.iload_n 1, 1) := by decide +kernel
theorem dX12_measure_34 : decode cX12_measure 34 = .ok (.if_icmp .ne 15, 3) := by decide +kernel
theorem dX12_measure_37 : decode cX12_measure 37 = .ok (.aload_n 0, 1) := by decide +kernel
theorem dX12_measure_38 : decode cX12_measure 38 = .ok (.getfield 47, 3) := by decide +kernel
theorem dX12_measure_41 : decode cX12_measure 41 = .ok (.iload_n 3, 1) := by decide +kernel
theorem dX12_measure_42 : decode cX12_measure 42 = .ok (.iload_n 2, 1) := by decide +kernel
theorem dX12_measure_43 : decode cX12_measure 43 = .ok (.iastore, 1) := by decide +kernel
theorem dX12_measure_44 : decode cX12_measure 44 = .ok (.aload_n 0, 1) := by decide +kernel
theorem dX12_measure_45 : decode cX12_measure 45 = .ok (.getfield 142, 3) := by decide +kernel
theorem dX12_measure_48 : decode cX12_measure 48 = .ok (.ireturn, 1) := by decide +kernel
theorem dX12_measure_49 : decode cX12_measure 49 = .ok (.iinc 3 1, 3) := by decide +kernel
theorem dX12_measure_52 : decode cX12_measure 52 = .ok (.goto (-33), 3) := by decide +kernel
theorem dX12_measure_55 : decode cX12_measure 55 = .ok (.aload_n 0, 1) := by decide +kernel
theorem dX12_measure_56 : decode cX12_measure 56 = .ok (.getfield 142, 3) := by decide +kernel
theorem dX12_measure_59 : decode cX12_measure 59 = .ok (.bipush 12, 2) := by decide +kernel
theorem dX12_measure_61 : decode cX12_measure 61 = .ok (.if_icmp .ne 6, 3) := by decide +kernel
theorem dX12_measure_64 : decode cX12_measure 64 = .ok (.bipush (-3), 2) := by decide +kernel
theorem dX12_measure_66 : decode cX12_measure 66 = .ok (.ireturn, 1) := by decide +kernel
theorem dX12_measure_67 : decode cX12_measure 67 = .ok (.aload_n 0, 1) := by decide +kernel
theorem dX12_measure_68 : decode cX12_measure 68 = .ok (.getfield 44, 3) := by decide +kernel
theorem dX12_measure_71 : decode cX12_measure 71 = .ok (.aload_n 0, 1) := by decide +kernel
theorem dX12_measure_72 : decode cX12_measure 72 = .ok (.getfield 142, 3) := by decide +kernel
theorem dX12_measure_75 : decode cX12_measure 75 = .ok (.iload_n 1, 1) := by decide +kernel
theorem dX12_measure_76 : decode cX12_measure 76 = .ok (.iastore, 1) := by decide +kernel
theorem dX12_measure_77 : decode cX12_measure 77 = .ok (.aload_n 0, 1) := by decide +kernel
theorem dX12_measure_78 : decode cX12_measure 78 = .ok (.getfield 47, 3) := by decide +kernel
theorem dX12_measure_81 : decode cX12_measure 81 = .ok (.aload_n 0, 1) := by decide +kernel
theorem dX12_measure_82 : decode cX12_measure 82 = .ok (.getfield 142, 3) := by decide +kernel
theorem dX12_measure_85 : decode cX12_measure 85 = .ok (.iload_n 2, 1) := by decide +kernel
theorem dX12_measure_86 : decode cX12_measure 86 = .ok (.iastore, 1) := by decide +kernel
theorem dX12_measure_87 : decode cX12_measure 87 = .ok (.aload_n 0, 1) := by decide +kernel
theorem dX12_measure_88 : decode cX12_measure 88 = .ok (.dup, 1) := by decide +kernel
theorem dX12_measure_89 : decode cX12_measure 89 = .ok (.getfield 142, 3) := by decide +kernel
theorem dX12_measure_92 : decode cX12_measure 92 = .ok (.iconst 1, 1) := by decide +kernel
theorem dX12_measure_93 : decode cX12_measure 93 = .ok (.iadd, 1) := by decide +kernel
theorem dX12_measure_94 : decode cX12_measure 94 = .ok (.putfield 142, 3) := by decide +kernel
theorem dX12_measure_97 : decode cX12_measure 97 = .ok (.aload_n 0, 1) := by decide +kernel
theorem dX12_measure_98 : decode cX12_measure 98 = .ok (.getfield 142, 3) := by decide +kernel
theorem dX12_measure_101 : decode cX12_measure 101 = .ok (.ireturn, 1) := by decide +kernel
theorem dX12_at_0 : decode cX12_at 0 = .ok (.aload_n 0, 1) := by decide +kernel
theorem dX12_at_1 : decode cX12_at 1 = .ok (.getfield 50, 3) := by decide +kernel
theorem dX12_at_4 : decode cX12_at 4 = .ok (.bipush 11, 2) := by decide +kernel
theorem dX12_at_6 : decode cX12_at 6 = .ok (.iload_n 1, 1) := by decide +kernel
theorem dX12_at_7 : decode cX12_at 7 = .ok (.imul, 1) := by decide +kernel
theorem dX12_at_8 : decode cX12_at 8 = .ok (.iload_n 2, 1) := by decide +kernel
theorem dX12_at_9 : decode cX12_at 9 = .ok (.iadd, 1) := by decide +kernel
theorem dX12_at_10 : decode cX12_at 10 = .ok (.laload, 1) := by decide +kernel
theorem dX12_at_11 : decode cX12_at 11 = .ok (.lreturn, 1) := by decide +kernel
theorem dX12_swapRows_0 : decode cX12_swapRows 0 = .ok (.iconst 0, 1) := by decide +kernel
theorem dX12_swapRows_1 : decode cX12_swapRows 1 = .ok (.istore_n 3, 1) := by decide +kernel
theorem dX12_swapRows_2 : decode cX12_swapRows 2 = .ok (.iload_n 3, 1) := by decide +kernel
theorem dX12_swapRows_3 : decode cX12_swapRows 3 = .ok (.bipush 11, 2) := by decide +kernel
theorem dX12_swapRows_5 : decode cX12_swapRows 5 = .ok (.if_icmp .ge 47, 3) := by decide +kernel
theorem dX12_swapRows_8 : decode cX12_swapRows 8 = .ok (.aload_n 0, 1) := by decide +kernel
theorem dX12_swapRows_9 : decode cX12_swapRows 9 = .ok (.iload_n 1, 1) := by decide +kernel
theorem dX12_swapRows_10 : decode cX12_swapRows 10 = .ok (.iload_n 3, 1) := by decide +kernel
theorem dX12_swapRows_11 : decode cX12_swapRows 11 = .ok (.invokevirtual 271, 3) := by decide +kernel
theorem dX12_swapRows_14 : decode cX12_swapRows 14 = .ok (.lstore 4, 2) := by decide +kernel
theorem dX12_swapRows_16 : decode cX12_swapRows 16 = .ok (.aload_n 0, 1) := by decide +kernel
theorem dX12_swapRows_17 : decode cX12_swapRows 17 = .ok (.getfield 50, 3) := by decide +kernel
theorem dX12_swapRows_20 : decode cX12_swapRows 20 = .ok (.bipush 11, 2) := by decide +kernel
theorem dX12_swapRows_22 : decode cX12_swapRows 22 = .ok (.iload_n 1, 1) := by decide +kernel
theorem dX12_swapRows_23 : decode cX12_swapRows 23 = .ok (.imul, 1) := by decide +kernel
theorem dX12_swapRows_24 : decode cX12_swapRows 24 = .ok (.iload_n 3, 1) := by decide +kernel
theorem dX12_swapRows_25 : decode cX12_swapRows 25 = .ok (.iadd, 1) := by decide +kernel
theorem dX12_swapRows_26 : decode cX12_swapRows 26 = .ok (.aload_n 0, 1) := by decide +kernel
theorem dX12_swapRows_27 : decode cX12_swapRows 27 = .ok (.iload_n 2, 1) := by decide +kernel
theorem dX12_swapRows_28 : decode cX12_swapRows 28 = .ok (.iload_n 3, 1) := by decide +kernel
theorem dX12_swapRows_29 : decode cX12_swapRows 29 = .ok (.invokevirtual 271, 3) := by decide +kernel
theorem dX12_swapRows_32 : decode cX12_swapRows 32 = .ok (.lastore, 1) := by decide +kernel
theorem dX12_swapRows_33 : decode cX12_swapRows 33 = .ok (.aload_n 0, 1) := by decide +kernel
theorem dX12_swapRows_34 : decode cX12_swapRows 34 = .ok (.getfield 50, 3) := by decide +kernel
theorem dX12_swapRows_37 : decode cX12_swapRows 37 = .ok (.bipush 11, 2) := by decide +kernel
theorem dX12_swapRows_39 : decode cX12_swapRows 39 = .ok (.iload_n 2, 1) := by decide +kernel
theorem dX12_swapRows_40 : decode cX12_swapRows 40 = .ok (.imul, 1) := by decide +kernel
theorem dX12_swapRows_41 : decode cX12_swapRows 41 = .ok (.iload_n 3, 1) := by decide +kernel
theorem dX12_swapRows_42 : decode cX12_swapRows 42 = .ok (.iadd, 1) := by decide +kernel
theorem dX12_swapRows_43 : decode cX12_swapRows 43 = .ok (.lload 4, 2) := by decide +kernel
theorem dX12_swapRows_45 : decode cX12_swapRows 45 = .ok (.lastore, 1) := by decide +kernel
theorem dX12_swapRows_46 : decode cX12_swapRows 46 = .ok (.iinc 3 1, 3) := by decide +kernel
theorem dX12_swapRows_49 : decode cX12_swapRows 49 = .ok (.goto (-47), 3) := by decide +kernel
theorem dX12_swapRows_52 : decode cX12_swapRows 52 = .ok (.return_, 1) := by decide +kernel
theorem dX12_shrink_0 : decode cX12_shrink 0 = .ok (.lconst 0, 1) := by decide +kernel
theorem dX12_shrink_1 : decode cX12_shrink 1 = .ok (.lstore_n 2, 1) := by decide +kernel
theorem dX12_shrink_2 : decode cX12_shrink 2 = .ok (.iconst 0, 1) := by decide +kernel
theorem dX12_shrink_3 : decode cX12_shrink 3 = .ok (.istore 4, 2) := by decide +kernel
theorem dX12_shrink_5 : decode cX12_shrink 5 = .ok (.iload 4, 2) := by decide +kernel
theorem dX12_shrink_7 : decode cX12_shrink 7 = .ok (.bipush 11, 2) := by decide +kernel
theorem dX12_shrink_9 : decode cX12_shrink 9 = .ok (.if_icmp .ge 44, 3) := by decide +kernel
theorem dX12_shrink_12 : decode cX12_shrink 12 = .ok (.aload_n 0, 1) := by decide +kernel
theorem dX12_shrink_13 : decode cX12_shrink 13 = .ok (.iload_n 1, 1) := by decide +kernel
theorem dX12_shrink_14 : decode cX12_shrink 14 = .ok (.iload 4, 2) := by decide +kernel
theorem dX12_shrink_16 : decode cX12_shrink 16 = .ok (.invokevirtual 271, 3) := by decide +kernel
theorem dX12_shrink_19 : decode cX12_shrink 19 = .ok (.invokestatic 208, 3) := by decide +kernel
theorem dX12_shrink_22 : decode cX12_shrink 22 = .ok (.lstore 5, 2) := by decide +kernel
theorem dX12_shrink_24 : decode cX12_shrink 24 = .ok (.lload 5, 2) := by decide +kernel
theorem dX12_shrink_26 : decode cX12_shrink 26 = .ok (.lconst 0, 1) := by decide +kernel
theorem dX12_shrink_27 : decode cX12_shrink 27 = .ok (.lcmp, 1) := by decide +kernel
theorem dX12_shrink_28 : decode cX12_shrink 28 = .ok (.ifCond .eq 19, 3) := by decide +kernel
theorem dX12_shrink_31 : decode cX12_shrink 31 = .ok (.lload_n 2, 1) := by decide +kernel
theorem dX12_shrink_32 : decode cX12_shrink 32 = .ok (.lload 5, 2) := by decide +kernel
theorem dX12_shrink_34 : decode cX12_shrink 34 = .ok (.lrem, 1) := by decide +kernel
theorem dX12_shrink_35 : decode cX12_shrink 35 = .ok (.lstore 7, 2) := by decide +kernel
theorem dX12_shrink_37 : decode cX12_shrink 37 = .ok (.lload 5, 2) := by decide +kernel
theorem dX12_shrink_39 : decode cX12_shrink 39 = .ok (.lstore_n 2, 1) := by decide +kernel
theorem dX12_shrink_40 : decode cX12_shrink 40 = .ok (.lload 7, 2) := by decide +kernel
theorem dX12_shrink_42 : decode cX12_shrink 42 = .ok (.lstore 5, 2) := by decide +kernel
theorem dX12_shrink_44 : decode cX12_shrink 44 = .ok (.goto (-20), 3) := by decide +kernel
theorem dX12_shrink_47 : decode cX12_shrink 47 = .ok (.iinc 4 1, 3) := by decide +kernel
theorem dX12_shrink_50 : decode cX12_shrink 50 = .ok (.goto (-45), 3) := by decide +kernel
theorem dX12_shrink_53 : decode cX12_shrink 53 = .ok (.iconst 0, 1) := by decide +kernel
theorem dX12_shrink_54 : decode cX12_shrink 54 = .ok (.istore 4, 2) := by decide +kernel
theorem dX12_shrink_56 : decode cX12_shrink 56 = .ok (.iload 4, 2) := by decide +kernel
theorem dX12_shrink_58 : decode cX12_shrink 58 = .ok (.bipush 11, 2) := by decide +kernel
theorem dX12_shrink_60 : decode cX12_shrink 60 = .ok (.if_icmp .ge 31, 3) := by decide +kernel
theorem dX12_shrink_63 : decode cX12_shrink 63 = .ok (.lload_n 2, 1) := by decide +kernel
theorem dX12_shrink_64 : decode cX12_shrink 64 = .ok (.lconst 1, 1) := by decide +kernel
theorem dX12_shrink_65 : decode cX12_shrink 65 = .ok (.lcmp, 1) := by decide +kernel
theorem dX12_shrink_66 : decode cX12_shrink 66 = .ok (.ifCond .le 25, 3) := by decide +kernel
theorem dX12_shrink_69 : decode cX12_shrink 69 = .ok (.aload_n 0, 1) := by decide +kernel
theorem dX12_shrink_70 : decode cX12_shrink 70 = .ok (.getfield 50, 3) := by decide +kernel
theorem dX12_shrink_73 : decode cX12_shrink 73 = .ok (.bipush 11, 2) := by decide +kernel
theorem dX12_shrink_75 : decode cX12_shrink 75 = .ok (.iload_n 1, 1) := by decide +kernel
theorem dX12_shrink_76 : decode cX12_shrink 76 = .ok (.imul, 1) := by decide +kernel
theorem dX12_shrink_77 : decode cX12_shrink 77 = .ok (.iload 4, 2) := by decide +kernel
theorem dX12_shrink_79 : decode cX12_shrink 79 = .ok (.iadd, 1) := by decide +kernel
theorem dX12_shrink_80 : decode cX12_shrink 80 = .ok (.dup2, 1) := by decide +kernel
theorem dX12_shrink_81 : decode cX12_shrink 81 = .ok (.laload, 1) := by decide +kernel
theorem dX12_shrink_82 : decode cX12_shrink 82 = .ok (.lload_n 2, 1) := by decide +kernel
theorem dX12_shrink_83 : decode cX12_shrink 83 = .ok (.ldiv, 1) := by decide +kernel
theorem dX12_shrink_84 : decode cX12_shrink 84 = .ok (.lastore, 1) := by decide +kernel
theorem dX12_shrink_85 : decode cX12_shrink 85 = .ok (.iinc 4 1, 3) := by decide +kernel
theorem dX12_shrink_88 : decode cX12_shrink 88 = .ok (.goto (-32), 3) := by decide +kernel
theorem dX12_shrink_91 : decode cX12_shrink 91 = .ok (.return_, 1) := by decide +kernel
theorem dX12_solve_0 : decode cX12_solve 0 = .ok (.iconst 1, 1) := by decide +kernel
theorem dX12_solve_1 : decode cX12_solve 1 = .ok (.aload_n 0, 1) := by decide +kernel
theorem dX12_solve_2 : decode cX12_solve 2 = .ok (.invokevirtual 151, 3) := by decide +kernel
theorem dX12_solve_5 : decode cX12_solve 5 = .ok (.iadd, 1) := by decide +kernel
theorem dX12_solve_6 : decode cX12_solve 6 = .ok (.istore_n 1, 1) := by decide +kernel
theorem dX12_solve_7 : decode cX12_solve 7 = .ok (.iconst 0, 1) := by decide +kernel
theorem dX12_solve_8 : decode cX12_solve 8 = .ok (.istore_n 2, 1) := by decide +kernel
theorem dX12_solve_9 : decode cX12_solve 9 = .ok (.iload_n 2, 1) := by decide +kernel
theorem dX12_solve_10 : decode cX12_solve 10 = .ok (.aload_n 0, 1) := by decide +kernel
theorem dX12_solve_11 : decode cX12_solve 11 = .ok (.getfield 142, 3) := by decide +kernel
theorem dX12_solve_14 : decode cX12_solve 14 = .ok (.if_icmp .ge 92, 3) := by decide +kernel
theorem dX12_solve_17 : decode cX12_solve 17 = .ok (.iconst 0, 1) := by decide +kernel
theorem dX12_solve_18 : decode cX12_solve 18 = .ok (.istore_n 3, 1) := by decide +kernel
theorem dX12_solve_19 : decode cX12_solve 19 = .ok (.iload_n 3, 1) := by decide +kernel
theorem dX12_solve_20 : decode cX12_solve 20 = .ok (.bipush 11, 2) := by decide +kernel
theorem dX12_solve_22 : decode cX12_solve 22 = .ok (.if_icmp .ge 78, 3) := by decide +kernel
theorem dX12_solve_25 : decode cX12_solve 25 = .ok (.iload_n 3, 1) := by decide +kernel
theorem dX12_solve_26 : decode cX12_solve 26 = .ok (.ifCond .eq 24, 3) := by decide +kernel
theorem dX12_solve_29 : decode cX12_solve 29 = .ok (.iload_n 3, 1) := by decide +kernel
theorem dX12_solve_30 : decode cX12_solve 30 = .ok (.iload_n 1, 1) := by decide +kernel
theorem dX12_solve_31 : decode cX12_solve 31 = .ok (.if_icmp .ge 23, 3) := by decide +kernel
theorem dX12_solve_34 : decode cX12_solve 34 = .ok (.aload_n 0, 1) := by decide +kernel
theorem dX12_solve_35 : decode cX12_solve 35 = .ok (.iload_n 3, 1) := by decide +kernel
theorem dX12_solve_36 : decode cX12_solve 36 = .ok (.iconst 1, 1) := by decide +kernel
theorem dX12_solve_37 : decode cX12_solve 37 = .ok (.isub, 1) := by decide +kernel
theorem dX12_solve_38 : decode cX12_solve 38 = .ok (.aload_n 0, 1) := by decide +kernel
theorem dX12_solve_39 : decode cX12_solve 39 = .ok (.getfield 44, 3) := by decide +kernel
theorem dX12_solve_42 : decode cX12_solve 42 = .ok (.iload_n 2, 1) := by decide +kernel
theorem dX12_solve_43 : decode cX12_solve 43 = .ok (.iaload, 1) := by decide +kernel
theorem dX12_solve_44 : decode cX12_solve 44 = .ok (.invokevirtual 164, 3) := by decide +kernel
theorem dX12_solve_47 : decode cX12_solve 47 = .ok (.ifCond .eq 7, 3) := by decide +kernel
theorem dX12_solve_50 : decode cX12_solve 50 = .ok (.iconst 1, 1) := by decide +kernel
theorem dX12_solve_51 : decode cX12_solve 51 = .ok (.goto 4, 3) := by decide +kernel
theorem dX12_solve_54 : decode cX12_solve 54 = .ok (.iconst 0, 1) := by decide +kernel
theorem dX12_solve_55 : decode cX12_solve 55 = .ok (.istore 4, 2) := by decide +kernel
theorem dX12_solve_57 : decode cX12_solve 57 = .ok (.aload_n 0, 1) := by decide +kernel
theorem dX12_solve_58 : decode cX12_solve 58 = .ok (.getfield 50, 3) := by decide +kernel
theorem dX12_solve_61 : decode cX12_solve 61 = .ok (.bipush 11, 2) := by decide +kernel
theorem dX12_solve_63 : decode cX12_solve 63 = .ok (.iload_n 2, 1) := by decide +kernel
theorem dX12_solve_64 : decode cX12_solve 64 = .ok (.imul, 1) := by decide +kernel
theorem dX12_solve_65 : decode cX12_solve 65 = .ok (.iload_n 3, 1) := by decide +kernel
theorem dX12_solve_66 : decode cX12_solve 66 = .ok (.iadd, 1) := by decide +kernel
theorem dX12_solve_67 : decode cX12_solve 67 = .ok (.iload_n 3, 1) := by decide +kernel
theorem dX12_solve_68 : decode cX12_solve 68 = .ok (.bipush 10, 2) := by decide +kernel
theorem dX12_solve_70 : decode cX12_solve 70 = .ok (.if_icmp .ne 13, 3) := by decide +kernel
theorem dX12_solve_73 : decode cX12_solve 73 = .ok (.aload_n 0, 1) := by decide +kernel
theorem dX12_solve_74 : decode cX12_solve 74 = .ok (.getfield 47, 3) := by decide +kernel
theorem dX12_solve_77 : decode cX12_solve 77 = .ok (.iload_n 2, 1) := by decide +kernel
theorem dX12_solve_78 : decode cX12_solve 78 = .ok (.iaload, 1) := by decide +kernel
theorem dX12_solve_79 : decode cX12_solve 79 = .ok (.i2l, 1) := by decide +kernel
theorem dX12_solve_80 : decode cX12_solve 80 = .ok (.goto 13, 3) := by decide +kernel
theorem dX12_solve_83 : decode cX12_solve 83 = .ok (.iload 4, 2) := by decide +kernel
theorem dX12_solve_85 : decode cX12_solve 85 = .ok (.ifCond .eq 7, 3) := by decide +kernel
theorem dX12_solve_88 : decode cX12_solve 88 = .ok (.lconst 1, 1) := by decide +kernel
theorem dX12_solve_89 : decode cX12_solve 89 = .ok (.goto 4, 3) := by decide +kernel
theorem dX12_solve_92 : decode cX12_solve 92 = .ok (.lconst 0, 1) := by decide +kernel
theorem dX12_solve_93 : decode cX12_solve 93 = .ok (.lastore, 1) := by decide +kernel
theorem dX12_solve_94 : decode cX12_solve 94 = .ok (.iinc 3 1, 3) := by decide +kernel
theorem dX12_solve_97 : decode cX12_solve 97 = .ok (.goto (-78), 3) := by decide +kernel
theorem dX12_solve_100 : decode cX12_solve 100 = .ok (.iinc 2 1, 3) := by decide +kernel
theorem dX12_solve_103 : decode cX12_solve 103 = .ok (.goto (-94), 3) := by decide +kernel
theorem dX12_solve_106 : decode cX12_solve 106 = .ok (.aload_n 0, 1) := by decide +kernel
theorem dX12_solve_107 : decode cX12_solve 107 = .ok (.iconst 0, 1) := by decide +kernel
theorem dX12_solve_108 : decode cX12_solve 108 = .ok (.putfield 275, 3) := by decide +kernel
theorem dX12_solve_111 : decode cX12_solve 111 = .ok (.iconst 0, 1) := by decide +kernel
theorem dX12_solve_112 : decode cX12_solve 112 = .ok (.istore_n 2, 1) := by decide +kernel
theorem dX12_solve_113 : decode cX12_solve 113 = .ok (.iload_n 2, 1) := by decide +kernel
theorem dX12_solve_114 : decode cX12_solve 114 = .ok (.iload_n 1, 1) := by decide +kernel
theorem dX12_solve_115 : decode cX12_solve 115 = .ok (.if_icmp .ge 91, 3) := by decide +kernel
theorem dX12_solve_118 : decode cX12_solve 118 = .ok (.aload_n 0, 1) := by decide +kernel
theorem dX12_solve_119 : decode cX12_solve 119 = .ok (.getfield 275, 3) := by decide +kernel
theorem dX12_solve_122 : decode cX12_solve 122 = .ok (.istore_n 3, 1) := by decide +kernel
theorem dX12_solve_123 : decode cX12_solve 123 = .ok (.iload_n 3, 1) := by decide +kernel
theorem dX12_solve_124 : decode cX12_solve 124 = .ok (.aload_n 0, 1) := by decide +kernel
theorem dX12_solve_125 : decode cX12_solve 125 = .ok (.getfield 142, 3) := by decide +kernel
theorem dX12_solve_128 : decode cX12_solve 128 = .ok (.if_icmp .ge 20, 3) := by decide +kernel
theorem dX12_solve_131 : decode cX12_solve 131 = .ok (.aload_n 0, 1) := by decide +kernel
theorem dX12_solve_132 : decode cX12_solve 132 = .ok (.iload_n 3, 1) := by decide +kernel
theorem dX12_solve_133 : decode cX12_solve 133 = .ok (.iload_n 2, 1) := by decide +kernel
theorem dX12_solve_134 : decode cX12_solve 134 = .ok (.invokevirtual 271, 3) := by decide +kernel
theorem dX12_solve_137 : decode cX12_solve 137 = .ok (.lconst 0, 1) := by decide +kernel
theorem dX12_solve_138 : decode cX12_solve 138 = .ok (.lcmp, 1) := by decide +kernel
theorem dX12_solve_139 : decode cX12_solve 139 = .ok (.ifCond .ne 9, 3) := by decide +kernel
theorem dX12_solve_142 : decode cX12_solve 142 = .ok (.iinc 3 1, 3) := by decide +kernel
theorem dX12_solve_145 : decode cX12_solve 145 = .ok (.goto (-22), 3) := by decide +kernel
theorem dX12_solve_148 : decode cX12_solve 148 = .ok (.iload_n 3, 1) := by decide +kernel
theorem dX12_solve_149 : decode cX12_solve 149 = .ok (.aload_n 0, 1) := by decide +kernel
theorem dX12_solve_150 : decode cX12_solve 150 = .ok (.getfield 142, 3) := by decide +kernel
theorem dX12_solve_153 : decode cX12_solve 153 = .ok (.if_icmp .ge 47, 3) := by decide +kernel
theorem dX12_solve_156 : decode cX12_solve 156 = .ok (.aload_n 0, 1) := by decide +kernel
theorem dX12_solve_157 : decode cX12_solve 157 = .ok (.iload_n 3, 1) := by decide +kernel
theorem dX12_solve_158 : decode cX12_solve 158 = .ok (.aload_n 0, 1) := by decide +kernel
theorem dX12_solve_159 : decode cX12_solve 159 = .ok (.getfield 275, 3) := by decide +kernel
theorem dX12_solve_162 : decode cX12_solve 162 = .ok (.invokevirtual 278, 3) := by decide +kernel
theorem dX12_solve_165 : decode cX12_solve 165 = .ok (.iconst 0, 1) := by decide +kernel
theorem dX12_solve_166 : decode cX12_solve 166 = .ok (.istore 4, 2) := by decide +kernel
theorem dX12_solve_168 : decode cX12_solve 168 = .ok (.iload 4, 2) := by decide +kernel
theorem dX12_solve_170 : decode cX12_solve 170 = .ok (.aload_n 0, 1) := by decide +kernel
theorem dX12_solve_171 : decode cX12_solve 171 = .ok (.getfield 142, 3) := by decide +kernel
theorem dX12_solve_174 : decode cX12_solve 174 = .ok (.if_icmp .ge 16, 3) := by decide +kernel
theorem dX12_solve_177 : decode cX12_solve 177 = .ok (.aload_n 0, 1) := by decide +kernel
theorem dX12_solve_178 : decode cX12_solve 178 = .ok (.iload 4, 2) := by decide +kernel
theorem dX12_solve_180 : decode cX12_solve 180 = .ok (.iload_n 2, 1) := by decide +kernel
theorem dX12_solve_181 : decode cX12_solve 181 = .ok (.invokevirtual 282, 3) := by decide +kernel
theorem dX12_solve_184 : decode cX12_solve 184 = .ok (.iinc 4 1, 3) := by decide +kernel
theorem dX12_solve_187 : decode cX12_solve 187 = .ok (.goto (-19), 3) := by decide +kernel
theorem dX12_solve_190 : decode cX12_solve 190 = .ok (.aload_n 0, 1) := by decide +kernel
theorem dX12_solve_191 : decode cX12_solve 191 = .ok (.dup, 1) := by decide +kernel
theorem dX12_solve_192 : decode cX12_solve 192 = .ok (.getfield 275, 3) := by decide +kernel
theorem dX12_solve_195 : decode cX12_solve 195 = .ok (.iconst 1, 1) := by decide +kernel
theorem dX12_solve_196 : decode cX12_solve 196 = .ok (.iadd, 1) := by decide +kernel
theorem dX12_solve_197 : decode cX12_solve 197 = .ok (.putfield 275, 3) := by decide +kernel
theorem dX12_solve_200 : decode cX12_solve 200 = .ok (.iinc 2 1, 3) := by decide +kernel
theorem dX12_solve_203 : decode cX12_solve 203 = .ok (.goto (-90), 3) := by decide +kernel
theorem dX12_solve_206 : decode cX12_solve 206 = .ok (.aload_n 0, 1) := by decide +kernel
theorem dX12_solve_207 : decode cX12_solve 207 = .ok (.getfield 275, 3) := by decide +kernel
theorem dX12_solve_210 : decode cX12_solve 210 = .ok (.istore_n 2, 1) := by decide +kernel
theorem dX12_solve_211 : decode cX12_solve 211 = .ok (.iload_n 2, 1) := by decide +kernel
theorem dX12_solve_212 : decode cX12_solve 212 = .ok (.aload_n 0, 1) := by decide +kernel
theorem dX12_solve_213 : decode cX12_solve 213 = .ok (.getfield 142, 3) := by decide +kernel
theorem dX12_solve_216 : decode cX12_solve 216 = .ok (.if_icmp .ge 24, 3) := by decide +kernel
theorem dX12_solve_219 : decode cX12_solve 219 = .ok (.aload_n 0, 1) := by decide +kernel
theorem dX12_solve_220 : decode cX12_solve 220 = .ok (.iload_n 2, 1) := by decide +kernel
theorem dX12_solve_221 : decode cX12_solve 221 = .ok (.bipush 10, 2) := by decide +kernel
theorem dX12_solve_223 : decode cX12_solve 223 = .ok (.invokevirtual 271, 3) := by decide +kernel
theorem dX12_solve_226 : decode cX12_solve 226 = .ok (.lconst 0, 1) := by decide +kernel
theorem dX12_solve_227 : decode cX12_solve 227 = .ok (.lcmp, 1) := by decide +kernel
theorem dX12_solve_228 : decode cX12_solve 228 = .ok (.ifCond .eq 6, 3) := by decide +kernel
theorem dX12_solve_231 : decode cX12_solve 231 = .ok (.bipush (-2), 2) := by decide +kernel
theorem dX12_solve_233 : decode cX12_solve 233 = .ok (.ireturn, 1) := by decide +kernel
theorem dX12_solve_234 : decode cX12_solve 234 = .ok (.iinc 2 1, 3) := by decide +kernel
theorem dX12_solve_237 : decode cX12_solve 237 = .ok (.goto (-26), 3) := by decide +kernel
theorem dX12_solve_240 : decode cX12_solve 240 = .ok (.aload_n 0, 1) := by decide +kernel
theorem dX12_solve_241 : decode cX12_solve 241 = .ok (.getfield 275, 3) := by decide +kernel
theorem dX12_solve_244 : decode cX12_solve 244 = .ok (.iload_n 1, 1) := by decide +kernel
theorem dX12_solve_245 : decode cX12_solve 245 = .ok (.if_icmp .ge 8, 3) := by decide +kernel
theorem dX12_solve_248 : decode cX12_solve 248 = .ok (.bipush (-4), 2) := by decide +kernel
theorem dX12_solve_250 : decode cX12_solve 250 = .ok (.goto 4, 3) := by decide +kernel
theorem dX12_solve_253 : decode cX12_solve 253 = .ok (.iconst 0, 1) := by decide +kernel
theorem dX12_solve_254 : decode cX12_solve 254 = .ok (.ireturn, 1) := by decide +kernel
theorem dX12_free_0 : decode cX12_free 0 = .ok (.iload_n 1, 1) := by decide +kernel
theorem dX12_free_1 : decode cX12_free 1 = .ok (.aload_n 0, 1) := by decide +kernel
theorem dX12_free_2 : decode cX12_free 2 = .ok (.getfield 275, 3) := by decide +kernel
theorem dX12_free_5 : decode cX12_free 5 = .ok (.if_icmp .eq 14, 3) := by decide +kernel
theorem dX12_free_8 : decode cX12_free 8 = .ok (.aload_n 0, 1) := by decide +kernel
theorem dX12_free_9 : decode cX12_free 9 = .ok (.iload_n 1, 1) := by decide +kernel
theorem dX12_free_10 : decode cX12_free 10 = .ok (.iload_n 2, 1) := by decide +kernel
theorem dX12_free_11 : decode cX12_free 11 = .ok (.invokevirtual 271, 3) := by decide +kernel
theorem dX12_free_14 : decode cX12_free 14 = .ok (.lconst 0, 1) := by decide +kernel
theorem dX12_free_15 : decode cX12_free 15 = .ok (.lcmp, 1) := by decide +kernel
theorem dX12_free_16 : decode cX12_free 16 = .ok (.ifCond .ne 4, 3) := by decide +kernel
theorem dX12_free_19 : decode cX12_free 19 = .ok (.return_, 1) := by decide +kernel
theorem dX12_free_20 : decode cX12_free 20 = .ok (.aload_n 0, 1) := by decide +kernel
theorem dX12_free_21 : decode cX12_free 21 = .ok (.aload_n 0, 1) := by decide +kernel
theorem dX12_free_22 : decode cX12_free 22 = .ok (.getfield 275, 3) := by decide +kernel
theorem dX12_free_25 : decode cX12_free 25 = .ok (.iload_n 2, 1) := by decide +kernel
theorem dX12_free_26 : decode cX12_free 26 = .ok (.invokevirtual 271, 3) := by decide +kernel
theorem dX12_free_29 : decode cX12_free 29 = .ok (.lstore_n 3, 1) := by decide +kernel
theorem dX12_free_30 : decode cX12_free 30 = .ok (.aload_n 0, 1) := by decide +kernel
theorem dX12_free_31 : decode cX12_free 31 = .ok (.iload_n 1, 1) := by decide +kernel
theorem dX12_free_32 : decode cX12_free 32 = .ok (.iload_n 2, 1) := by decide +kernel
theorem dX12_free_33 : decode cX12_free 33 = .ok (.invokevirtual 271, 3) := by decide +kernel
theorem dX12_free_36 : decode cX12_free 36 = .ok (.lstore 5, 2) := by decide +kernel
theorem dX12_free_38 : decode cX12_free 38 = .ok (.iconst 0, 1) := by decide +kernel
theorem dX12_free_39 : decode cX12_free 39 = .ok (.istore 7, 2) := by decide +kernel
theorem dX12_free_41 : decode cX12_free 41 = .ok (.iload 7, 2) := by decide +kernel
theorem dX12_free_43 : decode cX12_free 43 = .ok (.bipush 11, 2) := by decide +kernel
theorem dX12_free_45 : decode cX12_free 45 = .ok (.if_icmp .ge 54, 3) := by decide +kernel
theorem dX12_free_48 : decode cX12_free 48 = .ok (.aload_n 0, 1) := by decide +kernel
theorem dX12_free_49 : decode cX12_free 49 = .ok (.getfield 50, 3) := by decide +kernel
theorem dX12_free_52 : decode cX12_free 52 = .ok (.bipush 11, 2) := by decide +kernel
theorem dX12_free_54 : decode cX12_free 54 = .ok (.iload_n 1, 1) := by decide +kernel
theorem dX12_free_55 : decode cX12_free 55 = .ok (.imul, 1) := by decide +kernel
theorem dX12_free_56 : decode cX12_free 56 = .ok (.iload 7, 2) := by decide +kernel
theorem dX12_free_58 : decode cX12_free 58 = .ok (.iadd, 1) := by decide +kernel
theorem dX12_free_59 : decode cX12_free 59 = .ok (.aload_n 0, 1) := by decide +kernel
theorem dX12_free_60 : decode cX12_free 60 = .ok (.getfield 50, 3) := by decide +kernel
theorem dX12_free_63 : decode cX12_free 63 = .ok (.bipush 11, 2) := by decide +kernel
theorem dX12_free_65 : decode cX12_free 65 = .ok (.iload_n 1, 1) := by decide +kernel
theorem dX12_free_66 : decode cX12_free 66 = .ok (.imul, 1) := by decide +kernel
theorem dX12_free_67 : decode cX12_free 67 = .ok (.iload 7, 2) := by decide +kernel
theorem dX12_free_69 : decode cX12_free 69 = .ok (.iadd, 1) := by decide +kernel
theorem dX12_free_70 : decode cX12_free 70 = .ok (.laload, 1) := by decide +kernel
theorem dX12_free_71 : decode cX12_free 71 = .ok (.lload_n 3, 1) := by decide +kernel
theorem dX12_free_72 : decode cX12_free 72 = .ok (.lmul, 1) := by decide +kernel
theorem dX12_free_73 : decode cX12_free 73 = .ok (.aload_n 0, 1) := by decide +kernel
theorem dX12_free_74 : decode cX12_free 74 = .ok (.getfield 50, 3) := by decide +kernel
theorem dX12_free_77 : decode cX12_free 77 = .ok (.bipush 11, 2) := by decide +kernel
theorem dX12_free_79 : decode cX12_free 79 = .ok (.aload_n 0, 1) := by decide +kernel
theorem dX12_free_80 : decode cX12_free 80 = .ok (.getfield 275, 3) := by decide +kernel
theorem dX12_free_83 : decode cX12_free 83 = .ok (.imul, 1) := by decide +kernel
theorem dX12_free_84 : decode cX12_free 84 = .ok (.iload 7, 2) := by decide +kernel
theorem dX12_free_86 : decode cX12_free 86 = .ok (.iadd, 1) := by decide +kernel
theorem dX12_free_87 : decode cX12_free 87 = .ok (.laload, 1) := by decide +kernel
theorem dX12_free_88 : decode cX12_free 88 = .ok (.lload 5, 2) := by decide +kernel
theorem dX12_free_90 : decode cX12_free 90 = .ok (.lmul, 1) := by decide +kernel
theorem dX12_free_91 : decode cX12_free 91 = .ok (.lsub, 1) := by decide +kernel
theorem dX12_free_92 : decode cX12_free 92 = .ok (.lastore, 1) := by decide +kernel
theorem dX12_free_93 : decode cX12_free 93 = .ok (.iinc 7 1, 3) := by decide +kernel
theorem dX12_free_96 : decode cX12_free 96 = .ok (.goto (-55), 3) := by decide +kernel
theorem dX12_free_99 : decode cX12_free 99 = .ok (.aload_n 0, 1) := by decide +kernel
theorem dX12_free_100 : decode cX12_free 100 = .ok (.iload_n 1, 1) := by decide +kernel
theorem dX12_free_101 : decode cX12_free 101 = .ok (.invokevirtual 285, 3) := by decide +kernel
theorem dX12_free_104 : decode cX12_free 104 = .ok (.return_, 1) := by decide +kernel
theorem dX12_solved_0 : decode cX12_solved 0 = .ok (.aload_n 0, 1) := by decide +kernel
theorem dX12_solved_1 : decode cX12_solved 1 = .ok (.iload_n 1, 1) := by decide +kernel
theorem dX12_solved_2 : decode cX12_solved 2 = .ok (.iload_n 1, 1) := by decide +kernel
theorem dX12_solved_3 : decode cX12_solved 3 = .ok (.invokevirtual 271, 3) := by decide +kernel
theorem dX12_solved_6 : decode cX12_solved 6 = .ok (.lstore_n 3, 1) := by decide +kernel
theorem dX12_solved_7 : decode cX12_solved 7 = .ok (.aload_n 0, 1) := by decide +kernel
theorem dX12_solved_8 : decode cX12_solved 8 = .ok (.iload_n 1, 1) := by decide +kernel
theorem dX12_solved_9 : decode cX12_solved 9 = .ok (.bipush 10, 2) := by decide +kernel
theorem dX12_solved_11 : decode cX12_solved 11 = .ok (.invokevirtual 271, 3) := by decide +kernel
theorem dX12_solved_14 : decode cX12_solved 14 = .ok (.lstore 5, 2) := by decide +kernel
theorem dX12_solved_16 : decode cX12_solved 16 = .ok (.lload_n 3, 1) := by decide +kernel
theorem dX12_solved_17 : decode cX12_solved 17 = .ok (.lconst 0, 1) := by decide +kernel
theorem dX12_solved_18 : decode cX12_solved 18 = .ok (.lcmp, 1) := by decide +kernel
theorem dX12_solved_19 : decode cX12_solved 19 = .ok (.ifCond .ge 15, 3) := by decide +kernel
theorem dX12_solved_22 : decode cX12_solved 22 = .ok (.lload 5, 2) := by decide +kernel
theorem dX12_solved_24 : decode cX12_solved 24 = .ok (.lneg, 1) := by decide +kernel
theorem dX12_solved_25 : decode cX12_solved 25 = .ok (.lload_n 3, 1) := by decide +kernel
theorem dX12_solved_26 : decode cX12_solved 26 = .ok (.lneg, 1) := by decide +kernel
theorem dX12_solved_27 : decode cX12_solved 27 = .ok (.iload_n 2, 1) := by decide +kernel
theorem dX12_solved_28 : decode cX12_solved 28 = .ok (.invokestatic 187, 3) := by decide +kernel
theorem dX12_solved_31 : decode cX12_solved 31 = .ok (.goto 10, 3) := by decide +kernel
theorem dX12_solved_34 : decode cX12_solved 34 = .ok (.lload 5, 2) := by decide +kernel
theorem dX12_solved_36 : decode cX12_solved 36 = .ok (.lload_n 3, 1) := by decide +kernel
theorem dX12_solved_37 : decode cX12_solved 37 = .ok (.iload_n 2, 1) := by decide +kernel
theorem dX12_solved_38 : decode cX12_solved 38 = .ok (.invokestatic 187, 3) := by decide +kernel
theorem dX12_solved_41 : decode cX12_solved 41 = .ok (.lreturn, 1) := by decide +kernel
theorem dX12_reckon_0 : decode cX12_reckon 0 = .ok (.aload_n 0, 1) := by decide +kernel
theorem dX12_reckon_1 : decode cX12_reckon 1 = .ok (.invokevirtual 151, 3) := by decide +kernel
theorem dX12_reckon_4 : decode cX12_reckon 4 = .ok (.istore_n 2, 1) := by decide +kernel
theorem dX12_reckon_5 : decode cX12_reckon 5 = .ok (.iload_n 1, 1) := by decide +kernel
theorem dX12_reckon_6 : decode cX12_reckon 6 = .ok (.i2l, 1) := by decide +kernel
theorem dX12_reckon_7 : decode cX12_reckon 7 = .ok (.lconst 0, 1) := by decide +kernel
theorem dX12_reckon_8 : decode cX12_reckon 8 = .ok (.lconst 1, 1) := by decide +kernel
theorem dX12_reckon_9 : decode cX12_reckon 9 = .ok (.invokestatic 70, 3) := by decide +kernel
theorem dX12_reckon_12 : decode cX12_reckon 12 = .ok (.ifCond .ne 39, 3) := by decide +kernel
theorem dX12_reckon_15 : decode cX12_reckon 15 = .ok (.iload_n 1, 1) := by decide +kernel
theorem dX12_reckon_16 : decode cX12_reckon 16 = .ok (.i2l, 1) := by decide +kernel
theorem dX12_reckon_17 : decode cX12_reckon 17 = .ok (.ldc2_w 147, 3) := by decide +kernel
theorem dX12_reckon_20 : decode cX12_reckon 20 = .ok (.bipush 9, 2) := by decide +kernel
theorem dX12_reckon_22 : decode cX12_reckon 22 = .ok (.iload_n 2, 1) := by decide +kernel
theorem dX12_reckon_23 : decode cX12_reckon 23 = .ok (.iadd, 1) := by decide +kernel
theorem dX12_reckon_24 : decode cX12_reckon 24 = .ok (.i2l, 1) := by decide +kernel
theorem dX12_reckon_25 : decode cX12_reckon 25 = .ok (.invokestatic 70, 3) := by decide +kernel
theorem dX12_reckon_28 : decode cX12_reckon 28 = .ok (.ifCond .ne 23, 3) := by decide +kernel
theorem dX12_reckon_31 : decode cX12_reckon 31 = .ok (.iload_n 1, 1) := by decide +kernel
theorem dX12_reckon_32 : decode cX12_reckon 32 = .ok (.i2l, 1) := by decide +kernel
theorem dX12_reckon_33 : decode cX12_reckon 33 = .ok (.ldc2_w 154, 3) := by decide +kernel
theorem dX12_reckon_36 : decode cX12_reckon 36 = .ok (.bipush 29, 2) := by decide +kernel
theorem dX12_reckon_38 : decode cX12_reckon 38 = .ok (.iload_n 2, 1) := by decide +kernel
theorem dX12_reckon_39 : decode cX12_reckon 39 = .ok (.iadd, 1) := by decide +kernel
theorem dX12_reckon_40 : decode cX12_reckon 40 = .ok (.i2l, 1) := by decide +kernel
theorem dX12_reckon_41 : decode cX12_reckon 41 = .ok (.invokestatic 70, 3) := by decide +kernel
theorem dX12_reckon_44 : decode cX12_reckon 44 = .ok (.ifCond .ne 7, 3) := by decide +kernel
theorem dX12_reckon_47 : decode cX12_reckon 47 = .ok (.ldc2_w 191, 3) := by decide +kernel
theorem dX12_reckon_50 : decode cX12_reckon 50 = .ok (.lreturn, 1) := by decide +kernel
theorem dX12_reckon_51 : decode cX12_reckon 51 = .ok (.aload_n 0, 1) := by decide +kernel
theorem dX12_reckon_52 : decode cX12_reckon 52 = .ok (.invokevirtual 288, 3) := by decide +kernel
theorem dX12_reckon_55 : decode cX12_reckon 55 = .ok (.istore_n 3, 1) := by decide +kernel
theorem dX12_reckon_56 : decode cX12_reckon 56 = .ok (.iload_n 3, 1) := by decide +kernel
theorem dX12_reckon_57 : decode cX12_reckon 57 = .ok (.ifCond .eq 10, 3) := by decide +kernel
theorem dX12_reckon_60 : decode cX12_reckon 60 = .ok (.ldc2_w 191, 3) := by decide +kernel
theorem dX12_reckon_63 : decode cX12_reckon 63 = .ok (.iload_n 3, 1) := by decide +kernel
theorem dX12_reckon_64 : decode cX12_reckon 64 = .ok (.i2l, 1) := by decide +kernel
theorem dX12_reckon_65 : decode cX12_reckon 65 = .ok (.ladd, 1) := by decide +kernel
theorem dX12_reckon_66 : decode cX12_reckon 66 = .ok (.lreturn, 1) := by decide +kernel
theorem dX12_reckon_67 : decode cX12_reckon 67 = .ok (.iload_n 1, 1) := by decide +kernel
theorem dX12_reckon_68 : decode cX12_reckon 68 = .ok (.iconst 2, 1) := by decide +kernel
theorem dX12_reckon_69 : decode cX12_reckon 69 = .ok (.if_icmp .ge 12, 3) := by decide +kernel
theorem dX12_reckon_72 : decode cX12_reckon 72 = .ok (.aload_n 0, 1) := by decide +kernel
theorem dX12_reckon_73 : decode cX12_reckon 73 = .ok (.iconst 0, 1) := by decide +kernel
theorem dX12_reckon_74 : decode cX12_reckon 74 = .ok (.iload_n 1, 1) := by decide +kernel
theorem dX12_reckon_75 : decode cX12_reckon 75 = .ok (.invokevirtual 291, 3) := by decide +kernel
theorem dX12_reckon_78 : decode cX12_reckon 78 = .ok (.goto 30, 3) := by decide +kernel
theorem dX12_reckon_81 : decode cX12_reckon 81 = .ok (.iload_n 1, 1) := by decide +kernel
theorem dX12_reckon_82 : decode cX12_reckon 82 = .ok (.bipush 30, 2) := by decide +kernel
theorem dX12_reckon_84 : decode cX12_reckon 84 = .ok (.if_icmp .ge 15, 3) := by decide +kernel
theorem dX12_reckon_87 : decode cX12_reckon 87 = .ok (.aload_n 0, 1) := by decide +kernel
theorem dX12_reckon_88 : decode cX12_reckon 88 = .ok (.iload_n 1, 1) := by decide +kernel
theorem dX12_reckon_89 : decode cX12_reckon 89 = .ok (.bipush 9, 2) := by decide +kernel
theorem dX12_reckon_91 : decode cX12_reckon 91 = .ok (.isub, 1) := by decide +kernel
theorem dX12_reckon_92 : decode cX12_reckon 92 = .ok (.iconst 0, 1) := by decide +kernel
theorem dX12_reckon_93 : decode cX12_reckon 93 = .ok (.invokevirtual 291, 3) := by decide +kernel
theorem dX12_reckon_96 : decode cX12_reckon 96 = .ok (.goto 12, 3) := by decide +kernel
theorem dX12_reckon_99 : decode cX12_reckon 99 = .ok (.aload_n 0, 1) := by decide +kernel
theorem dX12_reckon_100 : decode cX12_reckon 100 = .ok (.iload_n 1, 1) := by decide +kernel
theorem dX12_reckon_101 : decode cX12_reckon 101 = .ok (.bipush 29, 2) := by decide +kernel
theorem dX12_reckon_103 : decode cX12_reckon 103 = .ok (.isub, 1) := by decide +kernel
theorem dX12_reckon_104 : decode cX12_reckon 104 = .ok (.iconst 1, 1) := by decide +kernel
theorem dX12_reckon_105 : decode cX12_reckon 105 = .ok (.invokevirtual 291, 3) := by decide +kernel
theorem dX12_reckon_108 : decode cX12_reckon 108 = .ok (.lreturn, 1) := by decide +kernel
theorem dX12_adopt_0 : decode cX12_adopt 0 = .ok (.aload_n 0, 1) := by decide +kernel
theorem dX12_adopt_1 : decode cX12_adopt 1 = .ok (.invokevirtual 288, 3) := by decide +kernel
theorem dX12_adopt_4 : decode cX12_adopt 4 = .ok (.istore_n 1, 1) := by decide +kernel
theorem dX12_adopt_5 : decode cX12_adopt 5 = .ok (.iload_n 1, 1) := by decide +kernel
theorem dX12_adopt_6 : decode cX12_adopt 6 = .ok (.ifCond .eq 5, 3) := by decide +kernel
theorem dX12_adopt_9 : decode cX12_adopt 9 = .ok (.iload_n 1, 1) := by decide +kernel
theorem dX12_adopt_10 : decode cX12_adopt 10 = .ok (.ireturn, 1) := by decide +kernel
theorem dX12_adopt_11 : decode cX12_adopt 11 = .ok (.aload_n 0, 1) := by decide +kernel
theorem dX12_adopt_12 : decode cX12_adopt 12 = .ok (.iconst 0, 1) := by decide +kernel
theorem dX12_adopt_13 : decode cX12_adopt 13 = .ok (.iconst 1, 1) := by decide +kernel
theorem dX12_adopt_14 : decode cX12_adopt 14 = .ok (.invokevirtual 291, 3) := by decide +kernel
theorem dX12_adopt_17 : decode cX12_adopt 17 = .ok (.lconst 1, 1) := by decide +kernel
theorem dX12_adopt_18 : decode cX12_adopt 18 = .ok (.lcmp, 1) := by decide +kernel
theorem dX12_adopt_19 : decode cX12_adopt 19 = .ok (.ifCond .ne 25, 3) := by decide +kernel
theorem dX12_adopt_22 : decode cX12_adopt 22 = .ok (.aload_n 0, 1) := by decide +kernel
theorem dX12_adopt_23 : decode cX12_adopt 23 = .ok (.iconst 0, 1) := by decide +kernel
theorem dX12_adopt_24 : decode cX12_adopt 24 = .ok (.iconst 0, 1) := by decide +kernel
theorem dX12_adopt_25 : decode cX12_adopt 25 = .ok (.invokevirtual 291, 3) := by decide +kernel
theorem dX12_adopt_28 : decode cX12_adopt 28 = .ok (.ldc2_w 259, 3) := by decide +kernel
theorem dX12_adopt_31 : decode cX12_adopt 31 = .ok (.ldc2_w 241, 3) := by decide +kernel
theorem dX12_adopt_34 : decode cX12_adopt 34 = .ok (.invokestatic 70, 3) := by decide +kernel
theorem dX12_adopt_37 : decode cX12_adopt 37 = .ok (.ifCond .eq 7, 3) := by decide +kernel
theorem dX12_adopt_40 : decode cX12_adopt 40 = .ok (.iconst 1, 1) := by decide +kernel
theorem dX12_adopt_41 : decode cX12_adopt 41 = .ok (.goto 4, 3) := by decide +kernel
theorem dX12_adopt_44 : decode cX12_adopt 44 = .ok (.iconst 0, 1) := by decide +kernel
theorem dX12_adopt_45 : decode cX12_adopt 45 = .ok (.istore_n 2, 1) := by decide +kernel
theorem dX12_adopt_46 : decode cX12_adopt 46 = .ok (.iconst 0, 1) := by decide +kernel
theorem dX12_adopt_47 : decode cX12_adopt 47 = .ok (.istore_n 3, 1) := by decide +kernel
theorem dX12_adopt_48 : decode cX12_adopt 48 = .ok (.iload_n 3, 1) := by decide +kernel
theorem dX12_adopt_49 : decode cX12_adopt 49 = .ok (.aload_n 0, 1) := by decide +kernel
theorem dX12_adopt_50 : decode cX12_adopt 50 = .ok (.invokevirtual 151, 3) := by decide +kernel
theorem dX12_adopt_53 : decode cX12_adopt 53 = .ok (.if_icmp .ge 70, 3) := by decide +kernel
theorem dX12_adopt_56 : decode cX12_adopt 56 = .ok (.iload_n 2, 1) := by decide +kernel
theorem dX12_adopt_57 : decode cX12_adopt 57 = .ok (.ifCond .eq 66, 3) := by decide +kernel
theorem dX12_adopt_60 : decode cX12_adopt 60 = .ok (.aload_n 0, 1) := by decide +kernel
theorem dX12_adopt_61 : decode cX12_adopt 61 = .ok (.iload_n 3, 1) := by decide +kernel
theorem dX12_adopt_62 : decode cX12_adopt 62 = .ok (.iconst 1, 1) := by decide +kernel
theorem dX12_adopt_63 : decode cX12_adopt 63 = .ok (.iadd, 1) := by decide +kernel
theorem dX12_adopt_64 : decode cX12_adopt 64 = .ok (.iconst 0, 1) := by decide +kernel
theorem dX12_adopt_65 : decode cX12_adopt 65 = .ok (.invokevirtual 291, 3) := by decide +kernel
theorem dX12_adopt_68 : decode cX12_adopt 68 = .ok (.lstore 4, 2) := by decide +kernel
theorem dX12_adopt_70 : decode cX12_adopt 70 = .ok (.aload_n 0, 1) := by decide +kernel
theorem dX12_adopt_71 : decode cX12_adopt 71 = .ok (.iload_n 3, 1) := by decide +kernel
theorem dX12_adopt_72 : decode cX12_adopt 72 = .ok (.iconst 1, 1) := by decide +kernel
theorem dX12_adopt_73 : decode cX12_adopt 73 = .ok (.iadd, 1) := by decide +kernel
theorem dX12_adopt_74 : decode cX12_adopt 74 = .ok (.iconst 1, 1) := by decide +kernel
theorem dX12_adopt_75 : decode cX12_adopt 75 = .ok (.invokevirtual 291, 3) := by decide +kernel
theorem dX12_adopt_78 : decode cX12_adopt 78 = .ok (.lconst 1, 1) := by decide +kernel
theorem dX12_adopt_79 : decode cX12_adopt 79 = .ok (.lcmp, 1) := by decide +kernel
theorem dX12_adopt_80 : decode cX12_adopt 80 = .ok (.ifCond .ne 35, 3) := by decide +kernel
theorem dX12_adopt_83 : decode cX12_adopt 83 = .ok (.lload 4, 2) := by decide +kernel
theorem dX12_adopt_85 : decode cX12_adopt 85 = .ok (.lconst 0, 1) := by decide +kernel
theorem dX12_adopt_86 : decode cX12_adopt 86 = .ok (.lcmp, 1) := by decide +kernel
theorem dX12_adopt_87 : decode cX12_adopt 87 = .ok (.ifCond .lt 28, 3) := by decide +kernel
theorem dX12_adopt_90 : decode cX12_adopt 90 = .ok (.lload 4, 2) := by decide +kernel
theorem dX12_adopt_92 : decode cX12_adopt 92 = .ok (.aload_n 0, 1) := by decide +kernel
theorem dX12_adopt_93 : decode cX12_adopt 93 = .ok (.iload_n 3, 1) := by decide +kernel
theorem dX12_adopt_94 : decode cX12_adopt 94 = .ok (.invokevirtual 161, 3) := by decide +kernel
theorem dX12_adopt_97 : decode cX12_adopt 97 = .ok (.i2l, 1) := by decide +kernel
theorem dX12_adopt_98 : decode cX12_adopt 98 = .ok (.lsub, 1) := by decide +kernel
theorem dX12_adopt_99 : decode cX12_adopt 99 = .ok (.ldc2_w 259, 3) := by decide +kernel
theorem dX12_adopt_102 : decode cX12_adopt 102 = .ok (.ldc2_w 241, 3) := by decide +kernel
theorem dX12_adopt_105 : decode cX12_adopt 105 = .ok (.invokestatic 70, 3) := by decide +kernel
theorem dX12_adopt_108 : decode cX12_adopt 108 = .ok (.ifCond .eq 7, 3) := by decide +kernel
theorem dX12_adopt_111 : decode cX12_adopt 111 = .ok (.iconst 1, 1) := by decide +kernel
theorem dX12_adopt_112 : decode cX12_adopt 112 = .ok (.goto 4, 3) := by decide +kernel
theorem dX12_adopt_115 : decode cX12_adopt 115 = .ok (.iconst 0, 1) := by decide +kernel
theorem dX12_adopt_116 : decode cX12_adopt 116 = .ok (.istore_n 2, 1) := by decide +kernel
theorem dX12_adopt_117 : decode cX12_adopt 117 = .ok (.iinc 3 1, 3) := by decide +kernel
theorem dX12_adopt_120 : decode cX12_adopt 120 = .ok (.goto (-72), 3) := by decide +kernel
theorem dX12_adopt_123 : decode cX12_adopt 123 = .ok (.iload_n 2, 1) := by decide +kernel
theorem dX12_adopt_124 : decode cX12_adopt 124 = .ok (.ifCond .ne 6, 3) := by decide +kernel
theorem dX12_adopt_127 : decode cX12_adopt 127 = .ok (.bipush (-3), 2) := by decide +kernel
theorem dX12_adopt_129 : decode cX12_adopt 129 = .ok (.ireturn, 1) := by decide +kernel
theorem dX12_adopt_130 : decode cX12_adopt 130 = .ok (.aload_n 0, 1) := by decide +kernel
theorem dX12_adopt_131 : decode cX12_adopt 131 = .ok (.getfield 19, 3) := by decide +kernel
theorem dX12_adopt_134 : decode cX12_adopt 134 = .ok (.iconst 2, 1) := by decide +kernel
theorem dX12_adopt_135 : decode cX12_adopt 135 = .ok (.iaload, 1) := by decide +kernel
theorem dX12_adopt_136 : decode cX12_adopt 136 = .ok (.i2l, 1) := by decide +kernel
theorem dX12_adopt_137 : decode cX12_adopt 137 = .ok (.aload_n 0, 1) := by decide +kernel
theorem dX12_adopt_138 : decode cX12_adopt 138 = .ok (.iconst 0, 1) := by decide +kernel
theorem dX12_adopt_139 : decode cX12_adopt 139 = .ok (.iconst 0, 1) := by decide +kernel
theorem dX12_adopt_140 : decode cX12_adopt 140 = .ok (.invokevirtual 291, 3) := by decide +kernel
theorem dX12_adopt_143 : decode cX12_adopt 143 = .ok (.lcmp, 1) := by decide +kernel
theorem dX12_adopt_144 : decode cX12_adopt 144 = .ok (.ifCond .eq 7, 3) := by decide +kernel
theorem dX12_adopt_147 : decode cX12_adopt 147 = .ok (.iconst 1, 1) := by decide +kernel
theorem dX12_adopt_148 : decode cX12_adopt 148 = .ok (.goto 4, 3) := by decide +kernel
theorem dX12_adopt_151 : decode cX12_adopt 151 = .ok (.iconst 0, 1) := by decide +kernel
theorem dX12_adopt_152 : decode cX12_adopt 152 = .ok (.istore_n 3, 1) := by decide +kernel
theorem dX12_adopt_153 : decode cX12_adopt 153 = .ok (.aload_n 0, 1) := by decide +kernel
theorem dX12_adopt_154 : decode cX12_adopt 154 = .ok (.getfield 19, 3) := by decide +kernel
theorem dX12_adopt_157 : decode cX12_adopt 157 = .ok (.iconst 2, 1) := by decide +kernel
theorem dX12_adopt_158 : decode cX12_adopt 158 = .ok (.aload_n 0, 1) := by decide +kernel
theorem dX12_adopt_159 : decode cX12_adopt 159 = .ok (.iconst 0, 1) := by decide +kernel
theorem dX12_adopt_160 : decode cX12_adopt 160 = .ok (.iconst 0, 1) := by decide +kernel
theorem dX12_adopt_161 : decode cX12_adopt 161 = .ok (.invokevirtual 291, 3) := by decide +kernel
theorem dX12_adopt_164 : decode cX12_adopt 164 = .ok (.l2i, 1) := by decide +kernel
theorem dX12_adopt_165 : decode cX12_adopt 165 = .ok (.iastore, 1) := by decide +kernel
theorem dX12_adopt_166 : decode cX12_adopt 166 = .ok (.iconst 0, 1) := by decide +kernel
theorem dX12_adopt_167 : decode cX12_adopt 167 = .ok (.istore 4, 2) := by decide +kernel
theorem dX12_adopt_169 : decode cX12_adopt 169 = .ok (.iload 4, 2) := by decide +kernel
theorem dX12_adopt_171 : decode cX12_adopt 171 = .ok (.aload_n 0, 1) := by decide +kernel
theorem dX12_adopt_172 : decode cX12_adopt 172 = .ok (.invokevirtual 151, 3) := by decide +kernel
theorem dX12_adopt_175 : decode cX12_adopt 175 = .ok (.if_icmp .ge 63, 3) := by decide +kernel
theorem dX12_adopt_178 : decode cX12_adopt 178 = .ok (.aload_n 0, 1) := by decide +kernel
theorem dX12_adopt_179 : decode cX12_adopt 179 = .ok (.iload 4, 2) := by decide +kernel
theorem dX12_adopt_181 : decode cX12_adopt 181 = .ok (.iconst 1, 1) := by decide +kernel
theorem dX12_adopt_182 : decode cX12_adopt 182 = .ok (.iadd, 1) := by decide +kernel
theorem dX12_adopt_183 : decode cX12_adopt 183 = .ok (.iconst 0, 1) := by decide +kernel
theorem dX12_adopt_184 : decode cX12_adopt 184 = .ok (.invokevirtual 291, 3) := by decide +kernel
theorem dX12_adopt_187 : decode cX12_adopt 187 = .ok (.l2i, 1) := by decide +kernel
theorem dX12_adopt_188 : decode cX12_adopt 188 = .ok (.aload_n 0, 1) := by decide +kernel
theorem dX12_adopt_189 : decode cX12_adopt 189 = .ok (.iload 4, 2) := by decide +kernel
theorem dX12_adopt_191 : decode cX12_adopt 191 = .ok (.invokevirtual 161, 3) := by decide +kernel
theorem dX12_adopt_194 : decode cX12_adopt 194 = .ok (.isub, 1) := by decide +kernel
theorem dX12_adopt_195 : decode cX12_adopt 195 = .ok (.istore 5, 2) := by decide +kernel
theorem dX12_adopt_197 : decode cX12_adopt 197 = .ok (.iload_n 3, 1) := by decide +kernel
theorem dX12_adopt_198 : decode cX12_adopt 198 = .ok (.aload_n 0, 1) := by decide +kernel
theorem dX12_adopt_199 : decode cX12_adopt 199 = .ok (.getfield 19, 3) := by decide +kernel
theorem dX12_adopt_202 : decode cX12_adopt 202 = .ok (.bipush 6, 2) := by decide +kernel
theorem dX12_adopt_204 : decode cX12_adopt 204 = .ok (.iload 4, 2) := by decide +kernel
theorem dX12_adopt_206 : decode cX12_adopt 206 = .ok (.iadd, 1) := by decide +kernel
theorem dX12_adopt_207 : decode cX12_adopt 207 = .ok (.iaload, 1) := by decide +kernel
theorem dX12_adopt_208 : decode cX12_adopt 208 = .ok (.iload 5, 2) := by decide +kernel
theorem dX12_adopt_210 : decode cX12_adopt 210 = .ok (.if_icmp .eq 7, 3) := by decide +kernel
theorem dX12_adopt_213 : decode cX12_adopt 213 = .ok (.iconst 1, 1) := by decide +kernel
theorem dX12_adopt_214 : decode cX12_adopt 214 = .ok (.goto 4, 3) := by decide +kernel
theorem dX12_adopt_217 : decode cX12_adopt 217 = .ok (.iconst 0, 1) := by decide +kernel
theorem dX12_adopt_218 : decode cX12_adopt 218 = .ok (.iadd, 1) := by decide +kernel
theorem dX12_adopt_219 : decode cX12_adopt 219 = .ok (.istore_n 3, 1) := by decide +kernel
theorem dX12_adopt_220 : decode cX12_adopt 220 = .ok (.aload_n 0, 1) := by decide +kernel
theorem dX12_adopt_221 : decode cX12_adopt 221 = .ok (.getfield 19, 3) := by decide +kernel
theorem dX12_adopt_224 : decode cX12_adopt 224 = .ok (.bipush 6, 2) := by decide +kernel
theorem dX12_adopt_226 : decode cX12_adopt 226 = .ok (.iload 4, 2) := by decide +kernel
theorem dX12_adopt_228 : decode cX12_adopt 228 = .ok (.iadd, 1) := by decide +kernel
theorem dX12_adopt_229 : decode cX12_adopt 229 = .ok (.iload 5, 2) := by decide +kernel
theorem dX12_adopt_231 : decode cX12_adopt 231 = .ok (.iastore, 1) := by decide +kernel
theorem dX12_adopt_232 : decode cX12_adopt 232 = .ok (.iinc 4 1, 3) := by decide +kernel
theorem dX12_adopt_235 : decode cX12_adopt 235 = .ok (.goto (-66), 3) := by decide +kernel
theorem dX12_adopt_238 : decode cX12_adopt 238 = .ok (.iload_n 3, 1) := by decide +kernel
theorem dX12_adopt_239 : decode cX12_adopt 239 = .ok (.ireturn, 1) := by decide +kernel
theorem dX12_apart_0 : decode cX12_apart 0 = .ok (.iload_n 1, 1) := by decide +kernel
theorem dX12_apart_1 : decode cX12_apart 1 = .ok (.i2l, 1) := by decide +kernel
theorem dX12_apart_2 : decode cX12_apart 2 = .ok (.lconst 0, 1) := by decide +kernel
theorem dX12_apart_3 : decode cX12_apart 3 = .ok (.ldc2_w 202, 3) := by decide +kernel
theorem dX12_apart_6 : decode cX12_apart 6 = .ok (.invokestatic 70, 3) := by decide +kernel
theorem dX12_apart_9 : decode cX12_apart 9 = .ok (.ifCond .ne 5, 3) := by decide +kernel
theorem dX12_apart_12 : decode cX12_apart 12 = .ok (.iconst (-1), 1) := by decide +kernel
theorem dX12_apart_13 : decode cX12_apart 13 = .ok (.ireturn, 1) := by decide +kernel
theorem dX12_apart_14 : decode cX12_apart 14 = .ok (.iconst 0, 1) := by decide +kernel
theorem dX12_apart_15 : decode cX12_apart 15 = .ok (.istore_n 2, 1) := by decide +kernel
theorem dX12_apart_16 : decode cX12_apart 16 = .ok (.iconst (-1), 1) := by decide +kernel
theorem dX12_apart_17 : decode cX12_apart 17 = .ok (.istore_n 3, 1) := by decide +kernel
theorem dX12_apart_18 : decode cX12_apart 18 = .ok (.bipush (-4), 2) := by decide +kernel
theorem dX12_apart_20 : decode cX12_apart 20 = .ok (.istore 4, 2) := by decide +kernel
theorem dX12_apart_22 : decode cX12_apart 22 = .ok (.iconst 0, 1) := by decide +kernel
theorem dX12_apart_23 : decode cX12_apart 23 = .ok (.istore 5, 2) := by decide +kernel
theorem dX12_apart_25 : decode cX12_apart 25 = .ok (.iload 5, 2) := by decide +kernel
theorem dX12_apart_27 : decode cX12_apart 27 = .ok (.aload_n 0, 1) := by decide +kernel
theorem dX12_apart_28 : decode cX12_apart 28 = .ok (.getfield 142, 3) := by decide +kernel
theorem dX12_apart_31 : decode cX12_apart 31 = .ok (.if_icmp .ge 76, 3) := by decide +kernel
theorem dX12_apart_34 : decode cX12_apart 34 = .ok (.aload_n 0, 1) := by decide +kernel
theorem dX12_apart_35 : decode cX12_apart 35 = .ok (.getfield 47, 3) := by decide +kernel
theorem dX12_apart_38 : decode cX12_apart 38 = .ok (.iload 5, 2) := by decide +kernel
theorem dX12_apart_40 : decode cX12_apart 40 = .ok (.iaload, 1) := by decide +kernel
theorem dX12_apart_41 : decode cX12_apart 41 = .ok (.aload_n 0, 1) := by decide +kernel
theorem dX12_apart_42 : decode cX12_apart 42 = .ok (.aload_n 0, 1) := by decide +kernel
theorem dX12_apart_43 : decode cX12_apart 43 = .ok (.getfield 44, 3) := by decide +kernel
theorem dX12_apart_46 : decode cX12_apart 46 = .ok (.iload 5, 2) := by decide +kernel
theorem dX12_apart_48 : decode cX12_apart 48 = .ok (.iaload, 1) := by decide +kernel
theorem dX12_apart_49 : decode cX12_apart 49 = .ok (.invokevirtual 171, 3) := by decide +kernel
theorem dX12_apart_52 : decode cX12_apart 52 = .ok (.isub, 1) := by decide +kernel
theorem dX12_apart_53 : decode cX12_apart 53 = .ok (.i2l, 1) := by decide +kernel
theorem dX12_apart_54 : decode cX12_apart 54 = .ok (.invokestatic 208, 3) := by decide +kernel
theorem dX12_apart_57 : decode cX12_apart 57 = .ok (.l2i, 1) := by decide +kernel
theorem dX12_apart_58 : decode cX12_apart 58 = .ok (.istore 6, 2) := by decide +kernel
theorem dX12_apart_60 : decode cX12_apart 60 = .ok (.iload_n 2, 1) := by decide +kernel
theorem dX12_apart_61 : decode cX12_apart 61 = .ok (.iload 6, 2) := by decide +kernel
theorem dX12_apart_63 : decode cX12_apart 63 = .ok (.iadd, 1) := by decide +kernel
theorem dX12_apart_64 : decode cX12_apart 64 = .ok (.istore_n 2, 1) := by decide +kernel
theorem dX12_apart_65 : decode cX12_apart 65 = .ok (.iload 6, 2) := by decide +kernel
theorem dX12_apart_67 : decode cX12_apart 67 = .ok (.iload_n 3, 1) := by decide +kernel
theorem dX12_apart_68 : decode cX12_apart 68 = .ok (.if_icmp .gt 21, 3) := by decide +kernel
theorem dX12_apart_71 : decode cX12_apart 71 = .ok (.iload 6, 2) := by decide +kernel
theorem dX12_apart_73 : decode cX12_apart 73 = .ok (.iload_n 3, 1) := by decide +kernel
theorem dX12_apart_74 : decode cX12_apart 74 = .ok (.if_icmp .ne 27, 3) := by decide +kernel
theorem dX12_apart_77 : decode cX12_apart 77 = .ok (.aload_n 0, 1) := by decide +kernel
theorem dX12_apart_78 : decode cX12_apart 78 = .ok (.getfield 44, 3) := by decide +kernel
theorem dX12_apart_81 : decode cX12_apart 81 = .ok (.iload 5, 2) := by decide +kernel
theorem dX12_apart_83 : decode cX12_apart 83 = .ok (.iaload, 1) := by decide +kernel
theorem dX12_apart_84 : decode cX12_apart 84 = .ok (.iload 4, 2) := by decide +kernel
theorem dX12_apart_86 : decode cX12_apart 86 = .ok (.if_icmp .ge 15, 3) := by decide +kernel
theorem dX12_apart_89 : decode cX12_apart 89 = .ok (.iload 6, 2) := by decide +kernel
theorem dX12_apart_91 : decode cX12_apart 91 = .ok (.istore_n 3, 1) := by decide +kernel
theorem dX12_apart_92 : decode cX12_apart 92 = .ok (.aload_n 0, 1) := by decide +kernel
theorem dX12_apart_93 : decode cX12_apart 93 = .ok (.getfield 44, 3) := by decide +kernel
theorem dX12_apart_96 : decode cX12_apart 96 = .ok (.iload 5, 2) := by decide +kernel
theorem dX12_apart_98 : decode cX12_apart 98 = .ok (.iaload, 1) := by decide +kernel
theorem dX12_apart_99 : decode cX12_apart 99 = .ok (.istore 4, 2) := by decide +kernel
theorem dX12_apart_101 : decode cX12_apart 101 = .ok (.iinc 5 1, 3) := by decide +kernel
theorem dX12_apart_104 : decode cX12_apart 104 = .ok (.goto (-79), 3) := by decide +kernel
theorem dX12_apart_107 : decode cX12_apart 107 = .ok (.iload_n 1, 1) := by decide +kernel
theorem dX12_apart_108 : decode cX12_apart 108 = .ok (.ifCond .ne 7, 3) := by decide +kernel
theorem dX12_apart_111 : decode cX12_apart 111 = .ok (.iload_n 2, 1) := by decide +kernel
theorem dX12_apart_112 : decode cX12_apart 112 = .ok (.goto 22, 3) := by decide +kernel
theorem dX12_apart_115 : decode cX12_apart 115 = .ok (.iload_n 1, 1) := by decide +kernel
theorem dX12_apart_116 : decode cX12_apart 116 = .ok (.iconst 1, 1) := by decide +kernel
theorem dX12_apart_117 : decode cX12_apart 117 = .ok (.if_icmp .ne 15, 3) := by decide +kernel
theorem dX12_apart_120 : decode cX12_apart 120 = .ok (.iload_n 3, 1) := by decide +kernel
theorem dX12_apart_121 : decode cX12_apart 121 = .ok (.ifCond .ge 7, 3) := by decide +kernel
theorem dX12_apart_124 : decode cX12_apart 124 = .ok (.iconst 0, 1) := by decide +kernel
theorem dX12_apart_125 : decode cX12_apart 125 = .ok (.goto 9, 3) := by decide +kernel
theorem dX12_apart_128 : decode cX12_apart 128 = .ok (.iload_n 3, 1) := by decide +kernel
theorem dX12_apart_129 : decode cX12_apart 129 = .ok (.goto 5, 3) := by decide +kernel
theorem dX12_apart_132 : decode cX12_apart 132 = .ok (.iload 4, 2) := by decide +kernel
theorem dX12_apart_134 : decode cX12_apart 134 = .ok (.ireturn, 1) := by decide +kernel
theorem dX12_sheet_0 : decode cX12_sheet 0 = .ok (.iload_n 1, 1) := by decide +kernel
theorem dX12_sheet_1 : decode cX12_sheet 1 = .ok (.i2l, 1) := by decide +kernel
theorem dX12_sheet_2 : decode cX12_sheet 2 = .ok (.lconst 0, 1) := by decide +kernel
theorem dX12_sheet_3 : decode cX12_sheet 3 = .ok (.ldc2_w 221, 3) := by decide +kernel
theorem dX12_sheet_6 : decode cX12_sheet 6 = .ok (.invokestatic 70, 3) := by decide +kernel
theorem dX12_sheet_9 : decode cX12_sheet 9 = .ok (.ifCond .eq 21, 3) := by decide +kernel
theorem dX12_sheet_12 : decode cX12_sheet 12 = .ok (.iload_n 2, 1) := by decide +kernel
theorem dX12_sheet_13 : decode cX12_sheet 13 = .ok (.i2l, 1) := by decide +kernel
theorem dX12_sheet_14 : decode cX12_sheet 14 = .ok (.lconst 0, 1) := by decide +kernel
theorem dX12_sheet_15 : decode cX12_sheet 15 = .ok (.ldc2_w 202, 3) := by decide +kernel
theorem dX12_sheet_18 : decode cX12_sheet 18 = .ok (.invokestatic 70, 3) := by decide +kernel
theorem dX12_sheet_21 : decode cX12_sheet 21 = .ok (.ifCond .eq 9, 3) := by decide +kernel
theorem dX12_sheet_24 : decode cX12_sheet 24 = .ok (.iload_n 3, 1) := by decide +kernel
theorem dX12_sheet_25 : decode cX12_sheet 25 = .ok (.bipush 64, 2) := by decide +kernel
theorem dX12_sheet_27 : decode cX12_sheet 27 = .ok (.if_icmp .le 5, 3) := by decide +kernel
theorem dX12_sheet_30 : decode cX12_sheet 30 = .ok (.iconst (-1), 1) := by decide +kernel
theorem dX12_sheet_31 : decode cX12_sheet 31 = .ok (.ireturn, 1) := by decide +kernel
theorem dX12_sheet_32 : decode cX12_sheet 32 = .ok (.iload_n 3, 1) := by decide +kernel
theorem dX12_sheet_33 : decode cX12_sheet 33 = .ok (.ifCond .ge 6, 3) := by decide +kernel
theorem dX12_sheet_36 : decode cX12_sheet 36 = .ok (.bipush (-14), 2) := by decide +kernel
theorem dX12_sheet_38 : decode cX12_sheet 38 = .ok (.ireturn, 1) := by decide +kernel
theorem dX12_sheet_39 : decode cX12_sheet 39 = .ok (.aload_n 0, 1) := by decide +kernel
theorem dX12_sheet_40 : decode cX12_sheet 40 = .ok (.getfield 54, 3) := by decide +kernel
theorem dX12_sheet_43 : decode cX12_sheet 43 = .ok (.iload_n 1, 1) := by decide +kernel
theorem dX12_sheet_44 : decode cX12_sheet 44 = .ok (.iload_n 2, 1) := by decide +kernel
theorem dX12_sheet_45 : decode cX12_sheet 45 = .ok (.iastore, 1) := by decide +kernel
theorem dX12_sheet_46 : decode cX12_sheet 46 = .ok (.aload_n 0, 1) := by decide +kernel
theorem dX12_sheet_47 : decode cX12_sheet 47 = .ok (.getfield 57, 3) := by decide +kernel
theorem dX12_sheet_50 : decode cX12_sheet 50 = .ok (.iload_n 1, 1) := by decide +kernel
theorem dX12_sheet_51 : decode cX12_sheet 51 = .ok (.iload_n 3, 1) := by decide +kernel
theorem dX12_sheet_52 : decode cX12_sheet 52 = .ok (.iastore, 1) := by decide +kernel
theorem dX12_sheet_53 : decode cX12_sheet 53 = .ok (.iconst 0, 1) := by decide +kernel
theorem dX12_sheet_54 : decode cX12_sheet 54 = .ok (.istore 4, 2) := by decide +kernel
theorem dX12_sheet_56 : decode cX12_sheet 56 = .ok (.iload 4, 2) := by decide +kernel
theorem dX12_sheet_58 : decode cX12_sheet 58 = .ok (.bipush 64, 2) := by decide +kernel
theorem dX12_sheet_60 : decode cX12_sheet 60 = .ok (.if_icmp .ge 22, 3) := by decide +kernel
theorem dX12_sheet_63 : decode cX12_sheet 63 = .ok (.aload_n 0, 1) := by decide +kernel
theorem dX12_sheet_64 : decode cX12_sheet 64 = .ok (.getfield 60, 3) := by decide +kernel
theorem dX12_sheet_67 : decode cX12_sheet 67 = .ok (.bipush 64, 2) := by decide +kernel
theorem dX12_sheet_69 : decode cX12_sheet 69 = .ok (.iload_n 1, 1) := by decide +kernel
theorem dX12_sheet_70 : decode cX12_sheet 70 = .ok (.imul, 1) := by decide +kernel
theorem dX12_sheet_71 : decode cX12_sheet 71 = .ok (.iload 4, 2) := by decide +kernel
theorem dX12_sheet_73 : decode cX12_sheet 73 = .ok (.iadd, 1) := by decide +kernel
theorem dX12_sheet_74 : decode cX12_sheet 74 = .ok (.iconst 0, 1) := by decide +kernel
theorem dX12_sheet_75 : decode cX12_sheet 75 = .ok (.iastore, 1) := by decide +kernel
theorem dX12_sheet_76 : decode cX12_sheet 76 = .ok (.iinc 4 1, 3) := by decide +kernel
theorem dX12_sheet_79 : decode cX12_sheet 79 = .ok (.goto (-23), 3) := by decide +kernel
theorem dX12_sheet_82 : decode cX12_sheet 82 = .ok (.iconst 1, 1) := by decide +kernel
theorem dX12_sheet_83 : decode cX12_sheet 83 = .ok (.ireturn, 1) := by decide +kernel
theorem dX12_lay_0 : decode cX12_lay 0 = .ok (.iload_n 1, 1) := by decide +kernel
theorem dX12_lay_1 : decode cX12_lay 1 = .ok (.i2l, 1) := by decide +kernel
theorem dX12_lay_2 : decode cX12_lay 2 = .ok (.lconst 0, 1) := by decide +kernel
theorem dX12_lay_3 : decode cX12_lay 3 = .ok (.ldc2_w 221, 3) := by decide +kernel
theorem dX12_lay_6 : decode cX12_lay 6 = .ok (.invokestatic 70, 3) := by decide +kernel
theorem dX12_lay_9 : decode cX12_lay 9 = .ok (.ifCond .ne 5, 3) := by decide +kernel
theorem dX12_lay_12 : decode cX12_lay 12 = .ok (.iconst (-1), 1) := by decide +kernel
theorem dX12_lay_13 : decode cX12_lay 13 = .ok (.ireturn, 1) := by decide +kernel
theorem dX12_lay_14 : decode cX12_lay 14 = .ok (.aload_n 0, 1) := by decide +kernel
theorem dX12_lay_15 : decode cX12_lay 15 = .ok (.getfield 54, 3) := by decide +kernel
theorem dX12_lay_18 : decode cX12_lay 18 = .ok (.iload_n 1, 1) := by decide +kernel
theorem dX12_lay_19 : decode cX12_lay 19 = .ok (.iaload, 1) := by decide +kernel
theorem dX12_lay_20 : decode cX12_lay 20 = .ok (.bipush (-4), 2) := by decide +kernel
theorem dX12_lay_22 : decode cX12_lay 22 = .ok (.if_icmp .ne 6, 3) := by decide +kernel
theorem dX12_lay_25 : decode cX12_lay 25 = .ok (.bipush (-11), 2) := by decide +kernel
theorem dX12_lay_27 : decode cX12_lay 27 = .ok (.ireturn, 1) := by decide +kernel
theorem dX12_lay_28 : decode cX12_lay 28 = .ok (.iload_n 2, 1) := by decide +kernel
theorem dX12_lay_29 : decode cX12_lay 29 = .ok (.i2l, 1) := by decide +kernel
theorem dX12_lay_30 : decode cX12_lay 30 = .ok (.lconst 0, 1) := by decide +kernel
theorem dX12_lay_31 : decode cX12_lay 31 = .ok (.aload_n 0, 1) := by decide +kernel
theorem dX12_lay_32 : decode cX12_lay 32 = .ok (.getfield 57, 3) := by decide +kernel
theorem dX12_lay_35 : decode cX12_lay 35 = .ok (.iload_n 1, 1) := by decide +kernel
theorem dX12_lay_36 : decode cX12_lay 36 = .ok (.iaload, 1) := by decide +kernel
theorem dX12_lay_37 : decode cX12_lay 37 = .ok (.iconst 1, 1) := by decide +kernel
theorem dX12_lay_38 : decode cX12_lay 38 = .ok (.isub, 1) := by decide +kernel
theorem dX12_lay_39 : decode cX12_lay 39 = .ok (.i2l, 1) := by decide +kernel
theorem dX12_lay_40 : decode cX12_lay 40 = .ok (.invokestatic 70, 3) := by decide +kernel
theorem dX12_lay_43 : decode cX12_lay 43 = .ok (.ifCond .ne 6, 3) := by decide +kernel
theorem dX12_lay_46 : decode cX12_lay 46 = .ok (.bipush (-12), 2) := by decide +kernel
theorem dX12_lay_48 : decode cX12_lay 48 = .ok (.ireturn, 1) := by decide +kernel
theorem dX12_lay_49 : decode cX12_lay 49 = .ok (.aload_n 0, 1) := by decide +kernel
theorem dX12_lay_50 : decode cX12_lay 50 = .ok (.getfield 60, 3) := by decide +kernel
theorem dX12_lay_53 : decode cX12_lay 53 = .ok (.bipush 64, 2) := by decide +kernel
theorem dX12_lay_55 : decode cX12_lay 55 = .ok (.iload_n 1, 1) := by decide +kernel
theorem dX12_lay_56 : decode cX12_lay 56 = .ok (.imul, 1) := by decide +kernel
theorem dX12_lay_57 : decode cX12_lay 57 = .ok (.iload_n 2, 1) := by decide +kernel
theorem dX12_lay_58 : decode cX12_lay 58 = .ok (.iadd, 1) := by decide +kernel
theorem dX12_lay_59 : decode cX12_lay 59 = .ok (.aload_n 0, 1) := by decide +kernel
theorem dX12_lay_60 : decode cX12_lay 60 = .ok (.getfield 54, 3) := by decide +kernel
theorem dX12_lay_63 : decode cX12_lay 63 = .ok (.iload_n 1, 1) := by decide +kernel
theorem dX12_lay_64 : decode cX12_lay 64 = .ok (.iaload, 1) := by decide +kernel
theorem dX12_lay_65 : decode cX12_lay 65 = .ok (.ifCond .ne 13, 3) := by decide +kernel
theorem dX12_lay_68 : decode cX12_lay 68 = .ok (.iload_n 3, 1) := by decide +kernel
theorem dX12_lay_69 : decode cX12_lay 69 = .ok (.bipush 24, 2) := by decide +kernel
theorem dX12_lay_71 : decode cX12_lay 71 = .ok (.ishl, 1) := by decide +kernel
theorem dX12_lay_72 : decode cX12_lay 72 = .ok (.bipush 24, 2) := by decide +kernel
theorem dX12_lay_74 : decode cX12_lay 74 = .ok (.ishr, 1) := by decide +kernel
theorem dX12_lay_75 : decode cX12_lay 75 = .ok (.goto 24, 3) := by decide +kernel
theorem dX12_lay_78 : decode cX12_lay 78 = .ok (.aload_n 0, 1) := by decide +kernel
theorem dX12_lay_79 : decode cX12_lay 79 = .ok (.getfield 54, 3) := by decide +kernel
theorem dX12_lay_82 : decode cX12_lay 82 = .ok (.iload_n 1, 1) := by decide +kernel
theorem dX12_lay_83 : decode cX12_lay 83 = .ok (.iaload, 1) := by decide +kernel
theorem dX12_lay_84 : decode cX12_lay 84 = .ok (.iconst 1, 1) := by decide +kernel
theorem dX12_lay_85 : decode cX12_lay 85 = .ok (.if_icmp .ne 13, 3) := by decide +kernel
theorem dX12_lay_88 : decode cX12_lay 88 = .ok (.iload_n 3, 1) := by decide +kernel
theorem dX12_lay_89 : decode cX12_lay 89 = .ok (.bipush 16, 2) := by decide +kernel
theorem dX12_lay_91 : decode cX12_lay 91 = .ok (.ishl, 1) := by decide +kernel
theorem dX12_lay_92 : decode cX12_lay 92 = .ok (.bipush 16, 2) := by decide +kernel
theorem dX12_lay_94 : decode cX12_lay 94 = .ok (.ishr, 1) := by decide +kernel
theorem dX12_lay_95 : decode cX12_lay 95 = .ok (.goto 4, 3) := by decide +kernel
theorem dX12_lay_98 : decode cX12_lay 98 = .ok (.iload_n 3, 1) := by decide +kernel
theorem dX12_lay_99 : decode cX12_lay 99 = .ok (.iastore, 1) := by decide +kernel
theorem dX12_lay_100 : decode cX12_lay 100 = .ok (.iconst 1, 1) := by decide +kernel
theorem dX12_lay_101 : decode cX12_lay 101 = .ok (.ireturn, 1) := by decide +kernel
theorem dX12_wave_0 : decode cX12_wave 0 = .ok (.iload_n 1, 1) := by decide +kernel
theorem dX12_wave_1 : decode cX12_wave 1 = .ok (.i2l, 1) := by decide +kernel
theorem dX12_wave_2 : decode cX12_wave 2 = .ok (.lconst 0, 1) := by decide +kernel
theorem dX12_wave_3 : decode cX12_wave 3 = .ok (.ldc2_w 221, 3) := by decide +kernel
theorem dX12_wave_6 : decode cX12_wave 6 = .ok (.invokestatic 70, 3) := by decide +kernel
theorem dX12_wave_9 : decode cX12_wave 9 = .ok (.ifCond .eq 41, 3) := by decide +kernel
theorem dX12_wave_12 : decode cX12_wave 12 = .ok (.iload_n 2, 1) := by decide +kernel
theorem dX12_wave_13 : decode cX12_wave 13 = .ok (.i2l, 1) := by decide +kernel
theorem dX12_wave_14 : decode cX12_wave 14 = .ok (.lconst 0, 1) := by decide +kernel
theorem dX12_wave_15 : decode cX12_wave 15 = .ok (.ldc2_w 202, 3) := by decide +kernel
theorem dX12_wave_18 : decode cX12_wave 18 = .ok (.invokestatic 70, 3) := by decide +kernel
theorem dX12_wave_21 : decode cX12_wave 21 = .ok (.ifCond .eq 29, 3) := by decide +kernel
theorem dX12_wave_24 : decode cX12_wave 24 = .ok (.iload 4, 2) := by decide +kernel
theorem dX12_wave_26 : decode cX12_wave 26 = .ok (.i2l, 1) := by decide +kernel
theorem dX12_wave_27 : decode cX12_wave 27 = .ok (.lconst 0, 1) := by decide +kernel
theorem dX12_wave_28 : decode cX12_wave 28 = .ok (.ldc2_w 294, 3) := by decide +kernel
theorem dX12_wave_31 : decode cX12_wave 31 = .ok (.invokestatic 70, 3) := by decide +kernel
theorem dX12_wave_34 : decode cX12_wave 34 = .ok (.ifCond .eq 16, 3) := by decide +kernel
theorem dX12_wave_37 : decode cX12_wave 37 = .ok (.iload 5, 2) := by decide +kernel
theorem dX12_wave_39 : decode cX12_wave 39 = .ok (.i2l, 1) := by decide +kernel
theorem dX12_wave_40 : decode cX12_wave 40 = .ok (.lconst 0, 1) := by decide +kernel
theorem dX12_wave_41 : decode cX12_wave 41 = .ok (.ldc2_w 202, 3) := by decide +kernel
theorem dX12_wave_44 : decode cX12_wave 44 = .ok (.invokestatic 70, 3) := by decide +kernel
theorem dX12_wave_47 : decode cX12_wave 47 = .ok (.ifCond .ne 5, 3) := by decide +kernel
theorem dX12_wave_50 : decode cX12_wave 50 = .ok (.iconst (-1), 1) := by decide +kernel
theorem dX12_wave_51 : decode cX12_wave 51 = .ok (.ireturn, 1) := by decide +kernel
theorem dX12_wave_52 : decode cX12_wave 52 = .ok (.aload_n 0, 1) := by decide +kernel
theorem dX12_wave_53 : decode cX12_wave 53 = .ok (.getfield 54, 3) := by decide +kernel
theorem dX12_wave_56 : decode cX12_wave 56 = .ok (.iload_n 1, 1) := by decide +kernel
theorem dX12_wave_57 : decode cX12_wave 57 = .ok (.iaload, 1) := by decide +kernel
theorem dX12_wave_58 : decode cX12_wave 58 = .ok (.iload_n 2, 1) := by decide +kernel
theorem dX12_wave_59 : decode cX12_wave 59 = .ok (.if_icmp .eq 22, 3) := by decide +kernel
theorem dX12_wave_62 : decode cX12_wave 62 = .ok (.aload_n 0, 1) := by decide +kernel
theorem dX12_wave_63 : decode cX12_wave 63 = .ok (.getfield 54, 3) := by decide +kernel
theorem dX12_wave_66 : decode cX12_wave 66 = .ok (.iload_n 1, 1) := by decide +kernel
theorem dX12_wave_67 : decode cX12_wave 67 = .ok (.iaload, 1) := by decide +kernel
theorem dX12_wave_68 : decode cX12_wave 68 = .ok (.bipush (-4), 2) := by decide +kernel
theorem dX12_wave_70 : decode cX12_wave 70 = .ok (.if_icmp .ne 8, 3) := by decide +kernel
theorem dX12_wave_73 : decode cX12_wave 73 = .ok (.bipush (-11), 2) := by decide +kernel
theorem dX12_wave_75 : decode cX12_wave 75 = .ok (.goto 5, 3) := by decide +kernel
theorem dX12_wave_78 : decode cX12_wave 78 = .ok (.bipush (-13), 2) := by decide +kernel
theorem dX12_wave_80 : decode cX12_wave 80 = .ok (.ireturn, 1) := by decide +kernel
theorem dX12_wave_81 : decode cX12_wave 81 = .ok (.aload_n 0, 1) := by decide +kernel
theorem dX12_wave_82 : decode cX12_wave 82 = .ok (.invokevirtual 180, 3) := by decide +kernel
theorem dX12_wave_85 : decode cX12_wave 85 = .ok (.iconst 0, 1) := by decide +kernel
theorem dX12_wave_86 : decode cX12_wave 86 = .ok (.istore 6, 2) := by decide +kernel
theorem dX12_wave_88 : decode cX12_wave 88 = .ok (.iload 6, 2) := by decide +kernel
theorem dX12_wave_90 : decode cX12_wave 90 = .ok (.sipush 256, 3) := by decide +kernel
theorem dX12_wave_93 : decode cX12_wave 93 = .ok (.if_icmp .ge 17, 3) := by decide +kernel
theorem dX12_wave_96 : decode cX12_wave 96 = .ok (.aload_n 0, 1) := by decide +kernel
theorem dX12_wave_97 : decode cX12_wave 97 = .ok (.getfield 63, 3) := by decide +kernel
theorem dX12_wave_100 : decode cX12_wave 100 = .ok (.iload 6, 2) := by decide +kernel
theorem dX12_wave_102 : decode cX12_wave 102 = .ok (.iconst 0, 1) := by decide +kernel
theorem dX12_wave_103 : decode cX12_wave 103 = .ok (.iastore, 1) := by decide +kernel
theorem dX12_wave_104 : decode cX12_wave 104 = .ok (.iinc 6 1, 3) := by decide +kernel
theorem dX12_wave_107 : decode cX12_wave 107 = .ok (.goto (-19), 3) := by decide +kernel
theorem dX12_wave_110 : decode cX12_wave 110 = .ok (.iconst 0, 1) := by decide +kernel
theorem dX12_wave_111 : decode cX12_wave 111 = .ok (.istore 6, 2) := by decide +kernel
theorem dX12_wave_113 : decode cX12_wave 113 = .ok (.bipush (-4), 2) := by decide +kernel
theorem dX12_wave_115 : decode cX12_wave 115 = .ok (.istore 7, 2) := by decide +kernel
theorem dX12_wave_117 : decode cX12_wave 117 = .ok (.iconst 0, 1) := by decide +kernel
theorem dX12_wave_118 : decode cX12_wave 118 = .ok (.istore 8, 2) := by decide +kernel
theorem dX12_wave_120 : decode cX12_wave 120 = .ok (.iload 8, 2) := by decide +kernel
theorem dX12_wave_122 : decode cX12_wave 122 = .ok (.iload 4, 2) := by decide +kernel
theorem dX12_wave_124 : decode cX12_wave 124 = .ok (.if_icmp .ge 106, 3) := by decide +kernel
theorem dX12_wave_127 : decode cX12_wave 127 = .ok (.iload_n 3, 1) := by decide +kernel
theorem dX12_wave_128 : decode cX12_wave 128 = .ok (.i2l, 1) := by decide +kernel
theorem dX12_wave_129 : decode cX12_wave 129 = .ok (.iload 8, 2) := by decide +kernel
theorem dX12_wave_131 : decode cX12_wave 131 = .ok (.i2l, 1) := by decide +kernel
theorem dX12_wave_132 : decode cX12_wave 132 = .ok (.ladd, 1) := by decide +kernel
theorem dX12_wave_133 : decode cX12_wave 133 = .ok (.lconst 0, 1) := by decide +kernel
theorem dX12_wave_134 : decode cX12_wave 134 = .ok (.aload_n 0, 1) := by decide +kernel
theorem dX12_wave_135 : decode cX12_wave 135 = .ok (.getfield 57, 3) := by decide +kernel
theorem dX12_wave_138 : decode cX12_wave 138 = .ok (.iload_n 1, 1) := by decide +kernel
theorem dX12_wave_139 : decode cX12_wave 139 = .ok (.iaload, 1) := by decide +kernel
theorem dX12_wave_140 : decode cX12_wave 140 = .ok (.iconst 1, 1) := by decide +kernel
theorem dX12_wave_141 : decode cX12_wave 141 = .ok (.isub, 1) := by decide +kernel
theorem dX12_wave_142 : decode cX12_wave 142 = .ok (.i2l, 1) := by decide +kernel
theorem dX12_wave_143 : decode cX12_wave 143 = .ok (.invokestatic 70, 3) := by decide +kernel
theorem dX12_wave_146 : decode cX12_wave 146 = .ok (.ifCond .ne 6, 3) := by decide +kernel
theorem dX12_wave_149 : decode cX12_wave 149 = .ok (.bipush (-12), 2) := by decide +kernel
theorem dX12_wave_151 : decode cX12_wave 151 = .ok (.ireturn, 1) := by decide +kernel
theorem dX12_wave_152 : decode cX12_wave 152 = .ok (.aload_n 0, 1) := by decide +kernel
theorem dX12_wave_153 : decode cX12_wave 153 = .ok (.getfield 60, 3) := by decide +kernel
theorem dX12_wave_156 : decode cX12_wave 156 = .ok (.bipush 64, 2) := by decide +kernel
theorem dX12_wave_158 : decode cX12_wave 158 = .ok (.iload_n 1, 1) := by decide +kernel
theorem dX12_wave_159 : decode cX12_wave 159 = .ok (.imul, 1) := by decide +kernel
theorem dX12_wave_160 : decode cX12_wave 160 = .ok (.iload_n 3, 1) := by decide +kernel
theorem dX12_wave_161 : decode cX12_wave 161 = .ok (.iadd, 1) := by decide +kernel
theorem dX12_wave_162 : decode cX12_wave 162 = .ok (.iload 8, 2) := by decide +kernel
theorem dX12_wave_164 : decode cX12_wave 164 = .ok (.iadd, 1) := by decide +kernel
theorem dX12_wave_165 : decode cX12_wave 165 = .ok (.iaload, 1) := by decide +kernel
theorem dX12_wave_166 : decode cX12_wave 166 = .ok (.istore 9, 2) := by decide +kernel
theorem dX12_wave_168 : decode cX12_wave 168 = .ok (.iload 9, 2) := by decide +kernel
theorem dX12_wave_170 : decode cX12_wave 170 = .ok (.invokestatic 212, 3) := by decide +kernel
theorem dX12_wave_173 : decode cX12_wave 173 = .ok (.ifCond .ne 9, 3) := by decide +kernel
theorem dX12_wave_176 : decode cX12_wave 176 = .ok (.bipush (-20), 2) := by decide +kernel
theorem dX12_wave_178 : decode cX12_wave 178 = .ok (.iload 8, 2) := by decide +kernel
theorem dX12_wave_180 : decode cX12_wave 180 = .ok (.isub, 1) := by decide +kernel
theorem dX12_wave_181 : decode cX12_wave 181 = .ok (.ireturn, 1) := by decide +kernel
theorem dX12_wave_182 : decode cX12_wave 182 = .ok (.aload_n 0, 1) := by decide +kernel
theorem dX12_wave_183 : decode cX12_wave 183 = .ok (.iload 9, 2) := by decide +kernel
theorem dX12_wave_185 : decode cX12_wave 185 = .ok (.bipush (-4), 2) := by decide +kernel
theorem dX12_wave_187 : decode cX12_wave 187 = .ok (.invokevirtual 218, 3) := by decide +kernel
theorem dX12_wave_190 : decode cX12_wave 190 = .ok (.istore 10, 2) := by decide +kernel
theorem dX12_wave_192 : decode cX12_wave 192 = .ok (.aload_n 0, 1) := by decide +kernel
theorem dX12_wave_193 : decode cX12_wave 193 = .ok (.getfield 63, 3) := by decide +kernel
theorem dX12_wave_196 : decode cX12_wave 196 = .ok (.iload 10, 2) := by decide +kernel
theorem dX12_wave_198 : decode cX12_wave 198 = .ok (.dup2, 1) := by decide +kernel
theorem dX12_wave_199 : decode cX12_wave 199 = .ok (.iaload, 1) := by decide +kernel
theorem dX12_wave_200 : decode cX12_wave 200 = .ok (.iconst 1, 1) := by decide +kernel
theorem dX12_wave_201 : decode cX12_wave 201 = .ok (.iadd, 1) := by decide +kernel
theorem dX12_wave_202 : decode cX12_wave 202 = .ok (.iastore, 1) := by decide +kernel
theorem dX12_wave_203 : decode cX12_wave 203 = .ok (.iload 6, 2) := by decide +kernel
theorem dX12_wave_205 : decode cX12_wave 205 = .ok (.iload 10, 2) := by decide +kernel
theorem dX12_wave_207 : decode cX12_wave 207 = .ok (.iload 7, 2) := by decide +kernel
theorem dX12_wave_209 : decode cX12_wave 209 = .ok (.if_icmp .ge 7, 3) := by decide +kernel
theorem dX12_wave_212 : decode cX12_wave 212 = .ok (.iconst 1, 1) := by decide +kernel
theorem dX12_wave_213 : decode cX12_wave 213 = .ok (.goto 4, 3) := by decide +kernel
theorem dX12_wave_216 : decode cX12_wave 216 = .ok (.iconst 0, 1) := by decide +kernel
theorem dX12_wave_217 : decode cX12_wave 217 = .ok (.iadd, 1) := by decide +kernel
theorem dX12_wave_218 : decode cX12_wave 218 = .ok (.istore 6, 2) := by decide +kernel
theorem dX12_wave_220 : decode cX12_wave 220 = .ok (.iload 10, 2) := by decide +kernel
theorem dX12_wave_222 : decode cX12_wave 222 = .ok (.istore 7, 2) := by decide +kernel
theorem dX12_wave_224 : decode cX12_wave 224 = .ok (.iinc 8 1, 3) := by decide +kernel
theorem dX12_wave_227 : decode cX12_wave 227 = .ok (.goto (-107), 3) := by decide +kernel
theorem dX12_wave_230 : decode cX12_wave 230 = .ok (.iconst 0, 1) := by decide +kernel
theorem dX12_wave_231 : decode cX12_wave 231 = .ok (.istore 8, 2) := by decide +kernel
theorem dX12_wave_233 : decode cX12_wave 233 = .ok (.iconst 0, 1) := by decide +kernel
theorem dX12_wave_234 : decode cX12_wave 234 = .ok (.istore 9, 2) := by decide +kernel
theorem dX12_wave_236 : decode cX12_wave 236 = .ok (.iconst 0, 1) := by decide +kernel
theorem dX12_wave_237 : decode cX12_wave 237 = .ok (.istore 10, 2) := by decide +kernel
theorem dX12_wave_239 : decode cX12_wave 239 = .ok (.iload 10, 2) := by decide +kernel
theorem dX12_wave_241 : decode cX12_wave 241 = .ok (.sipush 256, 3) := by decide +kernel
theorem dX12_wave_244 : decode cX12_wave 244 = .ok (.if_icmp .ge 55, 3) := by decide +kernel
theorem dX12_wave_247 : decode cX12_wave 247 = .ok (.iload 8, 2) := by decide +kernel
theorem dX12_wave_249 : decode cX12_wave 249 = .ok (.aload_n 0, 1) := by decide +kernel
theorem dX12_wave_250 : decode cX12_wave 250 = .ok (.getfield 63, 3) := by decide +kernel
theorem dX12_wave_253 : decode cX12_wave 253 = .ok (.iload 10, 2) := by decide +kernel
theorem dX12_wave_255 : decode cX12_wave 255 = .ok (.iaload, 1) := by decide +kernel
theorem dX12_wave_256 : decode cX12_wave 256 = .ok (.ifCond .le 7, 3) := by decide +kernel
theorem dX12_wave_259 : decode cX12_wave 259 = .ok (.iconst 1, 1) := by decide +kernel
theorem dX12_wave_260 : decode cX12_wave 260 = .ok (.goto 4, 3) := by decide +kernel
theorem dX12_wave_263 : decode cX12_wave 263 = .ok (.iconst 0, 1) := by decide +kernel
theorem dX12_wave_264 : decode cX12_wave 264 = .ok (.iadd, 1) := by decide +kernel
theorem dX12_wave_265 : decode cX12_wave 265 = .ok (.istore 8, 2) := by decide +kernel
theorem dX12_wave_267 : decode cX12_wave 267 = .ok (.aload_n 0, 1) := by decide +kernel
theorem dX12_wave_268 : decode cX12_wave 268 = .ok (.getfield 63, 3) := by decide +kernel
theorem dX12_wave_271 : decode cX12_wave 271 = .ok (.iload 10, 2) := by decide +kernel
theorem dX12_wave_273 : decode cX12_wave 273 = .ok (.iaload, 1) := by decide +kernel
theorem dX12_wave_274 : decode cX12_wave 274 = .ok (.aload_n 0, 1) := by decide +kernel
theorem dX12_wave_275 : decode cX12_wave 275 = .ok (.getfield 63, 3) := by decide +kernel
theorem dX12_wave_278 : decode cX12_wave 278 = .ok (.iload 9, 2) := by decide +kernel
theorem dX12_wave_280 : decode cX12_wave 280 = .ok (.iaload, 1) := by decide +kernel
theorem dX12_wave_281 : decode cX12_wave 281 = .ok (.if_icmp .le 8, 3) := by decide +kernel
theorem dX12_wave_284 : decode cX12_wave 284 = .ok (.iload 10, 2) := by decide +kernel
theorem dX12_wave_286 : decode cX12_wave 286 = .ok (.goto 5, 3) := by decide +kernel
theorem dX12_wave_289 : decode cX12_wave 289 = .ok (.iload 9, 2) := by decide +kernel
theorem dX12_wave_291 : decode cX12_wave 291 = .ok (.istore 9, 2) := by decide +kernel
theorem dX12_wave_293 : decode cX12_wave 293 = .ok (.iinc 10 1, 3) := by decide +kernel
theorem dX12_wave_296 : decode cX12_wave 296 = .ok (.goto (-57), 3) := by decide +kernel
theorem dX12_wave_299 : decode cX12_wave 299 = .ok (.iload 5, 2) := by decide +kernel
theorem dX12_wave_301 : decode cX12_wave 301 = .ok (.ifCond .ne 8, 3) := by decide +kernel
theorem dX12_wave_304 : decode cX12_wave 304 = .ok (.iload 8, 2) := by decide +kernel
theorem dX12_wave_306 : decode cX12_wave 306 = .ok (.goto 26, 3) := by decide +kernel
theorem dX12_wave_309 : decode cX12_wave 309 = .ok (.iload 5, 2) := by decide +kernel
theorem dX12_wave_311 : decode cX12_wave 311 = .ok (.iconst 1, 1) := by decide +kernel
theorem dX12_wave_312 : decode cX12_wave 312 = .ok (.if_icmp .ne 18, 3) := by decide +kernel
theorem dX12_wave_315 : decode cX12_wave 315 = .ok (.iload 4, 2) := by decide +kernel
theorem dX12_wave_317 : decode cX12_wave 317 = .ok (.ifCond .ne 8, 3) := by decide +kernel
theorem dX12_wave_320 : decode cX12_wave 320 = .ok (.bipush (-4), 2) := by decide +kernel
theorem dX12_wave_322 : decode cX12_wave 322 = .ok (.goto 10, 3) := by decide +kernel
theorem dX12_wave_325 : decode cX12_wave 325 = .ok (.iload 9, 2) := by decide +kernel
theorem dX12_wave_327 : decode cX12_wave 327 = .ok (.goto 5, 3) := by decide +kernel
theorem dX12_wave_330 : decode cX12_wave 330 = .ok (.iload 6, 2) := by decide +kernel
theorem dX12_wave_332 : decode cX12_wave 332 = .ok (.ireturn, 1) := by decide +kernel
theorem dX12_count_0 : decode cX12_count 0 = .ok (.iconst 0, 1) := by decide +kernel
theorem dX12_count_1 : decode cX12_count 1 = .ok (.istore_n 2, 1) := by decide +kernel
theorem dX12_count_2 : decode cX12_count 2 = .ok (.iconst 1, 1) := by decide +kernel
theorem dX12_count_3 : decode cX12_count 3 = .ok (.istore_n 3, 1) := by decide +kernel
theorem dX12_count_4 : decode cX12_count 4 = .ok (.iload_n 3, 1) := by decide +kernel
theorem dX12_count_5 : decode cX12_count 5 = .ok (.bipush 16, 2) := by decide +kernel
theorem dX12_count_7 : decode cX12_count 7 = .ok (.if_icmp .ge 28, 3) := by decide +kernel
theorem dX12_count_10 : decode cX12_count 10 = .ok (.iload_n 2, 1) := by decide +kernel
theorem dX12_count_11 : decode cX12_count 11 = .ok (.aload_n 0, 1) := by decide +kernel
theorem dX12_count_12 : decode cX12_count 12 = .ok (.getfield 32, 3) := by decide +kernel
theorem dX12_count_15 : decode cX12_count 15 = .ok (.iload_n 3, 1) := by decide +kernel
theorem dX12_count_16 : decode cX12_count 16 = .ok (.iaload, 1) := by decide +kernel
theorem dX12_count_17 : decode cX12_count 17 = .ok (.bipush (-4), 2) := by decide +kernel
theorem dX12_count_19 : decode cX12_count 19 = .ok (.if_icmp .ne 7, 3) := by decide +kernel
theorem dX12_count_22 : decode cX12_count 22 = .ok (.iconst 0, 1) := by decide +kernel
theorem dX12_count_23 : decode cX12_count 23 = .ok (.goto 4, 3) := by decide +kernel
theorem dX12_count_26 : decode cX12_count 26 = .ok (.iconst 1, 1) := by decide +kernel
theorem dX12_count_27 : decode cX12_count 27 = .ok (.iadd, 1) := by decide +kernel
theorem dX12_count_28 : decode cX12_count 28 = .ok (.istore_n 2, 1) := by decide +kernel
theorem dX12_count_29 : decode cX12_count 29 = .ok (.iinc 3 1, 3) := by decide +kernel
theorem dX12_count_32 : decode cX12_count 32 = .ok (.goto (-28), 3) := by decide +kernel
theorem dX12_count_35 : decode cX12_count 35 = .ok (.iload_n 1, 1) := by decide +kernel
theorem dX12_count_36 : decode cX12_count 36 = .ok (.tableswitch 85 0 5 #[40, 45, 50, 55, 57, 62], 40) := by decide +kernel
theorem dX12_count_76 : decode cX12_count 76 = .ok (.aload_n 0, 1) := by decide +kernel
theorem dX12_count_77 : decode cX12_count 77 = .ok (.invokevirtual 158, 3) := by decide +kernel
theorem dX12_count_80 : decode cX12_count 80 = .ok (.ireturn, 1) := by decide +kernel
theorem dX12_count_81 : decode cX12_count 81 = .ok (.aload_n 0, 1) := by decide +kernel
theorem dX12_count_82 : decode cX12_count 82 = .ok (.invokevirtual 151, 3) := by decide +kernel
theorem dX12_count_85 : decode cX12_count 85 = .ok (.ireturn, 1) := by decide +kernel
theorem dX12_count_86 : decode cX12_count 86 = .ok (.aload_n 0, 1) := by decide +kernel
theorem dX12_count_87 : decode cX12_count 87 = .ok (.getfield 142, 3) := by decide +kernel
theorem dX12_count_90 : decode cX12_count 90 = .ok (.ireturn, 1) := by decide +kernel
theorem dX12_count_91 : decode cX12_count 91 = .ok (.iload_n 2, 1) := by decide +kernel
theorem dX12_count_92 : decode cX12_count 92 = .ok (.ireturn, 1) := by decide +kernel
theorem dX12_count_93 : decode cX12_count 93 = .ok (.aload_n 0, 1) := by decide +kernel
theorem dX12_count_94 : decode cX12_count 94 = .ok (.getfield 74, 3) := by decide +kernel
theorem dX12_count_97 : decode cX12_count 97 = .ok (.ireturn, 1) := by decide +kernel
theorem dX12_count_98 : decode cX12_count 98 = .ok (.aload_n 0, 1) := by decide +kernel
theorem dX12_count_99 : decode cX12_count 99 = .ok (.getfield 54, 3) := by decide +kernel
theorem dX12_count_102 : decode cX12_count 102 = .ok (.iconst 0, 1) := by decide +kernel
theorem dX12_count_103 : decode cX12_count 103 = .ok (.iaload, 1) := by decide +kernel
theorem dX12_count_104 : decode cX12_count 104 = .ok (.bipush (-4), 2) := by decide +kernel
theorem dX12_count_106 : decode cX12_count 106 = .ok (.if_icmp .ne 8, 3) := by decide +kernel
theorem dX12_count_109 : decode cX12_count 109 = .ok (.bipush (-4), 2) := by decide +kernel
theorem dX12_count_111 : decode cX12_count 111 = .ok (.goto 9, 3) := by decide +kernel
theorem dX12_count_114 : decode cX12_count 114 = .ok (.aload_n 0, 1) := by decide +kernel
theorem dX12_count_115 : decode cX12_count 115 = .ok (.getfield 57, 3) := by decide +kernel
theorem dX12_count_118 : decode cX12_count 118 = .ok (.iconst 0, 1) := by decide +kernel
theorem dX12_count_119 : decode cX12_count 119 = .ok (.iaload, 1) := by decide +kernel
theorem dX12_count_120 : decode cX12_count 120 = .ok (.ireturn, 1) := by decide +kernel
theorem dX12_count_121 : decode cX12_count 121 = .ok (.iconst (-1), 1) := by decide +kernel
theorem dX12_count_122 : decode cX12_count 122 = .ok (.ireturn, 1) := by decide +kernel
theorem dJ6_bitCount_0f7a4_0 : decode cJ6_bitCount_0f7a4 0 = .ok (.iload_n 0, 1) := by decide +kernel
theorem dJ6_bitCount_0f7a4_1 : decode cJ6_bitCount_0f7a4 1 = .ok (.iload_n 0, 1) := by decide +kernel
theorem dJ6_bitCount_0f7a4_2 : decode cJ6_bitCount_0f7a4 2 = .ok (.iconst 1, 1) := by decide +kernel
theorem dJ6_bitCount_0f7a4_3 : decode cJ6_bitCount_0f7a4 3 = .ok (.iushr, 1) := by decide +kernel
theorem dJ6_bitCount_0f7a4_4 : decode cJ6_bitCount_0f7a4 4 = .ok (.ldc_w 265, 3) := by decide +kernel
theorem dJ6_bitCount_0f7a4_7 : decode cJ6_bitCount_0f7a4 7 = .ok (.iand, 1) := by decide +kernel
theorem dJ6_bitCount_0f7a4_8 : decode cJ6_bitCount_0f7a4 8 = .ok (.isub, 1) := by decide +kernel
theorem dJ6_bitCount_0f7a4_9 : decode cJ6_bitCount_0f7a4 9 = .ok (.istore_n 0, 1) := by decide +kernel
theorem dJ6_bitCount_0f7a4_10 : decode cJ6_bitCount_0f7a4 10 = .ok (.iload_n 0, 1) := by decide +kernel
theorem dJ6_bitCount_0f7a4_11 : decode cJ6_bitCount_0f7a4 11 = .ok (.ldc_w 266, 3) := by decide +kernel
theorem dJ6_bitCount_0f7a4_14 : decode cJ6_bitCount_0f7a4 14 = .ok (.iand, 1) := by decide +kernel
theorem dJ6_bitCount_0f7a4_15 : decode cJ6_bitCount_0f7a4 15 = .ok (.iload_n 0, 1) := by decide +kernel
theorem dJ6_bitCount_0f7a4_16 : decode cJ6_bitCount_0f7a4 16 = .ok (.iconst 2, 1) := by decide +kernel
theorem dJ6_bitCount_0f7a4_17 : decode cJ6_bitCount_0f7a4 17 = .ok (.iushr, 1) := by decide +kernel
theorem dJ6_bitCount_0f7a4_18 : decode cJ6_bitCount_0f7a4 18 = .ok (.ldc_w 266, 3) := by decide +kernel
theorem dJ6_bitCount_0f7a4_21 : decode cJ6_bitCount_0f7a4 21 = .ok (.iand, 1) := by decide +kernel
theorem dJ6_bitCount_0f7a4_22 : decode cJ6_bitCount_0f7a4 22 = .ok (.iadd, 1) := by decide +kernel
theorem dJ6_bitCount_0f7a4_23 : decode cJ6_bitCount_0f7a4 23 = .ok (.istore_n 0, 1) := by decide +kernel
theorem dJ6_bitCount_0f7a4_24 : decode cJ6_bitCount_0f7a4 24 = .ok (.iload_n 0, 1) := by decide +kernel
theorem dJ6_bitCount_0f7a4_25 : decode cJ6_bitCount_0f7a4 25 = .ok (.iload_n 0, 1) := by decide +kernel
theorem dJ6_bitCount_0f7a4_26 : decode cJ6_bitCount_0f7a4 26 = .ok (.iconst 4, 1) := by decide +kernel
theorem dJ6_bitCount_0f7a4_27 : decode cJ6_bitCount_0f7a4 27 = .ok (.iushr, 1) := by decide +kernel
theorem dJ6_bitCount_0f7a4_28 : decode cJ6_bitCount_0f7a4 28 = .ok (.iadd, 1) := by decide +kernel
theorem dJ6_bitCount_0f7a4_29 : decode cJ6_bitCount_0f7a4 29 = .ok (.ldc_w 267, 3) := by decide +kernel
theorem dJ6_bitCount_0f7a4_32 : decode cJ6_bitCount_0f7a4 32 = .ok (.iand, 1) := by decide +kernel
theorem dJ6_bitCount_0f7a4_33 : decode cJ6_bitCount_0f7a4 33 = .ok (.istore_n 0, 1) := by decide +kernel
theorem dJ6_bitCount_0f7a4_34 : decode cJ6_bitCount_0f7a4 34 = .ok (.iload_n 0, 1) := by decide +kernel
theorem dJ6_bitCount_0f7a4_35 : decode cJ6_bitCount_0f7a4 35 = .ok (.iload_n 0, 1) := by decide +kernel
theorem dJ6_bitCount_0f7a4_36 : decode cJ6_bitCount_0f7a4 36 = .ok (.bipush 8, 2) := by decide +kernel
theorem dJ6_bitCount_0f7a4_38 : decode cJ6_bitCount_0f7a4 38 = .ok (.iushr, 1) := by decide +kernel
theorem dJ6_bitCount_0f7a4_39 : decode cJ6_bitCount_0f7a4 39 = .ok (.iadd, 1) := by decide +kernel
theorem dJ6_bitCount_0f7a4_40 : decode cJ6_bitCount_0f7a4 40 = .ok (.istore_n 0, 1) := by decide +kernel
theorem dJ6_bitCount_0f7a4_41 : decode cJ6_bitCount_0f7a4 41 = .ok (.iload_n 0, 1) := by decide +kernel
theorem dJ6_bitCount_0f7a4_42 : decode cJ6_bitCount_0f7a4 42 = .ok (.iload_n 0, 1) := by decide +kernel
theorem dJ6_bitCount_0f7a4_43 : decode cJ6_bitCount_0f7a4 43 = .ok (.bipush 16, 2) := by decide +kernel
theorem dJ6_bitCount_0f7a4_45 : decode cJ6_bitCount_0f7a4 45 = .ok (.iushr, 1) := by decide +kernel
theorem dJ6_bitCount_0f7a4_46 : decode cJ6_bitCount_0f7a4 46 = .ok (.iadd, 1) := by decide +kernel
theorem dJ6_bitCount_0f7a4_47 : decode cJ6_bitCount_0f7a4 47 = .ok (.istore_n 0, 1) := by decide +kernel
theorem dJ6_bitCount_0f7a4_48 : decode cJ6_bitCount_0f7a4 48 = .ok (.iload_n 0, 1) := by decide +kernel
theorem dJ6_bitCount_0f7a4_49 : decode cJ6_bitCount_0f7a4 49 = .ok (.bipush 63, 2) := by decide +kernel
theorem dJ6_bitCount_0f7a4_51 : decode cJ6_bitCount_0f7a4 51 = .ok (.iand, 1) := by decide +kernel
theorem dJ6_bitCount_0f7a4_52 : decode cJ6_bitCount_0f7a4 52 = .ok (.ireturn, 1) := by decide +kernel
theorem dJ9_floorDiv_7cf53_0 : decode cJ9_floorDiv_7cf53 0 = .ok (.iload_n 0, 1) := by decide +kernel
theorem dJ9_floorDiv_7cf53_1 : decode cJ9_floorDiv_7cf53 1 = .ok (.iload_n 1, 1) := by decide +kernel
theorem dJ9_floorDiv_7cf53_2 : decode cJ9_floorDiv_7cf53 2 = .ok (.idiv, 1) := by decide +kernel
theorem dJ9_floorDiv_7cf53_3 : decode cJ9_floorDiv_7cf53 3 = .ok (.istore_n 2, 1) := by decide +kernel
