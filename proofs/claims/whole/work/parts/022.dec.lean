theorem dX11_range_0 : decode cX11_range 0 = .ok (.iload_n 1, 1) := by decide +kernel
theorem dX11_range_1 : decode cX11_range 1 = .ok (.ifCond .lt 8, 3) := by decide +kernel
theorem dX11_range_4 : decode cX11_range 4 = .ok (.iload_n 1, 1) := by decide +kernel
theorem dX11_range_5 : decode cX11_range 5 = .ok (.iconst 3, 1) := by decide +kernel
theorem dX11_range_6 : decode cX11_range 6 = .ok (.if_icmp .le 5, 3) := by decide +kernel
theorem dX11_range_9 : decode cX11_range 9 = .ok (.iconst (-1), 1) := by decide +kernel
theorem dX11_range_10 : decode cX11_range 10 = .ok (.ireturn, 1) := by decide +kernel
theorem dX11_range_11 : decode cX11_range 11 = .ok (.aload_n 0, 1) := by decide +kernel
theorem dX11_range_12 : decode cX11_range 12 = .ok (.getfield 40, 3) := by decide +kernel
theorem dX11_range_15 : decode cX11_range 15 = .ok (.invokevirtual 209, 3) := by decide +kernel
theorem dX11_range_18 : decode cX11_range 18 = .ok (.istore_n 2, 1) := by decide +kernel
theorem dX11_range_19 : decode cX11_range 19 = .ok (.iload_n 2, 1) := by decide +kernel
theorem dX11_range_20 : decode cX11_range 20 = .ok (.iconst 1, 1) := by decide +kernel
theorem dX11_range_21 : decode cX11_range 21 = .ok (.if_icmp .lt 10, 3) := by decide +kernel
theorem dX11_range_24 : decode cX11_range 24 = .ok (.iload_n 2, 1) := by decide +kernel
theorem dX11_range_25 : decode cX11_range 25 = .ok (.sipush 20000, 3) := by decide +kernel
theorem dX11_range_28 : decode cX11_range 28 = .ok (.if_icmp .le 6, 3) := by decide +kernel
theorem dX11_range_31 : decode cX11_range 31 = .ok (.bipush (-2), 2) := by decide +kernel
theorem dX11_range_33 : decode cX11_range 33 = .ok (.ireturn, 1) := by decide +kernel
theorem dX11_range_34 : decode cX11_range 34 = .ok (.iload_n 1, 1) := by decide +kernel
theorem dX11_range_35 : decode cX11_range 35 = .ok (.tableswitch 57 0 2 #[25, 33, 49], 25) := by decide +kernel
theorem dX11_range_60 : decode cX11_range 60 = .ok (.aload_n 0, 1) := by decide +kernel
theorem dX11_range_61 : decode cX11_range 61 = .ok (.getfield 40, 3) := by decide +kernel
theorem dX11_range_64 : decode cX11_range 64 = .ok (.invokevirtual 212, 3) := by decide +kernel
theorem dX11_range_67 : decode cX11_range 67 = .ok (.ireturn, 1) := by decide +kernel
theorem dX11_range_68 : decode cX11_range 68 = .ok (.aload_n 0, 1) := by decide +kernel
theorem dX11_range_69 : decode cX11_range 69 = .ok (.getfield 10, 3) := by decide +kernel
theorem dX11_range_72 : decode cX11_range 72 = .ok (.invokevirtual 215, 3) := by decide +kernel
theorem dX11_range_75 : decode cX11_range 75 = .ok (.aload_n 0, 1) := by decide +kernel
theorem dX11_range_76 : decode cX11_range 76 = .ok (.getfield 40, 3) := by decide +kernel
theorem dX11_range_79 : decode cX11_range 79 = .ok (.invokevirtual 212, 3) := by decide +kernel
theorem dX11_range_82 : decode cX11_range 82 = .ok (.isub, 1) := by decide +kernel
theorem dX11_range_83 : decode cX11_range 83 = .ok (.ireturn, 1) := by decide +kernel
theorem dX11_range_84 : decode cX11_range 84 = .ok (.aload_n 0, 1) := by decide +kernel
theorem dX11_range_85 : decode cX11_range 85 = .ok (.getfield 40, 3) := by decide +kernel
theorem dX11_range_88 : decode cX11_range 88 = .ok (.invokevirtual 218, 3) := by decide +kernel
theorem dX11_range_91 : decode cX11_range 91 = .ok (.ireturn, 1) := by decide +kernel
theorem dX11_range_92 : decode cX11_range 92 = .ok (.iload_n 2, 1) := by decide +kernel
theorem dX11_range_93 : decode cX11_range 93 = .ok (.aload_n 0, 1) := by decide +kernel
theorem dX11_range_94 : decode cX11_range 94 = .ok (.getfield 40, 3) := by decide +kernel
theorem dX11_range_97 : decode cX11_range 97 = .ok (.invokevirtual 221, 3) := by decide +kernel
theorem dX11_range_100 : decode cX11_range 100 = .ok (.isub, 1) := by decide +kernel
theorem dX11_range_101 : decode cX11_range 101 = .ok (.ireturn, 1) := by decide +kernel
theorem dX11_weak_0 : decode cX11_weak 0 = .ok (.iload_n 1, 1) := by decide +kernel
theorem dX11_weak_1 : decode cX11_weak 1 = .ok (.invokestatic 199, 3) := by decide +kernel
theorem dX11_weak_4 : decode cX11_weak 4 = .ok (.ifCond .ne 5, 3) := by decide +kernel
theorem dX11_weak_7 : decode cX11_weak 7 = .ok (.iconst (-1), 1) := by decide +kernel
theorem dX11_weak_8 : decode cX11_weak 8 = .ok (.ireturn, 1) := by decide +kernel
theorem dX11_weak_9 : decode cX11_weak 9 = .ok (.aload_n 0, 1) := by decide +kernel
theorem dX11_weak_10 : decode cX11_weak 10 = .ok (.getfield 40, 3) := by decide +kernel
theorem dX11_weak_13 : decode cX11_weak 13 = .ok (.iload_n 1, 1) := by decide +kernel
theorem dX11_weak_14 : decode cX11_weak 14 = .ok (.bipush (-4), 2) := by decide +kernel
theorem dX11_weak_16 : decode cX11_weak 16 = .ok (.invokevirtual 205, 3) := by decide +kernel
theorem dX11_weak_19 : decode cX11_weak 19 = .ok (.istore_n 2, 1) := by decide +kernel
theorem dX11_weak_20 : decode cX11_weak 20 = .ok (.iconst 0, 1) := by decide +kernel
theorem dX11_weak_21 : decode cX11_weak 21 = .ok (.istore_n 3, 1) := by decide +kernel
theorem dX11_weak_22 : decode cX11_weak 22 = .ok (.iconst 0, 1) := by decide +kernel
theorem dX11_weak_23 : decode cX11_weak 23 = .ok (.istore 4, 2) := by decide +kernel
theorem dX11_weak_25 : decode cX11_weak 25 = .ok (.iload 4, 2) := by decide +kernel
theorem dX11_weak_27 : decode cX11_weak 27 = .ok (.aload_n 0, 1) := by decide +kernel
theorem dX11_weak_28 : decode cX11_weak 28 = .ok (.getfield 10, 3) := by decide +kernel
theorem dX11_weak_31 : decode cX11_weak 31 = .ok (.getfield 116, 3) := by decide +kernel
theorem dX11_weak_34 : decode cX11_weak 34 = .ok (.if_icmp .ge 30, 3) := by decide +kernel
theorem dX11_weak_37 : decode cX11_weak 37 = .ok (.aload_n 0, 1) := by decide +kernel
theorem dX11_weak_38 : decode cX11_weak 38 = .ok (.getfield 40, 3) := by decide +kernel
theorem dX11_weak_41 : decode cX11_weak 41 = .ok (.iload_n 1, 1) := by decide +kernel
theorem dX11_weak_42 : decode cX11_weak 42 = .ok (.iload 4, 2) := by decide +kernel
theorem dX11_weak_44 : decode cX11_weak 44 = .ok (.invokevirtual 205, 3) := by decide +kernel
theorem dX11_weak_47 : decode cX11_weak 47 = .ok (.iload_n 2, 1) := by decide +kernel
theorem dX11_weak_48 : decode cX11_weak 48 = .ok (.if_icmp .eq 10, 3) := by decide +kernel
theorem dX11_weak_51 : decode cX11_weak 51 = .ok (.iload_n 3, 1) := by decide +kernel
theorem dX11_weak_52 : decode cX11_weak 52 = .ok (.iconst 1, 1) := by decide +kernel
theorem dX11_weak_53 : decode cX11_weak 53 = .ok (.iload 4, 2) := by decide +kernel
theorem dX11_weak_55 : decode cX11_weak 55 = .ok (.ishl, 1) := by decide +kernel
theorem dX11_weak_56 : decode cX11_weak 56 = .ok (.ior, 1) := by decide +kernel
theorem dX11_weak_57 : decode cX11_weak 57 = .ok (.istore_n 3, 1) := by decide +kernel
theorem dX11_weak_58 : decode cX11_weak 58 = .ok (.iinc 4 1, 3) := by decide +kernel
theorem dX11_weak_61 : decode cX11_weak 61 = .ok (.goto (-36), 3) := by decide +kernel
theorem dX11_weak_64 : decode cX11_weak 64 = .ok (.iload_n 3, 1) := by decide +kernel
theorem dX11_weak_65 : decode cX11_weak 65 = .ok (.ireturn, 1) := by decide +kernel
theorem dX11_stick_0 : decode cX11_stick 0 = .ok (.aload_n 0, 1) := by decide +kernel
theorem dX11_stick_1 : decode cX11_stick 1 = .ok (.getfield 54, 3) := by decide +kernel
theorem dX11_stick_4 : decode cX11_stick 4 = .ok (.iload_n 1, 1) := by decide +kernel
theorem dX11_stick_5 : decode cX11_stick 5 = .ok (.invokevirtual 224, 3) := by decide +kernel
theorem dX11_stick_8 : decode cX11_stick 8 = .ok (.ifCond .eq 18, 3) := by decide +kernel
theorem dX11_stick_11 : decode cX11_stick 11 = .ok (.iload_n 2, 1) := by decide +kernel
theorem dX11_stick_12 : decode cX11_stick 12 = .ok (.bipush (-4), 2) := by decide +kernel
theorem dX11_stick_14 : decode cX11_stick 14 = .ok (.if_icmp .eq 14, 3) := by decide +kernel
theorem dX11_stick_17 : decode cX11_stick 17 = .ok (.iload_n 2, 1) := by decide +kernel
theorem dX11_stick_18 : decode cX11_stick 18 = .ok (.ifCond .eq 10, 3) := by decide +kernel
theorem dX11_stick_21 : decode cX11_stick 21 = .ok (.iload_n 2, 1) := by decide +kernel
theorem dX11_stick_22 : decode cX11_stick 22 = .ok (.iconst 1, 1) := by decide +kernel
theorem dX11_stick_23 : decode cX11_stick 23 = .ok (.if_icmp .eq 5, 3) := by decide +kernel
theorem dX11_stick_26 : decode cX11_stick 26 = .ok (.iconst (-1), 1) := by decide +kernel
theorem dX11_stick_27 : decode cX11_stick 27 = .ok (.ireturn, 1) := by decide +kernel
theorem dX11_stick_28 : decode cX11_stick 28 = .ok (.aload_n 0, 1) := by decide +kernel
theorem dX11_stick_29 : decode cX11_stick 29 = .ok (.getfield 54, 3) := by decide +kernel
theorem dX11_stick_32 : decode cX11_stick 32 = .ok (.iload_n 1, 1) := by decide +kernel
theorem dX11_stick_33 : decode cX11_stick 33 = .ok (.iload_n 2, 1) := by decide +kernel
theorem dX11_stick_34 : decode cX11_stick 34 = .ok (.invokevirtual 227, 3) := by decide +kernel
theorem dX11_stick_37 : decode cX11_stick 37 = .ok (.ireturn, 1) := by decide +kernel
theorem dX11_string_0 : decode cX11_string 0 = .ok (.iload_n 1, 1) := by decide +kernel
theorem dX11_string_1 : decode cX11_string 1 = .ok (.invokestatic 230, 3) := by decide +kernel
theorem dX11_string_4 : decode cX11_string 4 = .ok (.ifCond .eq 19, 3) := by decide +kernel
theorem dX11_string_7 : decode cX11_string 7 = .ok (.iload_n 2, 1) := by decide +kernel
theorem dX11_string_8 : decode cX11_string 8 = .ok (.invokestatic 199, 3) := by decide +kernel
theorem dX11_string_11 : decode cX11_string 11 = .ok (.ifCond .eq 12, 3) := by decide +kernel
theorem dX11_string_14 : decode cX11_string 14 = .ok (.iload_n 3, 1) := by decide +kernel
theorem dX11_string_15 : decode cX11_string 15 = .ok (.ifCond .lt 8, 3) := by decide +kernel
theorem dX11_string_18 : decode cX11_string 18 = .ok (.iload_n 3, 1) := by decide +kernel
theorem dX11_string_19 : decode cX11_string 19 = .ok (.iconst 3, 1) := by decide +kernel
theorem dX11_string_20 : decode cX11_string 20 = .ok (.if_icmp .le 5, 3) := by decide +kernel
theorem dX11_string_23 : decode cX11_string 23 = .ok (.iconst (-1), 1) := by decide +kernel
theorem dX11_string_24 : decode cX11_string 24 = .ok (.ireturn, 1) := by decide +kernel
theorem dX11_string_25 : decode cX11_string 25 = .ok (.aload_n 0, 1) := by decide +kernel
theorem dX11_string_26 : decode cX11_string 26 = .ok (.getfield 54, 3) := by decide +kernel
theorem dX11_string_29 : decode cX11_string 29 = .ok (.iload_n 1, 1) := by decide +kernel
theorem dX11_string_30 : decode cX11_string 30 = .ok (.invokevirtual 233, 3) := by decide +kernel
theorem dX11_string_33 : decode cX11_string 33 = .ok (.aload_n 0, 1) := by decide +kernel
theorem dX11_string_34 : decode cX11_string 34 = .ok (.getfield 54, 3) := by decide +kernel
theorem dX11_string_37 : decode cX11_string 37 = .ok (.iload_n 2, 1) := by decide +kernel
theorem dX11_string_38 : decode cX11_string 38 = .ok (.invokevirtual 237, 3) := by decide +kernel
theorem dX11_string_41 : decode cX11_string 41 = .ok (.istore 4, 2) := by decide +kernel
theorem dX11_string_43 : decode cX11_string 43 = .ok (.iload_n 3, 1) := by decide +kernel
theorem dX11_string_44 : decode cX11_string 44 = .ok (.tableswitch 43 0 2 #[28, 31, 37], 28) := by decide +kernel
theorem dX11_string_72 : decode cX11_string 72 = .ok (.iload 4, 2) := by decide +kernel
theorem dX11_string_74 : decode cX11_string 74 = .ok (.ireturn, 1) := by decide +kernel
theorem dX11_string_75 : decode cX11_string 75 = .ok (.iload 4, 2) := by decide +kernel
theorem dX11_string_77 : decode cX11_string 77 = .ok (.invokestatic 240, 3) := by decide +kernel
theorem dX11_string_80 : decode cX11_string 80 = .ok (.ireturn, 1) := by decide +kernel
theorem dX11_string_81 : decode cX11_string 81 = .ok (.iload 4, 2) := by decide +kernel
theorem dX11_string_83 : decode cX11_string 83 = .ok (.invokestatic 243, 3) := by decide +kernel
theorem dX11_string_86 : decode cX11_string 86 = .ok (.ireturn, 1) := by decide +kernel
theorem dX11_string_87 : decode cX11_string 87 = .ok (.iload 4, 2) := by decide +kernel
theorem dX11_string_89 : decode cX11_string 89 = .ok (.invokestatic 246, 3) := by decide +kernel
theorem dX11_string_92 : decode cX11_string 92 = .ok (.ireturn, 1) := by decide +kernel
theorem dX11_node_0 : decode cX11_node 0 = .ok (.iload_n 1, 1) := by decide +kernel
theorem dX11_node_1 : decode cX11_node 1 = .ok (.invokestatic 230, 3) := by decide +kernel
theorem dX11_node_4 : decode cX11_node 4 = .ok (.ifCond .eq 15, 3) := by decide +kernel
theorem dX11_node_7 : decode cX11_node 7 = .ok (.iload_n 2, 1) := by decide +kernel
theorem dX11_node_8 : decode cX11_node 8 = .ok (.iconst 1, 1) := by decide +kernel
theorem dX11_node_9 : decode cX11_node 9 = .ok (.if_icmp .lt 10, 3) := by decide +kernel
theorem dX11_node_12 : decode cX11_node 12 = .ok (.iload_n 2, 1) := by decide +kernel
theorem dX11_node_13 : decode cX11_node 13 = .ok (.iconst 1, 1) := by decide +kernel
theorem dX11_node_14 : decode cX11_node 14 = .ok (.iload_n 1, 1) := by decide +kernel
theorem dX11_node_15 : decode cX11_node 15 = .ok (.ishl, 1) := by decide +kernel
theorem dX11_node_16 : decode cX11_node 16 = .ok (.if_icmp .lt 5, 3) := by decide +kernel
theorem dX11_node_19 : decode cX11_node 19 = .ok (.iconst (-1), 1) := by decide +kernel
theorem dX11_node_20 : decode cX11_node 20 = .ok (.ireturn, 1) := by decide +kernel
theorem dX11_node_21 : decode cX11_node 21 = .ok (.aload_n 0, 1) := by decide +kernel
theorem dX11_node_22 : decode cX11_node 22 = .ok (.getfield 54, 3) := by decide +kernel
theorem dX11_node_25 : decode cX11_node 25 = .ok (.iload_n 1, 1) := by decide +kernel
theorem dX11_node_26 : decode cX11_node 26 = .ok (.invokevirtual 233, 3) := by decide +kernel
theorem dX11_node_29 : decode cX11_node 29 = .ok (.aload_n 0, 1) := by decide +kernel
theorem dX11_node_30 : decode cX11_node 30 = .ok (.getfield 54, 3) := by decide +kernel
theorem dX11_node_33 : decode cX11_node 33 = .ok (.iload_n 2, 1) := by decide +kernel
theorem dX11_node_34 : decode cX11_node 34 = .ok (.invokevirtual 249, 3) := by decide +kernel
theorem dX11_node_37 : decode cX11_node 37 = .ok (.ireturn, 1) := by decide +kernel
theorem dX11_strings_0 : decode cX11_strings 0 = .ok (.iload_n 1, 1) := by decide +kernel
theorem dX11_strings_1 : decode cX11_strings 1 = .ok (.invokestatic 230, 3) := by decide +kernel
theorem dX11_strings_4 : decode cX11_strings 4 = .ok (.ifCond .eq 12, 3) := by decide +kernel
theorem dX11_strings_7 : decode cX11_strings 7 = .ok (.iload_n 2, 1) := by decide +kernel
theorem dX11_strings_8 : decode cX11_strings 8 = .ok (.ifCond .lt 8, 3) := by decide +kernel
theorem dX11_strings_11 : decode cX11_strings 11 = .ok (.iload_n 2, 1) := by decide +kernel
theorem dX11_strings_12 : decode cX11_strings 12 = .ok (.iconst 1, 1) := by decide +kernel
theorem dX11_strings_13 : decode cX11_strings 13 = .ok (.if_icmp .le 5, 3) := by decide +kernel
theorem dX11_strings_16 : decode cX11_strings 16 = .ok (.iconst (-1), 1) := by decide +kernel
theorem dX11_strings_17 : decode cX11_strings 17 = .ok (.ireturn, 1) := by decide +kernel
theorem dX11_strings_18 : decode cX11_strings 18 = .ok (.aload_n 0, 1) := by decide +kernel
theorem dX11_strings_19 : decode cX11_strings 19 = .ok (.getfield 54, 3) := by decide +kernel
theorem dX11_strings_22 : decode cX11_strings 22 = .ok (.iload_n 1, 1) := by decide +kernel
theorem dX11_strings_23 : decode cX11_strings 23 = .ok (.invokevirtual 233, 3) := by decide +kernel
theorem dX11_strings_26 : decode cX11_strings 26 = .ok (.iload_n 2, 1) := by decide +kernel
theorem dX11_strings_27 : decode cX11_strings 27 = .ok (.ifCond .ne 13, 3) := by decide +kernel
theorem dX11_strings_30 : decode cX11_strings 30 = .ok (.aload_n 0, 1) := by decide +kernel
theorem dX11_strings_31 : decode cX11_strings 31 = .ok (.getfield 54, 3) := by decide +kernel
theorem dX11_strings_34 : decode cX11_strings 34 = .ok (.invokevirtual 252, 3) := by decide +kernel
theorem dX11_strings_37 : decode cX11_strings 37 = .ok (.goto 10, 3) := by decide +kernel
theorem dX11_strings_40 : decode cX11_strings 40 = .ok (.aload_n 0, 1) := by decide +kernel
theorem dX11_strings_41 : decode cX11_strings 41 = .ok (.getfield 54, 3) := by decide +kernel
theorem dX11_strings_44 : decode cX11_strings 44 = .ok (.invokevirtual 255, 3) := by decide +kernel
theorem dX11_strings_47 : decode cX11_strings 47 = .ok (.ireturn, 1) := by decide +kernel
theorem dX11_slopes_0 : decode cX11_slopes 0 = .ok (.iload_n 1, 1) := by decide +kernel
theorem dX11_slopes_1 : decode cX11_slopes 1 = .ok (.iload_n 2, 1) := by decide +kernel
theorem dX11_slopes_2 : decode cX11_slopes 2 = .ok (.iload_n 3, 1) := by decide +kernel
theorem dX11_slopes_3 : decode cX11_slopes 3 = .ok (.iload 4, 2) := by decide +kernel
theorem dX11_slopes_5 : decode cX11_slopes 5 = .ok (.invokestatic 258, 3) := by decide +kernel
theorem dX11_slopes_8 : decode cX11_slopes 8 = .ok (.ifCond .eq 15, 3) := by decide +kernel
theorem dX11_slopes_11 : decode cX11_slopes 11 = .ok (.iload 5, 2) := by decide +kernel
theorem dX11_slopes_13 : decode cX11_slopes 13 = .ok (.ifCond .lt 10, 3) := by decide +kernel
theorem dX11_slopes_16 : decode cX11_slopes 16 = .ok (.iload 5, 2) := by decide +kernel
theorem dX11_slopes_18 : decode cX11_slopes 18 = .ok (.iload 4, 2) := by decide +kernel
theorem dX11_slopes_20 : decode cX11_slopes 20 = .ok (.if_icmp .lt 5, 3) := by decide +kernel
theorem dX11_slopes_23 : decode cX11_slopes 23 = .ok (.iconst (-1), 1) := by decide +kernel
theorem dX11_slopes_24 : decode cX11_slopes 24 = .ok (.ireturn, 1) := by decide +kernel
theorem dX11_slopes_25 : decode cX11_slopes 25 = .ok (.aload_n 0, 1) := by decide +kernel
theorem dX11_slopes_26 : decode cX11_slopes 26 = .ok (.iload_n 1, 1) := by decide +kernel
theorem dX11_slopes_27 : decode cX11_slopes 27 = .ok (.iload_n 2, 1) := by decide +kernel
theorem dX11_slopes_28 : decode cX11_slopes 28 = .ok (.imul, 1) := by decide +kernel
theorem dX11_slopes_29 : decode cX11_slopes 29 = .ok (.iload_n 3, 1) := by decide +kernel
theorem dX11_slopes_30 : decode cX11_slopes 30 = .ok (.iload_n 1, 1) := by decide +kernel
theorem dX11_slopes_31 : decode cX11_slopes 31 = .ok (.iload 4, 2) := by decide +kernel
theorem dX11_slopes_33 : decode cX11_slopes 33 = .ok (.iload 5, 2) := by decide +kernel
theorem dX11_slopes_35 : decode cX11_slopes 35 = .ok (.invokestatic 262, 3) := by decide +kernel
theorem dX11_slopes_38 : decode cX11_slopes 38 = .ok (.imul, 1) := by decide +kernel
theorem dX11_slopes_39 : decode cX11_slopes 39 = .ok (.iadd, 1) := by decide +kernel
theorem dX11_slopes_40 : decode cX11_slopes 40 = .ok (.invokevirtual 266, 3) := by decide +kernel
theorem dX11_slopes_43 : decode cX11_slopes 43 = .ok (.ireturn, 1) := by decide +kernel
theorem dX11_hum_0 : decode cX11_hum 0 = .ok (.iload_n 1, 1) := by decide +kernel
theorem dX11_hum_1 : decode cX11_hum 1 = .ok (.iload_n 2, 1) := by decide +kernel
theorem dX11_hum_2 : decode cX11_hum 2 = .ok (.iload_n 3, 1) := by decide +kernel
theorem dX11_hum_3 : decode cX11_hum 3 = .ok (.iload 4, 2) := by decide +kernel
theorem dX11_hum_5 : decode cX11_hum 5 = .ok (.invokestatic 258, 3) := by decide +kernel
theorem dX11_hum_8 : decode cX11_hum 8 = .ok (.ifCond .ne 5, 3) := by decide +kernel
theorem dX11_hum_11 : decode cX11_hum 11 = .ok (.iconst (-1), 1) := by decide +kernel
theorem dX11_hum_12 : decode cX11_hum 12 = .ok (.ireturn, 1) := by decide +kernel
theorem dX11_hum_13 : decode cX11_hum 13 = .ok (.sipush 1000, 3) := by decide +kernel
theorem dX11_hum_16 : decode cX11_hum 16 = .ok (.istore 5, 2) := by decide +kernel
theorem dX11_hum_18 : decode cX11_hum 18 = .ok (.iconst 0, 1) := by decide +kernel
theorem dX11_hum_19 : decode cX11_hum 19 = .ok (.istore 6, 2) := by decide +kernel
theorem dX11_hum_21 : decode cX11_hum 21 = .ok (.iconst 0, 1) := by decide +kernel
theorem dX11_hum_22 : decode cX11_hum 22 = .ok (.istore 7, 2) := by decide +kernel
theorem dX11_hum_24 : decode cX11_hum 24 = .ok (.iload 7, 2) := by decide +kernel
theorem dX11_hum_26 : decode cX11_hum 26 = .ok (.iload 4, 2) := by decide +kernel
theorem dX11_hum_28 : decode cX11_hum 28 = .ok (.if_icmp .ge 47, 3) := by decide +kernel
theorem dX11_hum_31 : decode cX11_hum 31 = .ok (.aload_n 0, 1) := by decide +kernel
theorem dX11_hum_32 : decode cX11_hum 32 = .ok (.iload_n 1, 1) := by decide +kernel
theorem dX11_hum_33 : decode cX11_hum 33 = .ok (.iload_n 2, 1) := by decide +kernel
theorem dX11_hum_34 : decode cX11_hum 34 = .ok (.imul, 1) := by decide +kernel
theorem dX11_hum_35 : decode cX11_hum 35 = .ok (.iload_n 3, 1) := by decide +kernel
theorem dX11_hum_36 : decode cX11_hum 36 = .ok (.iload_n 1, 1) := by decide +kernel
theorem dX11_hum_37 : decode cX11_hum 37 = .ok (.iload 4, 2) := by decide +kernel
theorem dX11_hum_39 : decode cX11_hum 39 = .ok (.iload 7, 2) := by decide +kernel
theorem dX11_hum_41 : decode cX11_hum 41 = .ok (.invokestatic 262, 3) := by decide +kernel
theorem dX11_hum_44 : decode cX11_hum 44 = .ok (.imul, 1) := by decide +kernel
theorem dX11_hum_45 : decode cX11_hum 45 = .ok (.iadd, 1) := by decide +kernel
theorem dX11_hum_46 : decode cX11_hum 46 = .ok (.invokevirtual 266, 3) := by decide +kernel
theorem dX11_hum_49 : decode cX11_hum 49 = .ok (.istore 8, 2) := by decide +kernel
theorem dX11_hum_51 : decode cX11_hum 51 = .ok (.iload 5, 2) := by decide +kernel
theorem dX11_hum_53 : decode cX11_hum 53 = .ok (.iload 8, 2) := by decide +kernel
theorem dX11_hum_55 : decode cX11_hum 55 = .ok (.invokestatic 269, 3) := by decide +kernel
theorem dX11_hum_58 : decode cX11_hum 58 = .ok (.istore 5, 2) := by decide +kernel
theorem dX11_hum_60 : decode cX11_hum 60 = .ok (.iload 6, 2) := by decide +kernel
theorem dX11_hum_62 : decode cX11_hum 62 = .ok (.iload 8, 2) := by decide +kernel
theorem dX11_hum_64 : decode cX11_hum 64 = .ok (.invokestatic 274, 3) := by decide +kernel
theorem dX11_hum_67 : decode cX11_hum 67 = .ok (.istore 6, 2) := by decide +kernel
theorem dX11_hum_69 : decode cX11_hum 69 = .ok (.iinc 7 1, 3) := by decide +kernel
theorem dX11_hum_72 : decode cX11_hum 72 = .ok (.goto (-48), 3) := by decide +kernel
theorem dX11_hum_75 : decode cX11_hum 75 = .ok (.iload 6, 2) := by decide +kernel
theorem dX11_hum_77 : decode cX11_hum 77 = .ok (.iload 5, 2) := by decide +kernel
theorem dX11_hum_79 : decode cX11_hum 79 = .ok (.isub, 1) := by decide +kernel
theorem dX11_hum_80 : decode cX11_hum 80 = .ok (.ireturn, 1) := by decide +kernel
theorem dX11_isSlope_0 : decode cX11_isSlope 0 = .ok (.iload_n 0, 1) := by decide +kernel
theorem dX11_isSlope_1 : decode cX11_isSlope 1 = .ok (.iconst 1, 1) := by decide +kernel
theorem dX11_isSlope_2 : decode cX11_isSlope 2 = .ok (.if_icmp .lt 52, 3) := by decide +kernel
theorem dX11_isSlope_5 : decode cX11_isSlope 5 = .ok (.iload_n 0, 1) := by decide +kernel
theorem dX11_isSlope_6 : decode cX11_isSlope 6 = .ok (.sipush 400, 3) := by decide +kernel
theorem dX11_isSlope_9 : decode cX11_isSlope 9 = .ok (.if_icmp .gt 45, 3) := by decide +kernel
theorem dX11_isSlope_12 : decode cX11_isSlope 12 = .ok (.iload_n 1, 1) := by decide +kernel
theorem dX11_isSlope_13 : decode cX11_isSlope 13 = .ok (.ifCond .lt 41, 3) := by decide +kernel
theorem dX11_isSlope_16 : decode cX11_isSlope 16 = .ok (.iload_n 1, 1) := by decide +kernel
theorem dX11_isSlope_17 : decode cX11_isSlope 17 = .ok (.sipush 999, 3) := by decide +kernel
theorem dX11_isSlope_20 : decode cX11_isSlope 20 = .ok (.if_icmp .gt 34, 3) := by decide +kernel
theorem dX11_isSlope_23 : decode cX11_isSlope 23 = .ok (.iload_n 2, 1) := by decide +kernel
theorem dX11_isSlope_24 : decode cX11_isSlope 24 = .ok (.ifCond .lt 30, 3) := by decide +kernel
theorem dX11_isSlope_27 : decode cX11_isSlope 27 = .ok (.iload_n 2, 1) := by decide +kernel
theorem dX11_isSlope_28 : decode cX11_isSlope 28 = .ok (.bipush 99, 2) := by decide +kernel
theorem dX11_isSlope_30 : decode cX11_isSlope 30 = .ok (.if_icmp .gt 24, 3) := by decide +kernel
theorem dX11_isSlope_33 : decode cX11_isSlope 33 = .ok (.iload_n 3, 1) := by decide +kernel
theorem dX11_isSlope_34 : decode cX11_isSlope 34 = .ok (.iconst 2, 1) := by decide +kernel
theorem dX11_isSlope_35 : decode cX11_isSlope 35 = .ok (.if_icmp .lt 19, 3) := by decide +kernel
theorem dX11_isSlope_38 : decode cX11_isSlope 38 = .ok (.iload_n 3, 1) := by decide +kernel
theorem dX11_isSlope_39 : decode cX11_isSlope 39 = .ok (.bipush 40, 2) := by decide +kernel
theorem dX11_isSlope_41 : decode cX11_isSlope 41 = .ok (.if_icmp .gt 13, 3) := by decide +kernel
theorem dX11_isSlope_44 : decode cX11_isSlope 44 = .ok (.iload_n 3, 1) := by decide +kernel
theorem dX11_isSlope_45 : decode cX11_isSlope 45 = .ok (.iconst 2, 1) := by decide +kernel
theorem dX11_isSlope_46 : decode cX11_isSlope 46 = .ok (.irem, 1) := by decide +kernel
theorem dX11_isSlope_47 : decode cX11_isSlope 47 = .ok (.ifCond .ne 7, 3) := by decide +kernel
theorem dX11_isSlope_50 : decode cX11_isSlope 50 = .ok (.iconst 1, 1) := by decide +kernel
theorem dX11_isSlope_51 : decode cX11_isSlope 51 = .ok (.goto 4, 3) := by decide +kernel
theorem dX11_isSlope_54 : decode cX11_isSlope 54 = .ok (.iconst 0, 1) := by decide +kernel
theorem dX11_isSlope_55 : decode cX11_isSlope 55 = .ok (.ireturn, 1) := by decide +kernel
theorem dX11_humBalance_0 : decode cX11_humBalance 0 = .ok (.iload_n 1, 1) := by decide +kernel
theorem dX11_humBalance_1 : decode cX11_humBalance 1 = .ok (.ifCond .gt 5, 3) := by decide +kernel
theorem dX11_humBalance_4 : decode cX11_humBalance 4 = .ok (.iconst 0, 1) := by decide +kernel
theorem dX11_humBalance_5 : decode cX11_humBalance 5 = .ok (.ireturn, 1) := by decide +kernel
theorem dX11_humBalance_6 : decode cX11_humBalance 6 = .ok (.iload_n 0, 1) := by decide +kernel
theorem dX11_humBalance_7 : decode cX11_humBalance 7 = .ok (.iload_n 1, 1) := by decide +kernel
theorem dX11_humBalance_8 : decode cX11_humBalance 8 = .ok (.irem, 1) := by decide +kernel
theorem dX11_humBalance_9 : decode cX11_humBalance 9 = .ok (.istore_n 3, 1) := by decide +kernel
theorem dX11_humBalance_10 : decode cX11_humBalance 10 = .ok (.iconst 0, 1) := by decide +kernel
theorem dX11_humBalance_11 : decode cX11_humBalance 11 = .ok (.istore 4, 2) := by decide +kernel
theorem dX11_humBalance_13 : decode cX11_humBalance 13 = .ok (.iconst 0, 1) := by decide +kernel
theorem dX11_humBalance_14 : decode cX11_humBalance 14 = .ok (.istore 5, 2) := by decide +kernel
theorem dX11_humBalance_16 : decode cX11_humBalance 16 = .ok (.iload 5, 2) := by decide +kernel
theorem dX11_humBalance_18 : decode cX11_humBalance 18 = .ok (.iload_n 3, 1) := by decide +kernel
theorem dX11_humBalance_19 : decode cX11_humBalance 19 = .ok (.if_icmp .ge 31, 3) := by decide +kernel
theorem dX11_humBalance_22 : decode cX11_humBalance 22 = .ok (.iload 4, 2) := by decide +kernel
theorem dX11_humBalance_24 : decode cX11_humBalance 24 = .ok (.iload_n 2, 1) := by decide +kernel
theorem dX11_humBalance_25 : decode cX11_humBalance 25 = .ok (.iload 5, 2) := by decide +kernel
theorem dX11_humBalance_27 : decode cX11_humBalance 27 = .ok (.iadd, 1) := by decide +kernel
theorem dX11_humBalance_28 : decode cX11_humBalance 28 = .ok (.iload_n 1, 1) := by decide +kernel
theorem dX11_humBalance_29 : decode cX11_humBalance 29 = .ok (.irem, 1) := by decide +kernel
theorem dX11_humBalance_30 : decode cX11_humBalance 30 = .ok (.iload_n 1, 1) := by decide +kernel
theorem dX11_humBalance_31 : decode cX11_humBalance 31 = .ok (.iconst 2, 1) := by decide +kernel
theorem dX11_humBalance_32 : decode cX11_humBalance 32 = .ok (.idiv, 1) := by decide +kernel
theorem dX11_humBalance_33 : decode cX11_humBalance 33 = .ok (.if_icmp .ge 7, 3) := by decide +kernel
theorem dX11_humBalance_36 : decode cX11_humBalance 36 = .ok (.iconst 1, 1) := by decide +kernel
theorem dX11_humBalance_37 : decode cX11_humBalance 37 = .ok (.goto 4, 3) := by decide +kernel
theorem dX11_humBalance_40 : decode cX11_humBalance 40 = .ok (.iconst (-1), 1) := by decide +kernel
theorem dX11_humBalance_41 : decode cX11_humBalance 41 = .ok (.iadd, 1) := by decide +kernel
theorem dX11_humBalance_42 : decode cX11_humBalance 42 = .ok (.istore 4, 2) := by decide +kernel
theorem dX11_humBalance_44 : decode cX11_humBalance 44 = .ok (.iinc 5 1, 3) := by decide +kernel
theorem dX11_humBalance_47 : decode cX11_humBalance 47 = .ok (.goto (-31), 3) := by decide +kernel
theorem dX11_humBalance_50 : decode cX11_humBalance 50 = .ok (.iload 4, 2) := by decide +kernel
theorem dX11_humBalance_52 : decode cX11_humBalance 52 = .ok (.ireturn, 1) := by decide +kernel
theorem dX11_ticksDown_0 : decode cX11_ticksDown 0 = .ok (.iload_n 1, 1) := by decide +kernel
theorem dX11_ticksDown_1 : decode cX11_ticksDown 1 = .ok (.ifCond .gt 5, 3) := by decide +kernel
theorem dX11_ticksDown_4 : decode cX11_ticksDown 4 = .ok (.iconst 0, 1) := by decide +kernel
theorem dX11_ticksDown_5 : decode cX11_ticksDown 5 = .ok (.ireturn, 1) := by decide +kernel
theorem dX11_ticksDown_6 : decode cX11_ticksDown 6 = .ok (.sipush 1000, 3) := by decide +kernel
theorem dX11_ticksDown_9 : decode cX11_ticksDown 9 = .ok (.iload_n 1, 1) := by decide +kernel
theorem dX11_ticksDown_10 : decode cX11_ticksDown 10 = .ok (.aload_n 0, 1) := by decide +kernel
theorem dX11_ticksDown_11 : decode cX11_ticksDown 11 = .ok (.getfield 10, 3) := by decide +kernel
theorem dX11_ticksDown_14 : decode cX11_ticksDown 14 = .ok (.getfield 132, 3) := by decide +kernel
theorem dX11_ticksDown_17 : decode cX11_ticksDown 17 = .ok (.invokestatic 277, 3) := by decide +kernel
theorem dX11_ticksDown_20 : decode cX11_ticksDown 20 = .ok (.invokestatic 269, 3) := by decide +kernel
theorem dX11_ticksDown_23 : decode cX11_ticksDown 23 = .ok (.ireturn, 1) := by decide +kernel
theorem dX11_kept_0 : decode cX11_kept 0 = .ok (.iload_n 1, 1) := by decide +kernel
theorem dX11_kept_1 : decode cX11_kept 1 = .ok (.iload_n 2, 1) := by decide +kernel
theorem dX11_kept_2 : decode cX11_kept 2 = .ok (.invokestatic 280, 3) := by decide +kernel
theorem dX11_kept_5 : decode cX11_kept 5 = .ok (.ifCond .eq 27, 3) := by decide +kernel
theorem dX11_kept_8 : decode cX11_kept 8 = .ok (.iload_n 3, 1) := by decide +kernel
theorem dX11_kept_9 : decode cX11_kept 9 = .ok (.ifCond .lt 23, 3) := by decide +kernel
theorem dX11_kept_12 : decode cX11_kept 12 = .ok (.iload_n 3, 1) := by decide +kernel
theorem dX11_kept_13 : decode cX11_kept 13 = .ok (.sipush 400, 3) := by decide +kernel
theorem dX11_kept_16 : decode cX11_kept 16 = .ok (.if_icmp .gt 16, 3) := by decide +kernel
theorem dX11_kept_19 : decode cX11_kept 19 = .ok (.iload 4, 2) := by decide +kernel
theorem dX11_kept_21 : decode cX11_kept 21 = .ok (.iconst 1, 1) := by decide +kernel
theorem dX11_kept_22 : decode cX11_kept 22 = .ok (.if_icmp .lt 10, 3) := by decide +kernel
theorem dX11_kept_25 : decode cX11_kept 25 = .ok (.iload 4, 2) := by decide +kernel
theorem dX11_kept_27 : decode cX11_kept 27 = .ok (.bipush 30, 2) := by decide +kernel
theorem dX11_kept_29 : decode cX11_kept 29 = .ok (.if_icmp .le 5, 3) := by decide +kernel
theorem dX11_kept_32 : decode cX11_kept 32 = .ok (.iconst (-1), 1) := by decide +kernel
theorem dX11_kept_33 : decode cX11_kept 33 = .ok (.ireturn, 1) := by decide +kernel
theorem dX11_kept_34 : decode cX11_kept 34 = .ok (.aload_n 0, 1) := by decide +kernel
theorem dX11_kept_35 : decode cX11_kept 35 = .ok (.getfield 61, 3) := by decide +kernel
theorem dX11_kept_38 : decode cX11_kept 38 = .ok (.iload_n 1, 1) := by decide +kernel
theorem dX11_kept_39 : decode cX11_kept 39 = .ok (.iload_n 2, 1) := by decide +kernel
theorem dX11_kept_40 : decode cX11_kept 40 = .ok (.aload_n 0, 1) := by decide +kernel
theorem dX11_kept_41 : decode cX11_kept 41 = .ok (.getfield 10, 3) := by decide +kernel
theorem dX11_kept_44 : decode cX11_kept 44 = .ok (.getfield 132, 3) := by decide +kernel
theorem dX11_kept_47 : decode cX11_kept 47 = .ok (.invokevirtual 284, 3) := by decide +kernel
theorem dX11_kept_50 : decode cX11_kept 50 = .ok (.aload_n 0, 1) := by decide +kernel
theorem dX11_kept_51 : decode cX11_kept 51 = .ok (.getfield 61, 3) := by decide +kernel
theorem dX11_kept_54 : decode cX11_kept 54 = .ok (.iload_n 3, 1) := by decide +kernel
theorem dX11_kept_55 : decode cX11_kept 55 = .ok (.invokevirtual 288, 3) := by decide +kernel
theorem dX11_kept_58 : decode cX11_kept 58 = .ok (.pop, 1) := by decide +kernel
theorem dX11_kept_59 : decode cX11_kept 59 = .ok (.iconst 0, 1) := by decide +kernel
theorem dX11_kept_60 : decode cX11_kept 60 = .ok (.istore 5, 2) := by decide +kernel
theorem dX11_kept_62 : decode cX11_kept 62 = .ok (.iconst 0, 1) := by decide +kernel
theorem dX11_kept_63 : decode cX11_kept 63 = .ok (.istore 6, 2) := by decide +kernel
theorem dX11_kept_65 : decode cX11_kept 65 = .ok (.iload 6, 2) := by decide +kernel
theorem dX11_kept_67 : decode cX11_kept 67 = .ok (.iload 4, 2) := by decide +kernel
theorem dX11_kept_69 : decode cX11_kept 69 = .ok (.if_icmp .ge 31, 3) := by decide +kernel
theorem dX11_kept_72 : decode cX11_kept 72 = .ok (.aload_n 0, 1) := by decide +kernel
theorem dX11_kept_73 : decode cX11_kept 73 = .ok (.getfield 61, 3) := by decide +kernel
theorem dX11_kept_76 : decode cX11_kept 76 = .ok (.invokevirtual 291, 3) := by decide +kernel
theorem dX11_kept_79 : decode cX11_kept 79 = .ok (.iload 5, 2) := by decide +kernel
theorem dX11_kept_81 : decode cX11_kept 81 = .ok (.aload_n 0, 1) := by decide +kernel
theorem dX11_kept_82 : decode cX11_kept 82 = .ok (.getfield 61, 3) := by decide +kernel
theorem dX11_kept_85 : decode cX11_kept 85 = .ok (.getfield 294, 3) := by decide +kernel
theorem dX11_kept_88 : decode cX11_kept 88 = .ok (.iload 6, 2) := by decide +kernel
theorem dX11_kept_90 : decode cX11_kept 90 = .ok (.ishl, 1) := by decide +kernel
theorem dX11_kept_91 : decode cX11_kept 91 = .ok (.ior, 1) := by decide +kernel
theorem dX11_kept_92 : decode cX11_kept 92 = .ok (.istore 5, 2) := by decide +kernel
theorem dX11_kept_94 : decode cX11_kept 94 = .ok (.iinc 6 1, 3) := by decide +kernel
theorem dX11_kept_97 : decode cX11_kept 97 = .ok (.goto (-32), 3) := by decide +kernel
theorem dX11_kept_100 : decode cX11_kept 100 = .ok (.iload 5, 2) := by decide +kernel
theorem dX11_kept_102 : decode cX11_kept 102 = .ok (.ireturn, 1) := by decide +kernel
theorem dX11_ones_0 : decode cX11_ones 0 = .ok (.iload_n 1, 1) := by decide +kernel
theorem dX11_ones_1 : decode cX11_ones 1 = .ok (.iload_n 2, 1) := by decide +kernel
theorem dX11_ones_2 : decode cX11_ones 2 = .ok (.invokestatic 280, 3) := by decide +kernel
theorem dX11_ones_5 : decode cX11_ones 5 = .ok (.ifCond .eq 15, 3) := by decide +kernel
theorem dX11_ones_8 : decode cX11_ones 8 = .ok (.iload_n 3, 1) := by decide +kernel
theorem dX11_ones_9 : decode cX11_ones 9 = .ok (.iconst 1, 1) := by decide +kernel
theorem dX11_ones_10 : decode cX11_ones 10 = .ok (.if_icmp .lt 10, 3) := by decide +kernel
theorem dX11_ones_13 : decode cX11_ones 13 = .ok (.iload_n 3, 1) := by decide +kernel
theorem dX11_ones_14 : decode cX11_ones 14 = .ok (.sipush 400, 3) := by decide +kernel
theorem dX11_ones_17 : decode cX11_ones 17 = .ok (.if_icmp .le 5, 3) := by decide +kernel
theorem dX11_ones_20 : decode cX11_ones 20 = .ok (.iconst (-1), 1) := by decide +kernel
theorem dX11_ones_21 : decode cX11_ones 21 = .ok (.ireturn, 1) := by decide +kernel
theorem dX11_ones_22 : decode cX11_ones 22 = .ok (.aload_n 0, 1) := by decide +kernel
theorem dX11_ones_23 : decode cX11_ones 23 = .ok (.getfield 61, 3) := by decide +kernel
theorem dX11_ones_26 : decode cX11_ones 26 = .ok (.iload_n 1, 1) := by decide +kernel
theorem dX11_ones_27 : decode cX11_ones 27 = .ok (.iload_n 2, 1) := by decide +kernel
theorem dX11_ones_28 : decode cX11_ones 28 = .ok (.aload_n 0, 1) := by decide +kernel
theorem dX11_ones_29 : decode cX11_ones 29 = .ok (.getfield 10, 3) := by decide +kernel
theorem dX11_ones_32 : decode cX11_ones 32 = .ok (.getfield 132, 3) := by decide +kernel
theorem dX11_ones_35 : decode cX11_ones 35 = .ok (.invokevirtual 284, 3) := by decide +kernel
theorem dX11_ones_38 : decode cX11_ones 38 = .ok (.aload_n 0, 1) := by decide +kernel
theorem dX11_ones_39 : decode cX11_ones 39 = .ok (.getfield 61, 3) := by decide +kernel
theorem dX11_ones_42 : decode cX11_ones 42 = .ok (.iload_n 3, 1) := by decide +kernel
theorem dX11_ones_43 : decode cX11_ones 43 = .ok (.invokevirtual 288, 3) := by decide +kernel
theorem dX11_ones_46 : decode cX11_ones 46 = .ok (.ireturn, 1) := by decide +kernel
theorem dX11_round_0 : decode cX11_round 0 = .ok (.iload_n 1, 1) := by decide +kernel
theorem dX11_round_1 : decode cX11_round 1 = .ok (.iload_n 2, 1) := by decide +kernel
theorem dX11_round_2 : decode cX11_round 2 = .ok (.invokestatic 280, 3) := by decide +kernel
theorem dX11_round_5 : decode cX11_round 5 = .ok (.ifCond .eq 12, 3) := by decide +kernel
theorem dX11_round_8 : decode cX11_round 8 = .ok (.iload_n 3, 1) := by decide +kernel
theorem dX11_round_9 : decode cX11_round 9 = .ok (.ifCond .lt 8, 3) := by decide +kernel
theorem dX11_round_12 : decode cX11_round 12 = .ok (.iload_n 3, 1) := by decide +kernel
theorem dX11_round_13 : decode cX11_round 13 = .ok (.iconst 2, 1) := by decide +kernel
theorem dX11_round_14 : decode cX11_round 14 = .ok (.if_icmp .le 5, 3) := by decide +kernel
theorem dX11_round_17 : decode cX11_round 17 = .ok (.iconst (-1), 1) := by decide +kernel
theorem dX11_round_18 : decode cX11_round 18 = .ok (.ireturn, 1) := by decide +kernel
theorem dX11_round_19 : decode cX11_round 19 = .ok (.aload_n 0, 1) := by decide +kernel
theorem dX11_round_20 : decode cX11_round 20 = .ok (.iload_n 1, 1) := by decide +kernel
theorem dX11_round_21 : decode cX11_round 21 = .ok (.iload_n 2, 1) := by decide +kernel
theorem dX11_round_22 : decode cX11_round 22 = .ok (.invokevirtual 297, 3) := by decide +kernel
theorem dX11_round_25 : decode cX11_round 25 = .ok (.istore 4, 2) := by decide +kernel
theorem dX11_round_27 : decode cX11_round 27 = .ok (.iload 4, 2) := by decide +kernel
theorem dX11_round_29 : decode cX11_round 29 = .ok (.bipush (-4), 2) := by decide +kernel
theorem dX11_round_31 : decode cX11_round 31 = .ok (.if_icmp .eq 8, 3) := by decide +kernel
theorem dX11_round_34 : decode cX11_round 34 = .ok (.iload_n 3, 1) := by decide +kernel
theorem dX11_round_35 : decode cX11_round 35 = .ok (.iconst 1, 1) := by decide +kernel
theorem dX11_round_36 : decode cX11_round 36 = .ok (.if_icmp .ne 6, 3) := by decide +kernel
theorem dX11_round_39 : decode cX11_round 39 = .ok (.iload 4, 2) := by decide +kernel
theorem dX11_round_41 : decode cX11_round 41 = .ok (.ireturn, 1) := by decide +kernel
theorem dX11_round_42 : decode cX11_round 42 = .ok (.aload_n 0, 1) := by decide +kernel
theorem dX11_round_43 : decode cX11_round 43 = .ok (.iload_n 1, 1) := by decide +kernel
theorem dX11_round_44 : decode cX11_round 44 = .ok (.iload_n 2, 1) := by decide +kernel
theorem dX11_round_45 : decode cX11_round 45 = .ok (.iload 4, 2) := by decide +kernel
theorem dX11_round_47 : decode cX11_round 47 = .ok (.invokevirtual 300, 3) := by decide +kernel
theorem dX11_round_50 : decode cX11_round 50 = .ok (.istore 5, 2) := by decide +kernel
theorem dX11_round_52 : decode cX11_round 52 = .ok (.iload_n 3, 1) := by decide +kernel
theorem dX11_round_53 : decode cX11_round 53 = .ok (.ifCond .ne 8, 3) := by decide +kernel
theorem dX11_round_56 : decode cX11_round 56 = .ok (.iload 5, 2) := by decide +kernel
theorem dX11_round_58 : decode cX11_round 58 = .ok (.goto 12, 3) := by decide +kernel
theorem dX11_round_61 : decode cX11_round 61 = .ok (.aload_n 0, 1) := by decide +kernel
theorem dX11_round_62 : decode cX11_round 62 = .ok (.getfield 61, 3) := by decide +kernel
theorem dX11_round_65 : decode cX11_round 65 = .ok (.iload 4, 2) := by decide +kernel
theorem dX11_round_67 : decode cX11_round 67 = .ok (.invokevirtual 288, 3) := by decide +kernel
theorem dX11_round_70 : decode cX11_round 70 = .ok (.ireturn, 1) := by decide +kernel
theorem dX11_isKept_0 : decode cX11_isKept 0 = .ok (.iload_n 0, 1) := by decide +kernel
theorem dX11_isKept_1 : decode cX11_isKept 1 = .ok (.iconst 1, 1) := by decide +kernel
theorem dX11_isKept_2 : decode cX11_isKept 2 = .ok (.if_icmp .eq 8, 3) := by decide +kernel
theorem dX11_isKept_5 : decode cX11_isKept 5 = .ok (.iload_n 0, 1) := by decide +kernel
theorem dX11_isKept_6 : decode cX11_isKept 6 = .ok (.iconst 2, 1) := by decide +kernel
theorem dX11_isKept_7 : decode cX11_isKept 7 = .ok (.if_icmp .ne 21, 3) := by decide +kernel
theorem dX11_isKept_10 : decode cX11_isKept 10 = .ok (.iload_n 1, 1) := by decide +kernel
theorem dX11_isKept_11 : decode cX11_isKept 11 = .ok (.sipush (-999), 3) := by decide +kernel
theorem dX11_isKept_14 : decode cX11_isKept 14 = .ok (.if_icmp .lt 14, 3) := by decide +kernel
theorem dX11_isKept_17 : decode cX11_isKept 17 = .ok (.iload_n 1, 1) := by decide +kernel
theorem dX11_isKept_18 : decode cX11_isKept 18 = .ok (.sipush 999, 3) := by decide +kernel
theorem dX11_isKept_21 : decode cX11_isKept 21 = .ok (.if_icmp .gt 7, 3) := by decide +kernel
theorem dX11_isKept_24 : decode cX11_isKept 24 = .ok (.iconst 1, 1) := by decide +kernel
theorem dX11_isKept_25 : decode cX11_isKept 25 = .ok (.goto 4, 3) := by decide +kernel
theorem dX11_isKept_28 : decode cX11_isKept 28 = .ok (.iconst 0, 1) := by decide +kernel
theorem dX11_isKept_29 : decode cX11_isKept 29 = .ok (.ireturn, 1) := by decide +kernel
theorem dX11_roundLength_0 : decode cX11_roundLength 0 = .ok (.aload_n 0, 1) := by decide +kernel
theorem dX11_roundLength_1 : decode cX11_roundLength 1 = .ok (.getfield 65, 3) := by decide +kernel
theorem dX11_roundLength_4 : decode cX11_roundLength 4 = .ok (.iload_n 1, 1) := by decide +kernel
theorem dX11_roundLength_5 : decode cX11_roundLength 5 = .ok (.iload_n 2, 1) := by decide +kernel
theorem dX11_roundLength_6 : decode cX11_roundLength 6 = .ok (.aload_n 0, 1) := by decide +kernel
theorem dX11_roundLength_7 : decode cX11_roundLength 7 = .ok (.getfield 10, 3) := by decide +kernel
theorem dX11_roundLength_10 : decode cX11_roundLength 10 = .ok (.getfield 132, 3) := by decide +kernel
theorem dX11_roundLength_13 : decode cX11_roundLength 13 = .ok (.invokevirtual 284, 3) := by decide +kernel
theorem dX11_roundLength_16 : decode cX11_roundLength 16 = .ok (.aload_n 0, 1) := by decide +kernel
theorem dX11_roundLength_17 : decode cX11_roundLength 17 = .ok (.getfield 65, 3) := by decide +kernel
theorem dX11_roundLength_20 : decode cX11_roundLength 20 = .ok (.sipush 400, 3) := by decide +kernel
theorem dX11_roundLength_23 : decode cX11_roundLength 23 = .ok (.invokevirtual 288, 3) := by decide +kernel
theorem dX11_roundLength_26 : decode cX11_roundLength 26 = .ok (.pop, 1) := by decide +kernel
theorem dX11_roundLength_27 : decode cX11_roundLength 27 = .ok (.aload_n 0, 1) := by decide +kernel
theorem dX11_roundLength_28 : decode cX11_roundLength 28 = .ok (.getfield 61, 3) := by decide +kernel
theorem dX11_roundLength_31 : decode cX11_roundLength 31 = .ok (.iload_n 1, 1) := by decide +kernel
theorem dX11_roundLength_32 : decode cX11_roundLength 32 = .ok (.iload_n 2, 1) := by decide +kernel
theorem dX11_roundLength_33 : decode cX11_roundLength 33 = .ok (.aload_n 0, 1) := by decide +kernel
theorem dX11_roundLength_34 : decode cX11_roundLength 34 = .ok (.getfield 10, 3) := by decide +kernel
theorem dX11_roundLength_37 : decode cX11_roundLength 37 = .ok (.getfield 132, 3) := by decide +kernel
theorem dX11_roundLength_40 : decode cX11_roundLength 40 = .ok (.invokevirtual 284, 3) := by decide +kernel
theorem dX11_roundLength_43 : decode cX11_roundLength 43 = .ok (.bipush (-4), 2) := by decide +kernel
theorem dX11_roundLength_45 : decode cX11_roundLength 45 = .ok (.istore_n 3, 1) := by decide +kernel
theorem dX11_roundLength_46 : decode cX11_roundLength 46 = .ok (.iconst 0, 1) := by decide +kernel
theorem dX11_roundLength_47 : decode cX11_roundLength 47 = .ok (.istore 4, 2) := by decide +kernel
theorem dX11_roundLength_49 : decode cX11_roundLength 49 = .ok (.iload 4, 2) := by decide +kernel
theorem dX11_roundLength_51 : decode cX11_roundLength 51 = .ok (.sipush 400, 3) := by decide +kernel
theorem dX11_roundLength_54 : decode cX11_roundLength 54 = .ok (.if_icmp .ge 37, 3) := by decide +kernel
theorem dX11_roundLength_57 : decode cX11_roundLength 57 = .ok (.aload_n 0, 1) := by decide +kernel
theorem dX11_roundLength_58 : decode cX11_roundLength 58 = .ok (.getfield 61, 3) := by decide +kernel
theorem dX11_roundLength_61 : decode cX11_roundLength 61 = .ok (.aload_n 0, 1) := by decide +kernel
theorem dX11_roundLength_62 : decode cX11_roundLength 62 = .ok (.getfield 65, 3) := by decide +kernel
theorem dX11_roundLength_65 : decode cX11_roundLength 65 = .ok (.invokevirtual 303, 3) := by decide +kernel
theorem dX11_roundLength_68 : decode cX11_roundLength 68 = .ok (.ifCond .eq 10, 3) := by decide +kernel
theorem dX11_roundLength_71 : decode cX11_roundLength 71 = .ok (.sipush 400, 3) := by decide +kernel
theorem dX11_roundLength_74 : decode cX11_roundLength 74 = .ok (.iload 4, 2) := by decide +kernel
theorem dX11_roundLength_76 : decode cX11_roundLength 76 = .ok (.isub, 1) := by decide +kernel
theorem dX11_roundLength_77 : decode cX11_roundLength 77 = .ok (.istore_n 3, 1) := by decide +kernel
theorem dX11_roundLength_78 : decode cX11_roundLength 78 = .ok (.aload_n 0, 1) := by decide +kernel
theorem dX11_roundLength_79 : decode cX11_roundLength 79 = .ok (.getfield 61, 3) := by decide +kernel
theorem dX11_roundLength_82 : decode cX11_roundLength 82 = .ok (.invokevirtual 291, 3) := by decide +kernel
theorem dX11_roundLength_85 : decode cX11_roundLength 85 = .ok (.iinc 4 1, 3) := by decide +kernel
theorem dX11_roundLength_88 : decode cX11_roundLength 88 = .ok (.goto (-39), 3) := by decide +kernel
theorem dX11_roundLength_91 : decode cX11_roundLength 91 = .ok (.iload_n 3, 1) := by decide +kernel
theorem dX11_roundLength_92 : decode cX11_roundLength 92 = .ok (.ireturn, 1) := by decide +kernel
theorem dX11_enterRound_0 : decode cX11_enterRound 0 = .ok (.aload_n 0, 1) := by decide +kernel
theorem dX11_enterRound_1 : decode cX11_enterRound 1 = .ok (.getfield 65, 3) := by decide +kernel
theorem dX11_enterRound_4 : decode cX11_enterRound 4 = .ok (.iload_n 1, 1) := by decide +kernel
theorem dX11_enterRound_5 : decode cX11_enterRound 5 = .ok (.iload_n 2, 1) := by decide +kernel
theorem dX11_enterRound_6 : decode cX11_enterRound 6 = .ok (.aload_n 0, 1) := by decide +kernel
theorem dX11_enterRound_7 : decode cX11_enterRound 7 = .ok (.getfield 10, 3) := by decide +kernel
theorem dX11_enterRound_10 : decode cX11_enterRound 10 = .ok (.getfield 132, 3) := by decide +kernel
theorem dX11_enterRound_13 : decode cX11_enterRound 13 = .ok (.invokevirtual 284, 3) := by decide +kernel
theorem dX11_enterRound_16 : decode cX11_enterRound 16 = .ok (.aload_n 0, 1) := by decide +kernel
theorem dX11_enterRound_17 : decode cX11_enterRound 17 = .ok (.getfield 65, 3) := by decide +kernel
theorem dX11_enterRound_20 : decode cX11_enterRound 20 = .ok (.iload_n 3, 1) := by decide +kernel
theorem dX11_enterRound_21 : decode cX11_enterRound 21 = .ok (.invokevirtual 288, 3) := by decide +kernel
theorem dX11_enterRound_24 : decode cX11_enterRound 24 = .ok (.pop, 1) := by decide +kernel
theorem dX11_enterRound_25 : decode cX11_enterRound 25 = .ok (.aload_n 0, 1) := by decide +kernel
theorem dX11_enterRound_26 : decode cX11_enterRound 26 = .ok (.getfield 61, 3) := by decide +kernel
theorem dX11_enterRound_29 : decode cX11_enterRound 29 = .ok (.iload_n 1, 1) := by decide +kernel
theorem dX11_enterRound_30 : decode cX11_enterRound 30 = .ok (.iload_n 2, 1) := by decide +kernel
theorem dX11_enterRound_31 : decode cX11_enterRound 31 = .ok (.aload_n 0, 1) := by decide +kernel
theorem dX11_enterRound_32 : decode cX11_enterRound 32 = .ok (.getfield 10, 3) := by decide +kernel
theorem dX11_enterRound_35 : decode cX11_enterRound 35 = .ok (.getfield 132, 3) := by decide +kernel
theorem dX11_enterRound_38 : decode cX11_enterRound 38 = .ok (.invokevirtual 284, 3) := by decide +kernel
theorem dX11_enterRound_41 : decode cX11_enterRound 41 = .ok (.iconst 0, 1) := by decide +kernel
theorem dX11_enterRound_42 : decode cX11_enterRound 42 = .ok (.istore 4, 2) := by decide +kernel
theorem dX11_enterRound_44 : decode cX11_enterRound 44 = .ok (.iload 4, 2) := by decide +kernel
theorem dX11_enterRound_46 : decode cX11_enterRound 46 = .ok (.sipush 400, 3) := by decide +kernel
theorem dX11_enterRound_49 : decode cX11_enterRound 49 = .ok (.if_icmp .ge 37, 3) := by decide +kernel
theorem dX11_enterRound_52 : decode cX11_enterRound 52 = .ok (.aload_n 0, 1) := by decide +kernel
theorem dX11_enterRound_53 : decode cX11_enterRound 53 = .ok (.getfield 61, 3) := by decide +kernel
theorem dX11_enterRound_56 : decode cX11_enterRound 56 = .ok (.aload_n 0, 1) := by decide +kernel
theorem dX11_enterRound_57 : decode cX11_enterRound 57 = .ok (.getfield 65, 3) := by decide +kernel
theorem dX11_enterRound_60 : decode cX11_enterRound 60 = .ok (.invokevirtual 303, 3) := by decide +kernel
theorem dX11_enterRound_63 : decode cX11_enterRound 63 = .ok (.ifCond .ne 23, 3) := by decide +kernel
theorem dX11_enterRound_66 : decode cX11_enterRound 66 = .ok (.aload_n 0, 1) := by decide +kernel
theorem dX11_enterRound_67 : decode cX11_enterRound 67 = .ok (.getfield 61, 3) := by decide +kernel
theorem dX11_enterRound_70 : decode cX11_enterRound 70 = .ok (.invokevirtual 291, 3) := by decide +kernel
theorem dX11_enterRound_73 : decode cX11_enterRound 73 = .ok (.aload_n 0, 1) := by decide +kernel
theorem dX11_enterRound_74 : decode cX11_enterRound 74 = .ok (.getfield 65, 3) := by decide +kernel
theorem dX11_enterRound_77 : decode cX11_enterRound 77 = .ok (.invokevirtual 291, 3) := by decide +kernel
theorem dX11_enterRound_80 : decode cX11_enterRound 80 = .ok (.iinc 4 1, 3) := by decide +kernel
theorem dX11_enterRound_83 : decode cX11_enterRound 83 = .ok (.goto (-39), 3) := by decide +kernel
theorem dX11_enterRound_86 : decode cX11_enterRound 86 = .ok (.iload 4, 2) := by decide +kernel
theorem dX11_enterRound_88 : decode cX11_enterRound 88 = .ok (.ireturn, 1) := by decide +kernel
theorem dX11_measure_0 : decode cX11_measure 0 = .ok (.aload_n 0, 1) := by decide +kernel
theorem dX11_measure_1 : decode cX11_measure 1 = .ok (.getfield 10, 3) := by decide +kernel
theorem dX11_measure_4 : decode cX11_measure 4 = .ok (.iload_n 1, 1) := by decide +kernel
theorem dX11_measure_5 : decode cX11_measure 5 = .ok (.invokevirtual 142, 3) := by decide +kernel
theorem dX11_measure_8 : decode cX11_measure 8 = .ok (.ifCond .eq 10, 3) := by decide +kernel
theorem dX11_measure_11 : decode cX11_measure 11 = .ok (.iload_n 2, 1) := by decide +kernel
theorem dX11_measure_12 : decode cX11_measure 12 = .ok (.invokestatic 199, 3) := by decide +kernel
theorem dX11_measure_15 : decode cX11_measure 15 = .ok (.ifCond .ne 5, 3) := by decide +kernel
theorem dX11_measure_18 : decode cX11_measure 18 = .ok (.iconst (-1), 1) := by decide +kernel
theorem dX11_measure_19 : decode cX11_measure 19 = .ok (.ireturn, 1) := by decide +kernel
theorem dX11_measure_20 : decode cX11_measure 20 = .ok (.aload_n 0, 1) := by decide +kernel
theorem dX11_measure_21 : decode cX11_measure 21 = .ok (.getfield 71, 3) := by decide +kernel
theorem dX11_measure_24 : decode cX11_measure 24 = .ok (.iload_n 1, 1) := by decide +kernel
theorem dX11_measure_25 : decode cX11_measure 25 = .ok (.iload_n 2, 1) := by decide +kernel
theorem dX11_measure_26 : decode cX11_measure 26 = .ok (.invokevirtual 307, 3) := by decide +kernel
theorem dX11_measure_29 : decode cX11_measure 29 = .ok (.ifCond .eq 13, 3) := by decide +kernel
theorem dX11_measure_32 : decode cX11_measure 32 = .ok (.aload_n 0, 1) := by decide +kernel
theorem dX11_measure_33 : decode cX11_measure 33 = .ok (.getfield 71, 3) := by decide +kernel
theorem dX11_measure_36 : decode cX11_measure 36 = .ok (.getfield 113, 3) := by decide +kernel
theorem dX11_measure_39 : decode cX11_measure 39 = .ok (.goto 5, 3) := by decide +kernel
theorem dX11_measure_42 : decode cX11_measure 42 = .ok (.bipush (-3), 2) := by decide +kernel
theorem dX11_measure_44 : decode cX11_measure 44 = .ok (.ireturn, 1) := by decide +kernel
theorem dX11_reckon_0 : decode cX11_reckon 0 = .ok (.aload_n 0, 1) := by decide +kernel
theorem dX11_reckon_1 : decode cX11_reckon 1 = .ok (.getfield 10, 3) := by decide +kernel
theorem dX11_reckon_4 : decode cX11_reckon 4 = .ok (.invokevirtual 309, 3) := by decide +kernel
theorem dX11_reckon_7 : decode cX11_reckon 7 = .ok (.istore_n 2, 1) := by decide +kernel
theorem dX11_reckon_8 : decode cX11_reckon 8 = .ok (.iload_n 1, 1) := by decide +kernel
theorem dX11_reckon_9 : decode cX11_reckon 9 = .ok (.ifCond .eq 17, 3) := by decide +kernel
theorem dX11_reckon_12 : decode cX11_reckon 12 = .ok (.iload_n 1, 1) := by decide +kernel
theorem dX11_reckon_13 : decode cX11_reckon 13 = .ok (.bipush 10, 2) := by decide +kernel
theorem dX11_reckon_15 : decode cX11_reckon 15 = .ok (.if_icmp .lt 15, 3) := by decide +kernel
theorem dX11_reckon_18 : decode cX11_reckon 18 = .ok (.iload_n 1, 1) := by decide +kernel
theorem dX11_reckon_19 : decode cX11_reckon 19 = .ok (.bipush 10, 2) := by decide +kernel
theorem dX11_reckon_21 : decode cX11_reckon 21 = .ok (.iload_n 2, 1) := by decide +kernel
theorem dX11_reckon_22 : decode cX11_reckon 22 = .ok (.iadd, 1) := by decide +kernel
theorem dX11_reckon_23 : decode cX11_reckon 23 = .ok (.if_icmp .ge 7, 3) := by decide +kernel
theorem dX11_reckon_26 : decode cX11_reckon 26 = .ok (.iconst 1, 1) := by decide +kernel
theorem dX11_reckon_27 : decode cX11_reckon 27 = .ok (.goto 4, 3) := by decide +kernel
theorem dX11_reckon_30 : decode cX11_reckon 30 = .ok (.iconst 0, 1) := by decide +kernel
theorem dX11_reckon_31 : decode cX11_reckon 31 = .ok (.istore_n 3, 1) := by decide +kernel
theorem dX11_reckon_32 : decode cX11_reckon 32 = .ok (.iload_n 1, 1) := by decide +kernel
theorem dX11_reckon_33 : decode cX11_reckon 33 = .ok (.iconst 1, 1) := by decide +kernel
theorem dX11_reckon_34 : decode cX11_reckon 34 = .ok (.if_icmp .eq 17, 3) := by decide +kernel
theorem dX11_reckon_37 : decode cX11_reckon 37 = .ok (.iload_n 1, 1) := by decide +kernel
theorem dX11_reckon_38 : decode cX11_reckon 38 = .ok (.bipush 30, 2) := by decide +kernel
theorem dX11_reckon_40 : decode cX11_reckon 40 = .ok (.if_icmp .lt 15, 3) := by decide +kernel
theorem dX11_reckon_43 : decode cX11_reckon 43 = .ok (.iload_n 1, 1) := by decide +kernel
theorem dX11_reckon_44 : decode cX11_reckon 44 = .ok (.bipush 30, 2) := by decide +kernel
theorem dX11_reckon_46 : decode cX11_reckon 46 = .ok (.iload_n 2, 1) := by decide +kernel
theorem dX11_reckon_47 : decode cX11_reckon 47 = .ok (.iadd, 1) := by decide +kernel
theorem dX11_reckon_48 : decode cX11_reckon 48 = .ok (.if_icmp .ge 7, 3) := by decide +kernel
theorem dX11_reckon_51 : decode cX11_reckon 51 = .ok (.iconst 1, 1) := by decide +kernel
theorem dX11_reckon_52 : decode cX11_reckon 52 = .ok (.goto 4, 3) := by decide +kernel
theorem dX11_reckon_55 : decode cX11_reckon 55 = .ok (.iconst 0, 1) := by decide +kernel
theorem dX11_reckon_56 : decode cX11_reckon 56 = .ok (.istore 4, 2) := by decide +kernel
theorem dX11_reckon_58 : decode cX11_reckon 58 = .ok (.iload_n 3, 1) := by decide +kernel
theorem dX11_reckon_59 : decode cX11_reckon 59 = .ok (.ifCond .ne 12, 3) := by decide +kernel
theorem dX11_reckon_62 : decode cX11_reckon 62 = .ok (.iload 4, 2) := by decide +kernel
theorem dX11_reckon_64 : decode cX11_reckon 64 = .ok (.ifCond .ne 7, 3) := by decide +kernel
theorem dX11_reckon_67 : decode cX11_reckon 67 = .ok (.ldc2_w 165, 3) := by decide +kernel
theorem dX11_reckon_70 : decode cX11_reckon 70 = .ok (.lreturn, 1) := by decide +kernel
theorem dX11_reckon_71 : decode cX11_reckon 71 = .ok (.aload_n 0, 1) := by decide +kernel
theorem dX11_reckon_72 : decode cX11_reckon 72 = .ok (.getfield 71, 3) := by decide +kernel
theorem dX11_reckon_75 : decode cX11_reckon 75 = .ok (.invokevirtual 312, 3) := by decide +kernel
theorem dX11_reckon_78 : decode cX11_reckon 78 = .ok (.istore 5, 2) := by decide +kernel
theorem dX11_reckon_80 : decode cX11_reckon 80 = .ok (.iload 5, 2) := by decide +kernel
theorem dX11_reckon_82 : decode cX11_reckon 82 = .ok (.bipush (-2), 2) := by decide +kernel
theorem dX11_reckon_84 : decode cX11_reckon 84 = .ok (.if_icmp .ne 7, 3) := by decide +kernel
theorem dX11_reckon_87 : decode cX11_reckon 87 = .ok (.ldc2_w 177, 3) := by decide +kernel
theorem dX11_reckon_90 : decode cX11_reckon 90 = .ok (.lreturn, 1) := by decide +kernel
theorem dX11_reckon_91 : decode cX11_reckon 91 = .ok (.iload 5, 2) := by decide +kernel
theorem dX11_reckon_93 : decode cX11_reckon 93 = .ok (.bipush (-4), 2) := by decide +kernel
theorem dX11_reckon_95 : decode cX11_reckon 95 = .ok (.if_icmp .ne 7, 3) := by decide +kernel
theorem dX11_reckon_98 : decode cX11_reckon 98 = .ok (.ldc2_w 315, 3) := by decide +kernel
theorem dX11_reckon_101 : decode cX11_reckon 101 = .ok (.lreturn, 1) := by decide +kernel
theorem dX11_reckon_102 : decode cX11_reckon 102 = .ok (.iload_n 1, 1) := by decide +kernel
theorem dX11_reckon_103 : decode cX11_reckon 103 = .ok (.iconst 1, 1) := by decide +kernel
theorem dX11_reckon_104 : decode cX11_reckon 104 = .ok (.if_icmp .gt 7, 3) := by decide +kernel
theorem dX11_reckon_107 : decode cX11_reckon 107 = .ok (.iconst 0, 1) := by decide +kernel
theorem dX11_reckon_108 : decode cX11_reckon 108 = .ok (.goto 18, 3) := by decide +kernel
theorem dX11_reckon_111 : decode cX11_reckon 111 = .ok (.iload_n 1, 1) := by decide +kernel
theorem dX11_reckon_112 : decode cX11_reckon 112 = .ok (.iload_n 3, 1) := by decide +kernel
theorem dX11_reckon_113 : decode cX11_reckon 113 = .ok (.ifCond .eq 8, 3) := by decide +kernel
theorem dX11_reckon_116 : decode cX11_reckon 116 = .ok (.bipush 10, 2) := by decide +kernel
theorem dX11_reckon_118 : decode cX11_reckon 118 = .ok (.goto 5, 3) := by decide +kernel
theorem dX11_reckon_121 : decode cX11_reckon 121 = .ok (.bipush 30, 2) := by decide +kernel
theorem dX11_reckon_123 : decode cX11_reckon 123 = .ok (.isub, 1) := by decide +kernel
theorem dX11_reckon_124 : decode cX11_reckon 124 = .ok (.iconst 1, 1) := by decide +kernel
theorem dX11_reckon_125 : decode cX11_reckon 125 = .ok (.iadd, 1) := by decide +kernel
theorem dX11_reckon_126 : decode cX11_reckon 126 = .ok (.istore 6, 2) := by decide +kernel
theorem dX11_reckon_128 : decode cX11_reckon 128 = .ok (.aload_n 0, 1) := by decide +kernel
theorem dX11_reckon_129 : decode cX11_reckon 129 = .ok (.getfield 47, 3) := by decide +kernel
theorem dX11_reckon_132 : decode cX11_reckon 132 = .ok (.aload_n 0, 1) := by decide +kernel
theorem dX11_reckon_133 : decode cX11_reckon 133 = .ok (.getfield 71, 3) := by decide +kernel
theorem dX11_reckon_136 : decode cX11_reckon 136 = .ok (.iload 6, 2) := by decide +kernel
theorem dX11_reckon_138 : decode cX11_reckon 138 = .ok (.invokevirtual 317, 3) := by decide +kernel
theorem dX11_reckon_141 : decode cX11_reckon 141 = .ok (.aload_n 0, 1) := by decide +kernel
theorem dX11_reckon_142 : decode cX11_reckon 142 = .ok (.getfield 71, 3) := by decide +kernel
theorem dX11_reckon_145 : decode cX11_reckon 145 = .ok (.getfield 320, 3) := by decide +kernel
theorem dX11_reckon_148 : decode cX11_reckon 148 = .ok (.invokevirtual 157, 3) := by decide +kernel
theorem dX11_reckon_151 : decode cX11_reckon 151 = .ok (.aload_n 0, 1) := by decide +kernel
theorem dX11_reckon_152 : decode cX11_reckon 152 = .ok (.getfield 47, 3) := by decide +kernel
theorem dX11_reckon_155 : decode cX11_reckon 155 = .ok (.iload_n 3, 1) := by decide +kernel
theorem dX11_reckon_156 : decode cX11_reckon 156 = .ok (.ifCond .eq 7, 3) := by decide +kernel
theorem dX11_reckon_159 : decode cX11_reckon 159 = .ok (.iconst 0, 1) := by decide +kernel
theorem dX11_reckon_160 : decode cX11_reckon 160 = .ok (.goto 4, 3) := by decide +kernel
theorem dX11_reckon_163 : decode cX11_reckon 163 = .ok (.iconst 1, 1) := by decide +kernel
theorem dX11_reckon_164 : decode cX11_reckon 164 = .ok (.invokevirtual 161, 3) := by decide +kernel
theorem dX11_reckon_167 : decode cX11_reckon 167 = .ok (.lreturn, 1) := by decide +kernel
theorem dX11_adopt_0 : decode cX11_adopt 0 = .ok (.aload_n 0, 1) := by decide +kernel
theorem dX11_adopt_1 : decode cX11_adopt 1 = .ok (.getfield 71, 3) := by decide +kernel
theorem dX11_adopt_4 : decode cX11_adopt 4 = .ok (.invokevirtual 312, 3) := by decide +kernel
theorem dX11_adopt_7 : decode cX11_adopt 7 = .ok (.istore_n 1, 1) := by decide +kernel
theorem dX11_adopt_8 : decode cX11_adopt 8 = .ok (.iload_n 1, 1) := by decide +kernel
theorem dX11_adopt_9 : decode cX11_adopt 9 = .ok (.ifCond .eq 5, 3) := by decide +kernel
theorem dX11_adopt_12 : decode cX11_adopt 12 = .ok (.iload_n 1, 1) := by decide +kernel
theorem dX11_adopt_13 : decode cX11_adopt 13 = .ok (.ireturn, 1) := by decide +kernel
theorem dX11_adopt_14 : decode cX11_adopt 14 = .ok (.aload_n 0, 1) := by decide +kernel
theorem dX11_adopt_15 : decode cX11_adopt 15 = .ok (.getfield 71, 3) := by decide +kernel
theorem dX11_adopt_18 : decode cX11_adopt 18 = .ok (.invokevirtual 324, 3) := by decide +kernel
theorem dX11_adopt_21 : decode cX11_adopt 21 = .ok (.ifCond .ne 6, 3) := by decide +kernel
theorem dX11_adopt_24 : decode cX11_adopt 24 = .ok (.bipush (-3), 2) := by decide +kernel
theorem dX11_adopt_26 : decode cX11_adopt 26 = .ok (.ireturn, 1) := by decide +kernel
theorem dX11_adopt_27 : decode cX11_adopt 27 = .ok (.aload_n 0, 1) := by decide +kernel
theorem dX11_adopt_28 : decode cX11_adopt 28 = .ok (.getfield 71, 3) := by decide +kernel
theorem dX11_adopt_31 : decode cX11_adopt 31 = .ok (.invokevirtual 328, 3) := by decide +kernel
theorem dX11_adopt_34 : decode cX11_adopt 34 = .ok (.istore_n 2, 1) := by decide +kernel
theorem dX11_adopt_35 : decode cX11_adopt 35 = .ok (.aload_n 0, 1) := by decide +kernel
theorem dX11_adopt_36 : decode cX11_adopt 36 = .ok (.getfield 40, 3) := by decide +kernel
theorem dX11_adopt_39 : decode cX11_adopt 39 = .ok (.invokevirtual 110, 3) := by decide +kernel
theorem dX11_adopt_42 : decode cX11_adopt 42 = .ok (.iload_n 2, 1) := by decide +kernel
theorem dX11_adopt_43 : decode cX11_adopt 43 = .ok (.ireturn, 1) := by decide +kernel
theorem dX11_apart_0 : decode cX11_apart 0 = .ok (.iload_n 1, 1) := by decide +kernel
theorem dX11_apart_1 : decode cX11_apart 1 = .ok (.ifCond .lt 8, 3) := by decide +kernel
theorem dX11_apart_4 : decode cX11_apart 4 = .ok (.iload_n 1, 1) := by decide +kernel
theorem dX11_apart_5 : decode cX11_apart 5 = .ok (.iconst 2, 1) := by decide +kernel
theorem dX11_apart_6 : decode cX11_apart 6 = .ok (.if_icmp .le 5, 3) := by decide +kernel
theorem dX11_apart_9 : decode cX11_apart 9 = .ok (.iconst (-1), 1) := by decide +kernel
theorem dX11_apart_10 : decode cX11_apart 10 = .ok (.ireturn, 1) := by decide +kernel
theorem dX11_apart_11 : decode cX11_apart 11 = .ok (.iconst 0, 1) := by decide +kernel
theorem dX11_apart_12 : decode cX11_apart 12 = .ok (.istore_n 2, 1) := by decide +kernel
theorem dX11_apart_13 : decode cX11_apart 13 = .ok (.iconst 0, 1) := by decide +kernel
theorem dX11_apart_14 : decode cX11_apart 14 = .ok (.istore_n 3, 1) := by decide +kernel
theorem dX11_apart_15 : decode cX11_apart 15 = .ok (.bipush (-4), 2) := by decide +kernel
theorem dX11_apart_17 : decode cX11_apart 17 = .ok (.istore 4, 2) := by decide +kernel
theorem dX11_apart_19 : decode cX11_apart 19 = .ok (.iconst 0, 1) := by decide +kernel
theorem dX11_apart_20 : decode cX11_apart 20 = .ok (.istore 5, 2) := by decide +kernel
theorem dX11_apart_22 : decode cX11_apart 22 = .ok (.iload 5, 2) := by decide +kernel
theorem dX11_apart_24 : decode cX11_apart 24 = .ok (.aload_n 0, 1) := by decide +kernel
theorem dX11_apart_25 : decode cX11_apart 25 = .ok (.getfield 71, 3) := by decide +kernel
theorem dX11_apart_28 : decode cX11_apart 28 = .ok (.getfield 113, 3) := by decide +kernel
theorem dX11_apart_31 : decode cX11_apart 31 = .ok (.if_icmp .ge 82, 3) := by decide +kernel
theorem dX11_apart_34 : decode cX11_apart 34 = .ok (.aload_n 0, 1) := by decide +kernel
theorem dX11_apart_35 : decode cX11_apart 35 = .ok (.getfield 71, 3) := by decide +kernel
theorem dX11_apart_38 : decode cX11_apart 38 = .ok (.iload 5, 2) := by decide +kernel
theorem dX11_apart_40 : decode cX11_apart 40 = .ok (.invokevirtual 331, 3) := by decide +kernel
theorem dX11_apart_43 : decode cX11_apart 43 = .ok (.istore 6, 2) := by decide +kernel
theorem dX11_apart_45 : decode cX11_apart 45 = .ok (.aload_n 0, 1) := by decide +kernel
theorem dX11_apart_46 : decode cX11_apart 46 = .ok (.getfield 71, 3) := by decide +kernel
theorem dX11_apart_49 : decode cX11_apart 49 = .ok (.iload 5, 2) := by decide +kernel
theorem dX11_apart_51 : decode cX11_apart 51 = .ok (.invokevirtual 334, 3) := by decide +kernel
theorem dX11_apart_54 : decode cX11_apart 54 = .ok (.aload_n 0, 1) := by decide +kernel
theorem dX11_apart_55 : decode cX11_apart 55 = .ok (.getfield 40, 3) := by decide +kernel
theorem dX11_apart_58 : decode cX11_apart 58 = .ok (.iload 6, 2) := by decide +kernel
theorem dX11_apart_60 : decode cX11_apart 60 = .ok (.invokevirtual 146, 3) := by decide +kernel
theorem dX11_apart_63 : decode cX11_apart 63 = .ok (.isub, 1) := by decide +kernel
theorem dX11_apart_64 : decode cX11_apart 64 = .ok (.invokestatic 337, 3) := by decide +kernel
theorem dX11_apart_67 : decode cX11_apart 67 = .ok (.istore 7, 2) := by decide +kernel
theorem dX11_apart_69 : decode cX11_apart 69 = .ok (.iload_n 2, 1) := by decide +kernel
theorem dX11_apart_70 : decode cX11_apart 70 = .ok (.iload 7, 2) := by decide +kernel
theorem dX11_apart_72 : decode cX11_apart 72 = .ok (.iadd, 1) := by decide +kernel
theorem dX11_apart_73 : decode cX11_apart 73 = .ok (.istore_n 2, 1) := by decide +kernel
theorem dX11_apart_74 : decode cX11_apart 74 = .ok (.iload 4, 2) := by decide +kernel
theorem dX11_apart_76 : decode cX11_apart 76 = .ok (.bipush (-4), 2) := by decide +kernel
theorem dX11_apart_78 : decode cX11_apart 78 = .ok (.if_icmp .eq 22, 3) := by decide +kernel
theorem dX11_apart_81 : decode cX11_apart 81 = .ok (.iload 7, 2) := by decide +kernel
theorem dX11_apart_83 : decode cX11_apart 83 = .ok (.iload_n 3, 1) := by decide +kernel
theorem dX11_apart_84 : decode cX11_apart 84 = .ok (.if_icmp .gt 16, 3) := by decide +kernel
theorem dX11_apart_87 : decode cX11_apart 87 = .ok (.iload 7, 2) := by decide +kernel
theorem dX11_apart_89 : decode cX11_apart 89 = .ok (.iload_n 3, 1) := by decide +kernel
theorem dX11_apart_90 : decode cX11_apart 90 = .ok (.if_icmp .ne 17, 3) := by decide +kernel
theorem dX11_apart_93 : decode cX11_apart 93 = .ok (.iload 6, 2) := by decide +kernel
theorem dX11_apart_95 : decode cX11_apart 95 = .ok (.iload 4, 2) := by decide +kernel
theorem dX11_apart_97 : decode cX11_apart 97 = .ok (.if_icmp .ge 10, 3) := by decide +kernel
theorem dX11_apart_100 : decode cX11_apart 100 = .ok (.iload 7, 2) := by decide +kernel
theorem dX11_apart_102 : decode cX11_apart 102 = .ok (.istore_n 3, 1) := by decide +kernel
theorem dX11_apart_103 : decode cX11_apart 103 = .ok (.iload 6, 2) := by decide +kernel
theorem dX11_apart_105 : decode cX11_apart 105 = .ok (.istore 4, 2) := by decide +kernel
theorem dX11_apart_107 : decode cX11_apart 107 = .ok (.iinc 5 1, 3) := by decide +kernel
theorem dX11_apart_110 : decode cX11_apart 110 = .ok (.goto (-88), 3) := by decide +kernel
theorem dX11_apart_113 : decode cX11_apart 113 = .ok (.iload_n 1, 1) := by decide +kernel
theorem dX11_apart_114 : decode cX11_apart 114 = .ok (.lookupswitch 30 #[(0, 26), (1, 28)], 26) := by decide +kernel
theorem dX11_apart_140 : decode cX11_apart 140 = .ok (.iload_n 2, 1) := by decide +kernel
theorem dX11_apart_141 : decode cX11_apart 141 = .ok (.ireturn, 1) := by decide +kernel
theorem dX11_apart_142 : decode cX11_apart 142 = .ok (.iload_n 3, 1) := by decide +kernel
theorem dX11_apart_143 : decode cX11_apart 143 = .ok (.ireturn, 1) := by decide +kernel
theorem dX11_apart_144 : decode cX11_apart 144 = .ok (.iload 4, 2) := by decide +kernel
theorem dX11_apart_146 : decode cX11_apart 146 = .ok (.ireturn, 1) := by decide +kernel
theorem dX11_sheet_0 : decode cX11_sheet 0 = .ok (.aload_n 0, 1) := by decide +kernel
theorem dX11_sheet_1 : decode cX11_sheet 1 = .ok (.iload_n 1, 1) := by decide +kernel
theorem dX11_sheet_2 : decode cX11_sheet 2 = .ok (.invokevirtual 340, 3) := by decide +kernel
theorem dX11_sheet_5 : decode cX11_sheet 5 = .ok (.ifCond .eq 16, 3) := by decide +kernel
theorem dX11_sheet_8 : decode cX11_sheet 8 = .ok (.iload_n 2, 1) := by decide +kernel
theorem dX11_sheet_9 : decode cX11_sheet 9 = .ok (.invokestatic 343, 3) := by decide +kernel
theorem dX11_sheet_12 : decode cX11_sheet 12 = .ok (.ifCond .eq 9, 3) := by decide +kernel
theorem dX11_sheet_15 : decode cX11_sheet 15 = .ok (.iload_n 3, 1) := by decide +kernel
theorem dX11_sheet_16 : decode cX11_sheet 16 = .ok (.bipush 64, 2) := by decide +kernel
theorem dX11_sheet_18 : decode cX11_sheet 18 = .ok (.if_icmp .le 5, 3) := by decide +kernel
theorem dX11_sheet_21 : decode cX11_sheet 21 = .ok (.iconst (-1), 1) := by decide +kernel
theorem dX11_sheet_22 : decode cX11_sheet 22 = .ok (.ireturn, 1) := by decide +kernel
theorem dX11_sheet_23 : decode cX11_sheet 23 = .ok (.iload_n 3, 1) := by decide +kernel
theorem dX11_sheet_24 : decode cX11_sheet 24 = .ok (.ifCond .ge 6, 3) := by decide +kernel
theorem dX11_sheet_27 : decode cX11_sheet 27 = .ok (.bipush (-14), 2) := by decide +kernel
theorem dX11_sheet_29 : decode cX11_sheet 29 = .ok (.ireturn, 1) := by decide +kernel
theorem dX11_sheet_30 : decode cX11_sheet 30 = .ok (.aload_n 0, 1) := by decide +kernel
theorem dX11_sheet_31 : decode cX11_sheet 31 = .ok (.getfield 77, 3) := by decide +kernel
theorem dX11_sheet_34 : decode cX11_sheet 34 = .ok (.iload_n 1, 1) := by decide +kernel
theorem dX11_sheet_35 : decode cX11_sheet 35 = .ok (.aaload, 1) := by decide +kernel
theorem dX11_sheet_36 : decode cX11_sheet 36 = .ok (.iload_n 2, 1) := by decide +kernel
theorem dX11_sheet_37 : decode cX11_sheet 37 = .ok (.iload_n 3, 1) := by decide +kernel
theorem dX11_sheet_38 : decode cX11_sheet 38 = .ok (.invokevirtual 346, 3) := by decide +kernel
theorem dX11_sheet_41 : decode cX11_sheet 41 = .ok (.iconst 1, 1) := by decide +kernel
theorem dX11_sheet_42 : decode cX11_sheet 42 = .ok (.ireturn, 1) := by decide +kernel
theorem dX11_lay_0 : decode cX11_lay 0 = .ok (.aload_n 0, 1) := by decide +kernel
theorem dX11_lay_1 : decode cX11_lay 1 = .ok (.iload_n 1, 1) := by decide +kernel
theorem dX11_lay_2 : decode cX11_lay 2 = .ok (.invokevirtual 340, 3) := by decide +kernel
theorem dX11_lay_5 : decode cX11_lay 5 = .ok (.ifCond .ne 5, 3) := by decide +kernel
theorem dX11_lay_8 : decode cX11_lay 8 = .ok (.iconst (-1), 1) := by decide +kernel
theorem dX11_lay_9 : decode cX11_lay 9 = .ok (.ireturn, 1) := by decide +kernel
theorem dX11_lay_10 : decode cX11_lay 10 = .ok (.aload_n 0, 1) := by decide +kernel
theorem dX11_lay_11 : decode cX11_lay 11 = .ok (.getfield 77, 3) := by decide +kernel
theorem dX11_lay_14 : decode cX11_lay 14 = .ok (.iload_n 1, 1) := by decide +kernel
theorem dX11_lay_15 : decode cX11_lay 15 = .ok (.aaload, 1) := by decide +kernel
theorem dX11_lay_16 : decode cX11_lay 16 = .ok (.astore 4, 2) := by decide +kernel
theorem dX11_lay_18 : decode cX11_lay 18 = .ok (.aload 4, 2) := by decide +kernel
theorem dX11_lay_20 : decode cX11_lay 20 = .ok (.invokevirtual 350, 3) := by decide +kernel
theorem dX11_lay_23 : decode cX11_lay 23 = .ok (.ifCond .eq 6, 3) := by decide +kernel
theorem dX11_lay_26 : decode cX11_lay 26 = .ok (.bipush (-11), 2) := by decide +kernel
theorem dX11_lay_28 : decode cX11_lay 28 = .ok (.ireturn, 1) := by decide +kernel
theorem dX11_lay_29 : decode cX11_lay 29 = .ok (.aload 4, 2) := by decide +kernel
theorem dX11_lay_31 : decode cX11_lay 31 = .ok (.iload_n 2, 1) := by decide +kernel
theorem dX11_lay_32 : decode cX11_lay 32 = .ok (.invokevirtual 353, 3) := by decide +kernel
theorem dX11_lay_35 : decode cX11_lay 35 = .ok (.ifCond .ne 6, 3) := by decide +kernel
theorem dX11_lay_38 : decode cX11_lay 38 = .ok (.bipush (-12), 2) := by decide +kernel
theorem dX11_lay_40 : decode cX11_lay 40 = .ok (.ireturn, 1) := by decide +kernel
theorem dX11_lay_41 : decode cX11_lay 41 = .ok (.aload 4, 2) := by decide +kernel
theorem dX11_lay_43 : decode cX11_lay 43 = .ok (.iload_n 2, 1) := by decide +kernel
theorem dX11_lay_44 : decode cX11_lay 44 = .ok (.iload_n 3, 1) := by decide +kernel
theorem dX11_lay_45 : decode cX11_lay 45 = .ok (.invokevirtual 356, 3) := by decide +kernel
theorem dX11_lay_48 : decode cX11_lay 48 = .ok (.iconst 1, 1) := by decide +kernel
theorem dX11_lay_49 : decode cX11_lay 49 = .ok (.ireturn, 1) := by decide +kernel
theorem dX11_wave_0 : decode cX11_wave 0 = .ok (.aload_n 0, 1) := by decide +kernel
theorem dX11_wave_1 : decode cX11_wave 1 = .ok (.iload_n 1, 1) := by decide +kernel
theorem dX11_wave_2 : decode cX11_wave 2 = .ok (.invokevirtual 340, 3) := by decide +kernel
theorem dX11_wave_5 : decode cX11_wave 5 = .ok (.ifCond .eq 33, 3) := by decide +kernel
theorem dX11_wave_8 : decode cX11_wave 8 = .ok (.iload_n 2, 1) := by decide +kernel
theorem dX11_wave_9 : decode cX11_wave 9 = .ok (.invokestatic 343, 3) := by decide +kernel
theorem dX11_wave_12 : decode cX11_wave 12 = .ok (.ifCond .eq 26, 3) := by decide +kernel
theorem dX11_wave_15 : decode cX11_wave 15 = .ok (.iload 4, 2) := by decide +kernel
theorem dX11_wave_17 : decode cX11_wave 17 = .ok (.ifCond .lt 21, 3) := by decide +kernel
theorem dX11_wave_20 : decode cX11_wave 20 = .ok (.iload 4, 2) := by decide +kernel
theorem dX11_wave_22 : decode cX11_wave 22 = .ok (.bipush 64, 2) := by decide +kernel
theorem dX11_wave_24 : decode cX11_wave 24 = .ok (.if_icmp .gt 14, 3) := by decide +kernel
theorem dX11_wave_27 : decode cX11_wave 27 = .ok (.iload 5, 2) := by decide +kernel
theorem dX11_wave_29 : decode cX11_wave 29 = .ok (.ifCond .lt 9, 3) := by decide +kernel
theorem dX11_wave_32 : decode cX11_wave 32 = .ok (.iload 5, 2) := by decide +kernel
theorem dX11_wave_34 : decode cX11_wave 34 = .ok (.iconst 2, 1) := by decide +kernel
theorem dX11_wave_35 : decode cX11_wave 35 = .ok (.if_icmp .le 5, 3) := by decide +kernel
theorem dX11_wave_38 : decode cX11_wave 38 = .ok (.iconst (-1), 1) := by decide +kernel
theorem dX11_wave_39 : decode cX11_wave 39 = .ok (.ireturn, 1) := by decide +kernel
theorem dX11_wave_40 : decode cX11_wave 40 = .ok (.aload_n 0, 1) := by decide +kernel
theorem dX11_wave_41 : decode cX11_wave 41 = .ok (.getfield 77, 3) := by decide +kernel
theorem dX11_wave_44 : decode cX11_wave 44 = .ok (.iload_n 1, 1) := by decide +kernel
theorem dX11_wave_45 : decode cX11_wave 45 = .ok (.aaload, 1) := by decide +kernel
theorem dX11_wave_46 : decode cX11_wave 46 = .ok (.astore 6, 2) := by decide +kernel
theorem dX11_wave_48 : decode cX11_wave 48 = .ok (.aload 6, 2) := by decide +kernel
theorem dX11_wave_50 : decode cX11_wave 50 = .ok (.invokevirtual 350, 3) := by decide +kernel
theorem dX11_wave_53 : decode cX11_wave 53 = .ok (.ifCond .eq 6, 3) := by decide +kernel
theorem dX11_wave_56 : decode cX11_wave 56 = .ok (.bipush (-11), 2) := by decide +kernel
theorem dX11_wave_58 : decode cX11_wave 58 = .ok (.ireturn, 1) := by decide +kernel
theorem dX11_wave_59 : decode cX11_wave 59 = .ok (.aload 6, 2) := by decide +kernel
theorem dX11_wave_61 : decode cX11_wave 61 = .ok (.getfield 359, 3) := by decide +kernel
theorem dX11_wave_64 : decode cX11_wave 64 = .ok (.iload_n 2, 1) := by decide +kernel
theorem dX11_wave_65 : decode cX11_wave 65 = .ok (.if_icmp .eq 6, 3) := by decide +kernel
theorem dX11_wave_68 : decode cX11_wave 68 = .ok (.bipush (-13), 2) := by decide +kernel
theorem dX11_wave_70 : decode cX11_wave 70 = .ok (.ireturn, 1) := by decide +kernel
theorem dX11_wave_71 : decode cX11_wave 71 = .ok (.aload_n 0, 1) := by decide +kernel
theorem dX11_wave_72 : decode cX11_wave 72 = .ok (.aload 6, 2) := by decide +kernel
theorem dX11_wave_74 : decode cX11_wave 74 = .ok (.iload_n 3, 1) := by decide +kernel
theorem dX11_wave_75 : decode cX11_wave 75 = .ok (.iload 4, 2) := by decide +kernel
theorem dX11_wave_77 : decode cX11_wave 77 = .ok (.invokevirtual 362, 3) := by decide +kernel
theorem dX11_wave_80 : decode cX11_wave 80 = .ok (.istore 7, 2) := by decide +kernel
theorem dX11_wave_82 : decode cX11_wave 82 = .ok (.iload 7, 2) := by decide +kernel
theorem dX11_wave_84 : decode cX11_wave 84 = .ok (.ifCond .ge 6, 3) := by decide +kernel
theorem dX11_wave_87 : decode cX11_wave 87 = .ok (.iload 7, 2) := by decide +kernel
theorem dX11_wave_89 : decode cX11_wave 89 = .ok (.ireturn, 1) := by decide +kernel
theorem dX11_wave_90 : decode cX11_wave 90 = .ok (.iload 5, 2) := by decide +kernel
theorem dX11_wave_92 : decode cX11_wave 92 = .ok (.lookupswitch 44 #[(0, 28), (1, 36)], 28) := by decide +kernel
theorem dX11_wave_120 : decode cX11_wave 120 = .ok (.aload_n 0, 1) := by decide +kernel
theorem dX11_wave_121 : decode cX11_wave 121 = .ok (.getfield 85, 3) := by decide +kernel
theorem dX11_wave_124 : decode cX11_wave 124 = .ok (.invokevirtual 366, 3) := by decide +kernel
theorem dX11_wave_127 : decode cX11_wave 127 = .ok (.ireturn, 1) := by decide +kernel
theorem dX11_wave_128 : decode cX11_wave 128 = .ok (.aload_n 0, 1) := by decide +kernel
theorem dX11_wave_129 : decode cX11_wave 129 = .ok (.getfield 85, 3) := by decide +kernel
theorem dX11_wave_132 : decode cX11_wave 132 = .ok (.invokevirtual 369, 3) := by decide +kernel
theorem dX11_wave_135 : decode cX11_wave 135 = .ok (.ireturn, 1) := by decide +kernel
theorem dX11_wave_136 : decode cX11_wave 136 = .ok (.aload_n 0, 1) := by decide +kernel
theorem dX11_wave_137 : decode cX11_wave 137 = .ok (.getfield 85, 3) := by decide +kernel
theorem dX11_wave_140 : decode cX11_wave 140 = .ok (.getfield 372, 3) := by decide +kernel
theorem dX11_wave_143 : decode cX11_wave 143 = .ok (.ireturn, 1) := by decide +kernel
theorem dX11_readWave_0 : decode cX11_readWave 0 = .ok (.aload_n 0, 1) := by decide +kernel
theorem dX11_readWave_1 : decode cX11_readWave 1 = .ok (.getfield 85, 3) := by decide +kernel
theorem dX11_readWave_4 : decode cX11_readWave 4 = .ok (.invokevirtual 375, 3) := by decide +kernel
theorem dX11_readWave_7 : decode cX11_readWave 7 = .ok (.iconst 0, 1) := by decide +kernel
theorem dX11_readWave_8 : decode cX11_readWave 8 = .ok (.istore 4, 2) := by decide +kernel
theorem dX11_readWave_10 : decode cX11_readWave 10 = .ok (.iload 4, 2) := by decide +kernel
theorem dX11_readWave_12 : decode cX11_readWave 12 = .ok (.iload_n 3, 1) := by decide +kernel
theorem dX11_readWave_13 : decode cX11_readWave 13 = .ok (.if_icmp .ge 65, 3) := by decide +kernel
theorem dX11_readWave_16 : decode cX11_readWave 16 = .ok (.aload_n 1, 1) := by decide +kernel
theorem dX11_readWave_17 : decode cX11_readWave 17 = .ok (.iload_n 2, 1) := by decide +kernel
theorem dX11_readWave_18 : decode cX11_readWave 18 = .ok (.iload 4, 2) := by decide +kernel
theorem dX11_readWave_20 : decode cX11_readWave 20 = .ok (.iadd, 1) := by decide +kernel
theorem dX11_readWave_21 : decode cX11_readWave 21 = .ok (.invokevirtual 353, 3) := by decide +kernel
theorem dX11_readWave_24 : decode cX11_readWave 24 = .ok (.ifCond .ne 6, 3) := by decide +kernel
theorem dX11_readWave_27 : decode cX11_readWave 27 = .ok (.bipush (-12), 2) := by decide +kernel
theorem dX11_readWave_29 : decode cX11_readWave 29 = .ok (.ireturn, 1) := by decide +kernel
theorem dX11_readWave_30 : decode cX11_readWave 30 = .ok (.aload_n 1, 1) := by decide +kernel
theorem dX11_readWave_31 : decode cX11_readWave 31 = .ok (.iload_n 2, 1) := by decide +kernel
theorem dX11_readWave_32 : decode cX11_readWave 32 = .ok (.iload 4, 2) := by decide +kernel
theorem dX11_readWave_34 : decode cX11_readWave 34 = .ok (.iadd, 1) := by decide +kernel
theorem dX11_readWave_35 : decode cX11_readWave 35 = .ok (.invokevirtual 378, 3) := by decide +kernel
theorem dX11_readWave_38 : decode cX11_readWave 38 = .ok (.istore 5, 2) := by decide +kernel
theorem dX11_readWave_40 : decode cX11_readWave 40 = .ok (.iload 5, 2) := by decide +kernel
theorem dX11_readWave_42 : decode cX11_readWave 42 = .ok (.invokestatic 199, 3) := by decide +kernel
theorem dX11_readWave_45 : decode cX11_readWave 45 = .ok (.ifCond .ne 9, 3) := by decide +kernel
theorem dX11_readWave_48 : decode cX11_readWave 48 = .ok (.bipush (-20), 2) := by decide +kernel
theorem dX11_readWave_50 : decode cX11_readWave 50 = .ok (.iload 4, 2) := by decide +kernel
theorem dX11_readWave_52 : decode cX11_readWave 52 = .ok (.isub, 1) := by decide +kernel
theorem dX11_readWave_53 : decode cX11_readWave 53 = .ok (.ireturn, 1) := by decide +kernel
theorem dX11_readWave_54 : decode cX11_readWave 54 = .ok (.aload_n 0, 1) := by decide +kernel
theorem dX11_readWave_55 : decode cX11_readWave 55 = .ok (.getfield 85, 3) := by decide +kernel
theorem dX11_readWave_58 : decode cX11_readWave 58 = .ok (.aload_n 0, 1) := by decide +kernel
theorem dX11_readWave_59 : decode cX11_readWave 59 = .ok (.getfield 40, 3) := by decide +kernel
theorem dX11_readWave_62 : decode cX11_readWave 62 = .ok (.iload 5, 2) := by decide +kernel
theorem dX11_readWave_64 : decode cX11_readWave 64 = .ok (.bipush (-4), 2) := by decide +kernel
theorem dX11_readWave_66 : decode cX11_readWave 66 = .ok (.invokevirtual 205, 3) := by decide +kernel
theorem dX11_readWave_69 : decode cX11_readWave 69 = .ok (.invokevirtual 381, 3) := by decide +kernel
theorem dX11_readWave_72 : decode cX11_readWave 72 = .ok (.iinc 4 1, 3) := by decide +kernel
theorem dX11_readWave_75 : decode cX11_readWave 75 = .ok (.goto (-65), 3) := by decide +kernel
theorem dX11_readWave_78 : decode cX11_readWave 78 = .ok (.iconst 0, 1) := by decide +kernel
theorem dX11_readWave_79 : decode cX11_readWave 79 = .ok (.ireturn, 1) := by decide +kernel
theorem dX11_count_0 : decode cX11_count 0 = .ok (.iload_n 1, 1) := by decide +kernel
theorem dX11_count_1 : decode cX11_count 1 = .ok (.tableswitch 89 0 5 #[39, 47, 55, 63, 71, 79], 39) := by decide +kernel
theorem dX11_count_40 : decode cX11_count 40 = .ok (.aload_n 0, 1) := by decide +kernel
theorem dX11_count_41 : decode cX11_count 41 = .ok (.getfield 10, 3) := by decide +kernel
theorem dX11_count_44 : decode cX11_count 44 = .ok (.invokevirtual 215, 3) := by decide +kernel
theorem dX11_count_47 : decode cX11_count 47 = .ok (.ireturn, 1) := by decide +kernel
theorem dX11_count_48 : decode cX11_count 48 = .ok (.aload_n 0, 1) := by decide +kernel
theorem dX11_count_49 : decode cX11_count 49 = .ok (.getfield 10, 3) := by decide +kernel
theorem dX11_count_52 : decode cX11_count 52 = .ok (.invokevirtual 309, 3) := by decide +kernel
theorem dX11_count_55 : decode cX11_count 55 = .ok (.ireturn, 1) := by decide +kernel
theorem dX11_count_56 : decode cX11_count 56 = .ok (.aload_n 0, 1) := by decide +kernel
theorem dX11_count_57 : decode cX11_count 57 = .ok (.getfield 71, 3) := by decide +kernel
theorem dX11_count_60 : decode cX11_count 60 = .ok (.getfield 113, 3) := by decide +kernel
theorem dX11_count_63 : decode cX11_count 63 = .ok (.ireturn, 1) := by decide +kernel
theorem dX11_count_64 : decode cX11_count 64 = .ok (.aload_n 0, 1) := by decide +kernel
theorem dX11_count_65 : decode cX11_count 65 = .ok (.getfield 54, 3) := by decide +kernel
theorem dX11_count_68 : decode cX11_count 68 = .ok (.invokevirtual 384, 3) := by decide +kernel
theorem dX11_count_71 : decode cX11_count 71 = .ok (.ireturn, 1) := by decide +kernel
theorem dX11_count_72 : decode cX11_count 72 = .ok (.aload_n 0, 1) := by decide +kernel
theorem dX11_count_73 : decode cX11_count 73 = .ok (.getfield 22, 3) := by decide +kernel
theorem dX11_count_76 : decode cX11_count 76 = .ok (.getfield 93, 3) := by decide +kernel
theorem dX11_count_79 : decode cX11_count 79 = .ok (.ireturn, 1) := by decide +kernel
theorem dX11_count_80 : decode cX11_count 80 = .ok (.aload_n 0, 1) := by decide +kernel
theorem dX11_count_81 : decode cX11_count 81 = .ok (.getfield 77, 3) := by decide +kernel
theorem dX11_count_84 : decode cX11_count 84 = .ok (.iconst 0, 1) := by decide +kernel
theorem dX11_count_85 : decode cX11_count 85 = .ok (.aaload, 1) := by decide +kernel
theorem dX11_count_86 : decode cX11_count 86 = .ok (.getfield 387, 3) := by decide +kernel
theorem dX11_count_89 : decode cX11_count 89 = .ok (.ireturn, 1) := by decide +kernel
theorem dX11_count_90 : decode cX11_count 90 = .ok (.iconst (-1), 1) := by decide +kernel
theorem dX11_count_91 : decode cX11_count 91 = .ok (.ireturn, 1) := by decide +kernel
theorem dX11_isSheet_0 : decode cX11_isSheet 0 = .ok (.iload_n 1, 1) := by decide +kernel
theorem dX11_isSheet_1 : decode cX11_isSheet 1 = .ok (.ifCond .lt 16, 3) := by decide +kernel
theorem dX11_isSheet_4 : decode cX11_isSheet 4 = .ok (.iload_n 1, 1) := by decide +kernel
theorem dX11_isSheet_5 : decode cX11_isSheet 5 = .ok (.aload_n 0, 1) := by decide +kernel
theorem dX11_isSheet_6 : decode cX11_isSheet 6 = .ok (.getfield 77, 3) := by decide +kernel
theorem dX11_isSheet_9 : decode cX11_isSheet 9 = .ok (.arraylength, 1) := by decide +kernel
theorem dX11_isSheet_10 : decode cX11_isSheet 10 = .ok (.if_icmp .ge 7, 3) := by decide +kernel
theorem dX11_isSheet_13 : decode cX11_isSheet 13 = .ok (.iconst 1, 1) := by decide +kernel
theorem dX11_isSheet_14 : decode cX11_isSheet 14 = .ok (.goto 4, 3) := by decide +kernel
theorem dX11_isSheet_17 : decode cX11_isSheet 17 = .ok (.iconst 0, 1) := by decide +kernel
theorem dX11_isSheet_18 : decode cX11_isSheet 18 = .ok (.ireturn, 1) := by decide +kernel
theorem dX11_isLane_0 : decode cX11_isLane 0 = .ok (.iload_n 0, 1) := by decide +kernel
theorem dX11_isLane_1 : decode cX11_isLane 1 = .ok (.ifCond .lt 12, 3) := by decide +kernel
theorem dX11_isLane_4 : decode cX11_isLane 4 = .ok (.iload_n 0, 1) := by decide +kernel
theorem dX11_isLane_5 : decode cX11_isLane 5 = .ok (.iconst 3, 1) := by decide +kernel
theorem dX11_isLane_6 : decode cX11_isLane 6 = .ok (.if_icmp .ge 7, 3) := by decide +kernel
theorem dX11_isLane_9 : decode cX11_isLane 9 = .ok (.iconst 1, 1) := by decide +kernel
theorem dX11_isLane_10 : decode cX11_isLane 10 = .ok (.goto 4, 3) := by decide +kernel
theorem dX11_isLane_13 : decode cX11_isLane 13 = .ok (.iconst 0, 1) := by decide +kernel
theorem dX11_isLane_14 : decode cX11_isLane 14 = .ok (.ireturn, 1) := by decide +kernel
theorem dX11_isVolt_0 : decode cX11_isVolt 0 = .ok (.iload_n 0, 1) := by decide +kernel
theorem dX11_isVolt_1 : decode cX11_isVolt 1 = .ok (.ldc_w 388, 3) := by decide +kernel
theorem dX11_isVolt_4 : decode cX11_isVolt 4 = .ok (.if_icmp .lt 14, 3) := by decide +kernel
theorem dX11_isVolt_7 : decode cX11_isVolt 7 = .ok (.iload_n 0, 1) := by decide +kernel
theorem dX11_isVolt_8 : decode cX11_isVolt 8 = .ok (.ldc_w 389, 3) := by decide +kernel
theorem dX11_isVolt_11 : decode cX11_isVolt 11 = .ok (.if_icmp .gt 7, 3) := by decide +kernel
theorem dX11_isVolt_14 : decode cX11_isVolt 14 = .ok (.iconst 1, 1) := by decide +kernel
theorem dX11_isVolt_15 : decode cX11_isVolt 15 = .ok (.goto 4, 3) := by decide +kernel
theorem dX11_isVolt_18 : decode cX11_isVolt 18 = .ok (.iconst 0, 1) := by decide +kernel
theorem dX11_isVolt_19 : decode cX11_isVolt 19 = .ok (.ireturn, 1) := by decide +kernel
theorem dX11_dividedUp_0 : decode cX11_dividedUp 0 = .ok (.iload_n 1, 1) := by decide +kernel
theorem dX11_dividedUp_1 : decode cX11_dividedUp 1 = .ok (.ifCond .gt 7, 3) := by decide +kernel
theorem dX11_dividedUp_4 : decode cX11_dividedUp 4 = .ok (.iconst 0, 1) := by decide +kernel
theorem dX11_dividedUp_5 : decode cX11_dividedUp 5 = .ok (.goto 10, 3) := by decide +kernel
theorem dX11_dividedUp_8 : decode cX11_dividedUp 8 = .ok (.iload_n 0, 1) := by decide +kernel
theorem dX11_dividedUp_9 : decode cX11_dividedUp 9 = .ok (.iload_n 1, 1) := by decide +kernel
theorem dX11_dividedUp_10 : decode cX11_dividedUp 10 = .ok (.iadd, 1) := by decide +kernel
theorem dX11_dividedUp_11 : decode cX11_dividedUp 11 = .ok (.iconst 1, 1) := by decide +kernel
theorem dX11_dividedUp_12 : decode cX11_dividedUp 12 = .ok (.isub, 1) := by decide +kernel
theorem dX11_dividedUp_13 : decode cX11_dividedUp 13 = .ok (.iload_n 1, 1) := by decide +kernel
theorem dX11_dividedUp_14 : decode cX11_dividedUp 14 = .ok (.idiv, 1) := by decide +kernel
theorem dX11_dividedUp_15 : decode cX11_dividedUp 15 = .ok (.ireturn, 1) := by decide +kernel
theorem dX12_init_0 : decode cX12_init 0 = .ok (.aload_n 0, 1) := by decide +kernel
theorem dX12_init_1 : decode cX12_init 1 = .ok (.invokespecial 1, 3) := by decide +kernel
theorem dX12_init_4 : decode cX12_init 4 = .ok (.aload_n 0, 1) := by decide +kernel
theorem dX12_init_5 : decode cX12_init 5 = .ok (.sipush 200, 3) := by decide +kernel
theorem dX12_init_8 : decode cX12_init 8 = .ok (.newarray .int, 2) := by decide +kernel
theorem dX12_init_10 : decode cX12_init 10 = .ok (.putfield 7, 3) := by decide +kernel
theorem dX12_init_13 : decode cX12_init 13 = .ok (.aload_n 0, 1) := by decide +kernel
theorem dX12_init_14 : decode cX12_init 14 = .ok (.bipush 9, 2) := by decide +kernel
theorem dX12_init_16 : decode cX12_init 16 = .ok (.newarray .int, 2) := by decide +kernel
theorem dX12_init_18 : decode cX12_init 18 = .ok (.dup, 1) := by decide +kernel
theorem dX12_init_19 : decode cX12_init 19 = .ok (.iconst 0, 1) := by decide +kernel
theorem dX12_init_20 : decode cX12_init 20 = .ok (.iconst 0, 1) := by decide +kernel
theorem dX12_init_21 : decode cX12_init 21 = .ok (.iastore, 1) := by decide +kernel
theorem dX12_init_22 : decode cX12_init 22 = .ok (.dup, 1) := by decide +kernel
theorem dX12_init_23 : decode cX12_init 23 = .ok (.iconst 1, 1) := by decide +kernel
theorem dX12_init_24 : decode cX12_init 24 = .ok (.iconst 4, 1) := by decide +kernel
theorem dX12_init_25 : decode cX12_init 25 = .ok (.iastore, 1) := by decide +kernel
theorem dX12_init_26 : decode cX12_init 26 = .ok (.dup, 1) := by decide +kernel
theorem dX12_init_27 : decode cX12_init 27 = .ok (.iconst 2, 1) := by decide +kernel
theorem dX12_init_28 : decode cX12_init 28 = .ok (.bipush 8, 2) := by decide +kernel
theorem dX12_init_30 : decode cX12_init 30 = .ok (.iastore, 1) := by decide +kernel
theorem dX12_init_31 : decode cX12_init 31 = .ok (.dup, 1) := by decide +kernel
theorem dX12_init_32 : decode cX12_init 32 = .ok (.iconst 3, 1) := by decide +kernel
theorem dX12_init_33 : decode cX12_init 33 = .ok (.bipush 14, 2) := by decide +kernel
theorem dX12_init_35 : decode cX12_init 35 = .ok (.iastore, 1) := by decide +kernel
theorem dX12_init_36 : decode cX12_init 36 = .ok (.dup, 1) := by decide +kernel
theorem dX12_init_37 : decode cX12_init 37 = .ok (.iconst 4, 1) := by decide +kernel
theorem dX12_init_38 : decode cX12_init 38 = .ok (.bipush 17, 2) := by decide +kernel
theorem dX12_init_40 : decode cX12_init 40 = .ok (.iastore, 1) := by decide +kernel
theorem dX12_init_41 : decode cX12_init 41 = .ok (.dup, 1) := by decide +kernel
theorem dX12_init_42 : decode cX12_init 42 = .ok (.iconst 5, 1) := by decide +kernel
theorem dX12_init_43 : decode cX12_init 43 = .ok (.bipush 21, 2) := by decide +kernel
theorem dX12_init_45 : decode cX12_init 45 = .ok (.iastore, 1) := by decide +kernel
theorem dX12_init_46 : decode cX12_init 46 = .ok (.dup, 1) := by decide +kernel
theorem dX12_init_47 : decode cX12_init 47 = .ok (.bipush 6, 2) := by decide +kernel
theorem dX12_init_49 : decode cX12_init 49 = .ok (.bipush 24, 2) := by decide +kernel
theorem dX12_init_51 : decode cX12_init 51 = .ok (.iastore, 1) := by decide +kernel
theorem dX12_init_52 : decode cX12_init 52 = .ok (.dup, 1) := by decide +kernel
theorem dX12_init_53 : decode cX12_init 53 = .ok (.bipush 7, 2) := by decide +kernel
theorem dX12_init_55 : decode cX12_init 55 = .ok (.bipush 28, 2) := by decide +kernel
theorem dX12_init_57 : decode cX12_init 57 = .ok (.iastore, 1) := by decide +kernel
theorem dX12_init_58 : decode cX12_init 58 = .ok (.dup, 1) := by decide +kernel
theorem dX12_init_59 : decode cX12_init 59 = .ok (.bipush 8, 2) := by decide +kernel
theorem dX12_init_61 : decode cX12_init 61 = .ok (.bipush 34, 2) := by decide +kernel
theorem dX12_init_63 : decode cX12_init 63 = .ok (.iastore, 1) := by decide +kernel
theorem dX12_init_64 : decode cX12_init 64 = .ok (.putfield 13, 3) := by decide +kernel
theorem dX12_init_67 : decode cX12_init 67 = .ok (.aload_n 0, 1) := by decide +kernel
theorem dX12_init_68 : decode cX12_init 68 = .ok (.bipush 34, 2) := by decide +kernel
theorem dX12_init_70 : decode cX12_init 70 = .ok (.newarray .int, 2) := by decide +kernel
theorem dX12_init_72 : decode cX12_init 72 = .ok (.dup, 1) := by decide +kernel
theorem dX12_init_73 : decode cX12_init 73 = .ok (.iconst 0, 1) := by decide +kernel
theorem dX12_init_74 : decode cX12_init 74 = .ok (.bipush 98, 2) := by decide +kernel
theorem dX12_init_76 : decode cX12_init 76 = .ok (.iastore, 1) := by decide +kernel
theorem dX12_init_77 : decode cX12_init 77 = .ok (.dup, 1) := by decide +kernel
theorem dX12_init_78 : decode cX12_init 78 = .ok (.iconst 1, 1) := by decide +kernel
theorem dX12_init_79 : decode cX12_init 79 = .ok (.bipush 105, 2) := by decide +kernel
theorem dX12_init_81 : decode cX12_init 81 = .ok (.iastore, 1) := by decide +kernel
theorem dX12_init_82 : decode cX12_init 82 = .ok (.dup, 1) := by decide +kernel
theorem dX12_init_83 : decode cX12_init 83 = .ok (.iconst 2, 1) := by decide +kernel
theorem dX12_init_84 : decode cX12_init 84 = .ok (.bipush 116, 2) := by decide +kernel
theorem dX12_init_86 : decode cX12_init 86 = .ok (.iastore, 1) := by decide +kernel
theorem dX12_init_87 : decode cX12_init 87 = .ok (.dup, 1) := by decide +kernel
theorem dX12_init_88 : decode cX12_init 88 = .ok (.iconst 3, 1) := by decide +kernel
theorem dX12_init_89 : decode cX12_init 89 = .ok (.bipush 115, 2) := by decide +kernel
theorem dX12_init_91 : decode cX12_init 91 = .ok (.iastore, 1) := by decide +kernel
theorem dX12_init_92 : decode cX12_init 92 = .ok (.dup, 1) := by decide +kernel
theorem dX12_init_93 : decode cX12_init 93 = .ok (.iconst 4, 1) := by decide +kernel
theorem dX12_init_94 : decode cX12_init 94 = .ok (.bipush 117, 2) := by decide +kernel
theorem dX12_init_96 : decode cX12_init 96 = .ok (.iastore, 1) := by decide +kernel
theorem dX12_init_97 : decode cX12_init 97 = .ok (.dup, 1) := by decide +kernel
theorem dX12_init_98 : decode cX12_init 98 = .ok (.iconst 5, 1) := by decide +kernel
theorem dX12_init_99 : decode cX12_init 99 = .ok (.bipush 110, 2) := by decide +kernel
theorem dX12_init_101 : decode cX12_init 101 = .ok (.iastore, 1) := by decide +kernel
theorem dX12_init_102 : decode cX12_init 102 = .ok (.dup, 1) := by decide +kernel
theorem dX12_init_103 : decode cX12_init 103 = .ok (.bipush 6, 2) := by decide +kernel
theorem dX12_init_105 : decode cX12_init 105 = .ok (.bipush 105, 2) := by decide +kernel
theorem dX12_init_107 : decode cX12_init 107 = .ok (.iastore, 1) := by decide +kernel
theorem dX12_init_108 : decode cX12_init 108 = .ok (.dup, 1) := by decide +kernel
theorem dX12_init_109 : decode cX12_init 109 = .ok (.bipush 7, 2) := by decide +kernel
theorem dX12_init_111 : decode cX12_init 111 = .ok (.bipush 116, 2) := by decide +kernel
theorem dX12_init_113 : decode cX12_init 113 = .ok (.iastore, 1) := by decide +kernel
theorem dX12_init_114 : decode cX12_init 114 = .ok (.dup, 1) := by decide +kernel
theorem dX12_init_115 : decode cX12_init 115 = .ok (.bipush 8, 2) := by decide +kernel
theorem dX12_init_117 : decode cX12_init 117 = .ok (.bipush 111, 2) := by decide +kernel
theorem dX12_init_119 : decode cX12_init 119 = .ok (.iastore, 1) := by decide +kernel
theorem dX12_init_120 : decode cX12_init 120 = .ok (.dup, 1) := by decide +kernel
theorem dX12_init_121 : decode cX12_init 121 = .ok (.bipush 9, 2) := by decide +kernel
theorem dX12_init_123 : decode cX12_init 123 = .ok (.bipush 102, 2) := by decide +kernel
theorem dX12_init_125 : decode cX12_init 125 = .ok (.iastore, 1) := by decide +kernel
theorem dX12_init_126 : decode cX12_init 126 = .ok (.dup, 1) := by decide +kernel
theorem dX12_init_127 : decode cX12_init 127 = .ok (.bipush 10, 2) := by decide +kernel
theorem dX12_init_129 : decode cX12_init 129 = .ok (.bipush 102, 2) := by decide +kernel
theorem dX12_init_131 : decode cX12_init 131 = .ok (.iastore, 1) := by decide +kernel
theorem dX12_init_132 : decode cX12_init 132 = .ok (.dup, 1) := by decide +kernel
theorem dX12_init_133 : decode cX12_init 133 = .ok (.bipush 11, 2) := by decide +kernel
theorem dX12_init_135 : decode cX12_init 135 = .ok (.bipush 115, 2) := by decide +kernel
theorem dX12_init_137 : decode cX12_init 137 = .ok (.iastore, 1) := by decide +kernel
theorem dX12_init_138 : decode cX12_init 138 = .ok (.dup, 1) := by decide +kernel
theorem dX12_init_139 : decode cX12_init 139 = .ok (.bipush 12, 2) := by decide +kernel
theorem dX12_init_141 : decode cX12_init 141 = .ok (.bipush 101, 2) := by decide +kernel
theorem dX12_init_143 : decode cX12_init 143 = .ok (.iastore, 1) := by decide +kernel
theorem dX12_init_144 : decode cX12_init 144 = .ok (.dup, 1) := by decide +kernel
theorem dX12_init_145 : decode cX12_init 145 = .ok (.bipush 13, 2) := by decide +kernel
theorem dX12_init_147 : decode cX12_init 147 = .ok (.bipush 116, 2) := by decide +kernel
theorem dX12_init_149 : decode cX12_init 149 = .ok (.iastore, 1) := by decide +kernel
theorem dX12_init_150 : decode cX12_init 150 = .ok (.dup, 1) := by decide +kernel
theorem dX12_init_151 : decode cX12_init 151 = .ok (.bipush 14, 2) := by decide +kernel
theorem dX12_init_153 : decode cX12_init 153 = .ok (.bipush 116, 2) := by decide +kernel
theorem dX12_init_155 : decode cX12_init 155 = .ok (.iastore, 1) := by decide +kernel
theorem dX12_init_156 : decode cX12_init 156 = .ok (.dup, 1) := by decide +kernel
theorem dX12_init_157 : decode cX12_init 157 = .ok (.bipush 15, 2) := by decide +kernel
theorem dX12_init_159 : decode cX12_init 159 = .ok (.bipush 111, 2) := by decide +kernel
theorem dX12_init_161 : decode cX12_init 161 = .ok (.iastore, 1) := by decide +kernel
theorem dX12_init_162 : decode cX12_init 162 = .ok (.dup, 1) := by decide +kernel
theorem dX12_init_163 : decode cX12_init 163 = .ok (.bipush 16, 2) := by decide +kernel
theorem dX12_init_165 : decode cX12_init 165 = .ok (.bipush 112, 2) := by decide +kernel
theorem dX12_init_167 : decode cX12_init 167 = .ok (.iastore, 1) := by decide +kernel
theorem dX12_init_168 : decode cX12_init 168 = .ok (.dup, 1) := by decide +kernel
theorem dX12_init_169 : decode cX12_init 169 = .ok (.bipush 17, 2) := by decide +kernel
theorem dX12_init_171 : decode cX12_init 171 = .ok (.bipush 108, 2) := by decide +kernel
theorem dX12_init_173 : decode cX12_init 173 = .ok (.iastore, 1) := by decide +kernel
theorem dX12_init_174 : decode cX12_init 174 = .ok (.dup, 1) := by decide +kernel
theorem dX12_init_175 : decode cX12_init 175 = .ok (.bipush 18, 2) := by decide +kernel
theorem dX12_init_177 : decode cX12_init 177 = .ok (.bipush 101, 2) := by decide +kernel
theorem dX12_init_179 : decode cX12_init 179 = .ok (.iastore, 1) := by decide +kernel
theorem dX12_init_180 : decode cX12_init 180 = .ok (.dup, 1) := by decide +kernel
theorem dX12_init_181 : decode cX12_init 181 = .ok (.bipush 19, 2) := by decide +kernel
theorem dX12_init_183 : decode cX12_init 183 = .ok (.bipush 97, 2) := by decide +kernel
theorem dX12_init_185 : decode cX12_init 185 = .ok (.iastore, 1) := by decide +kernel
theorem dX12_init_186 : decode cX12_init 186 = .ok (.dup, 1) := by decide +kernel
theorem dX12_init_187 : decode cX12_init 187 = .ok (.bipush 20, 2) := by decide +kernel
theorem dX12_init_189 : decode cX12_init 189 = .ok (.bipush 110, 2) := by decide +kernel
theorem dX12_init_191 : decode cX12_init 191 = .ok (.iastore, 1) := by decide +kernel
theorem dX12_init_192 : decode cX12_init 192 = .ok (.dup, 1) := by decide +kernel
theorem dX12_init_193 : decode cX12_init 193 = .ok (.bipush 21, 2) := by decide +kernel
theorem dX12_init_195 : decode cX12_init 195 = .ok (.bipush 114, 2) := by decide +kernel
theorem dX12_init_197 : decode cX12_init 197 = .ok (.iastore, 1) := by decide +kernel
theorem dX12_init_198 : decode cX12_init 198 = .ok (.dup, 1) := by decide +kernel
theorem dX12_init_199 : decode cX12_init 199 = .ok (.bipush 22, 2) := by decide +kernel
theorem dX12_init_201 : decode cX12_init 201 = .ok (.bipush 101, 2) := by decide +kernel
theorem dX12_init_203 : decode cX12_init 203 = .ok (.iastore, 1) := by decide +kernel
theorem dX12_init_204 : decode cX12_init 204 = .ok (.dup, 1) := by decide +kernel
theorem dX12_init_205 : decode cX12_init 205 = .ok (.bipush 23, 2) := by decide +kernel
theorem dX12_init_207 : decode cX12_init 207 = .ok (.bipush 102, 2) := by decide +kernel
theorem dX12_init_209 : decode cX12_init 209 = .ok (.iastore, 1) := by decide +kernel
theorem dX12_init_210 : decode cX12_init 210 = .ok (.dup, 1) := by decide +kernel
theorem dX12_init_211 : decode cX12_init 211 = .ok (.bipush 24, 2) := by decide +kernel
theorem dX12_init_213 : decode cX12_init 213 = .ok (.bipush 109, 2) := by decide +kernel
theorem dX12_init_215 : decode cX12_init 215 = .ok (.iastore, 1) := by decide +kernel
theorem dX12_init_216 : decode cX12_init 216 = .ok (.dup, 1) := by decide +kernel
theorem dX12_init_217 : decode cX12_init 217 = .ok (.bipush 25, 2) := by decide +kernel
theorem dX12_init_219 : decode cX12_init 219 = .ok (.bipush 105, 2) := by decide +kernel
theorem dX12_init_221 : decode cX12_init 221 = .ok (.iastore, 1) := by decide +kernel
theorem dX12_init_222 : decode cX12_init 222 = .ok (.dup, 1) := by decide +kernel
theorem dX12_init_223 : decode cX12_init 223 = .ok (.bipush 26, 2) := by decide +kernel
theorem dX12_init_225 : decode cX12_init 225 = .ok (.bipush 115, 2) := by decide +kernel
theorem dX12_init_227 : decode cX12_init 227 = .ok (.iastore, 1) := by decide +kernel
theorem dX12_init_228 : decode cX12_init 228 = .ok (.dup, 1) := by decide +kernel
theorem dX12_init_229 : decode cX12_init 229 = .ok (.bipush 27, 2) := by decide +kernel
theorem dX12_init_231 : decode cX12_init 231 = .ok (.bipush 115, 2) := by decide +kernel
theorem dX12_init_233 : decode cX12_init 233 = .ok (.iastore, 1) := by decide +kernel
theorem dX12_init_234 : decode cX12_init 234 = .ok (.dup, 1) := by decide +kernel
theorem dX12_init_235 : decode cX12_init 235 = .ok (.bipush 28, 2) := by decide +kernel
theorem dX12_init_237 : decode cX12_init 237 = .ok (.bipush 115, 2) := by decide +kernel
theorem dX12_init_239 : decode cX12_init 239 = .ok (.iastore, 1) := by decide +kernel
theorem dX12_init_240 : decode cX12_init 240 = .ok (.dup, 1) := by decide +kernel
theorem dX12_init_241 : decode cX12_init 241 = .ok (.bipush 29, 2) := by decide +kernel
theorem dX12_init_243 : decode cX12_init 243 = .ok (.bipush 116, 2) := by decide +kernel
theorem dX12_init_245 : decode cX12_init 245 = .ok (.iastore, 1) := by decide +kernel
theorem dX12_init_246 : decode cX12_init 246 = .ok (.dup, 1) := by decide +kernel
theorem dX12_init_247 : decode cX12_init 247 = .ok (.bipush 30, 2) := by decide +kernel
theorem dX12_init_249 : decode cX12_init 249 = .ok (.bipush 114, 2) := by decide +kernel
theorem dX12_init_251 : decode cX12_init 251 = .ok (.iastore, 1) := by decide +kernel
theorem dX12_init_252 : decode cX12_init 252 = .ok (.dup, 1) := by decide +kernel
theorem dX12_init_253 : decode cX12_init 253 = .ok (.bipush 31, 2) := by decide +kernel
theorem dX12_init_255 : decode cX12_init 255 = .ok (.bipush 105, 2) := by decide +kernel
theorem dX12_init_257 : decode cX12_init 257 = .ok (.iastore, 1) := by decide +kernel
theorem dX12_init_258 : decode cX12_init 258 = .ok (.dup, 1) := by decide +kernel
theorem dX12_init_259 : decode cX12_init 259 = .ok (.bipush 32, 2) := by decide +kernel
theorem dX12_init_261 : decode cX12_init 261 = .ok (.bipush 110, 2) := by decide +kernel
theorem dX12_init_263 : decode cX12_init 263 = .ok (.iastore, 1) := by decide +kernel
theorem dX12_init_264 : decode cX12_init 264 = .ok (.dup, 1) := by decide +kernel
theorem dX12_init_265 : decode cX12_init 265 = .ok (.bipush 33, 2) := by decide +kernel
theorem dX12_init_267 : decode cX12_init 267 = .ok (.bipush 103, 2) := by decide +kernel
theorem dX12_init_269 : decode cX12_init 269 = .ok (.iastore, 1) := by decide +kernel
theorem dX12_init_270 : decode cX12_init 270 = .ok (.putfield 16, 3) := by decide +kernel
theorem dX12_init_273 : decode cX12_init 273 = .ok (.aload_n 0, 1) := by decide +kernel
theorem dX12_init_274 : decode cX12_init 274 = .ok (.bipush 31, 2) := by decide +kernel
theorem dX12_init_276 : decode cX12_init 276 = .ok (.newarray .int, 2) := by decide +kernel
theorem dX12_init_278 : decode cX12_init 278 = .ok (.dup, 1) := by decide +kernel
theorem dX12_init_279 : decode cX12_init 279 = .ok (.iconst 0, 1) := by decide +kernel
theorem dX12_init_280 : decode cX12_init 280 = .ok (.iconst 4, 1) := by decide +kernel
theorem dX12_init_281 : decode cX12_init 281 = .ok (.iastore, 1) := by decide +kernel
theorem dX12_init_282 : decode cX12_init 282 = .ok (.dup, 1) := by decide +kernel
theorem dX12_init_283 : decode cX12_init 283 = .ok (.iconst 1, 1) := by decide +kernel
theorem dX12_init_284 : decode cX12_init 284 = .ok (.bipush 16, 2) := by decide +kernel
theorem dX12_init_286 : decode cX12_init 286 = .ok (.iastore, 1) := by decide +kernel
theorem dX12_init_287 : decode cX12_init 287 = .ok (.dup, 1) := by decide +kernel
theorem dX12_init_288 : decode cX12_init 288 = .ok (.iconst 2, 1) := by decide +kernel
theorem dX12_init_289 : decode cX12_init 289 = .ok (.iconst 0, 1) := by decide +kernel
theorem dX12_init_290 : decode cX12_init 290 = .ok (.iastore, 1) := by decide +kernel
theorem dX12_init_291 : decode cX12_init 291 = .ok (.dup, 1) := by decide +kernel
theorem dX12_init_292 : decode cX12_init 292 = .ok (.iconst 3, 1) := by decide +kernel
theorem dX12_init_293 : decode cX12_init 293 = .ok (.iconst 0, 1) := by decide +kernel
theorem dX12_init_294 : decode cX12_init 294 = .ok (.iastore, 1) := by decide +kernel
theorem dX12_init_295 : decode cX12_init 295 = .ok (.dup, 1) := by decide +kernel
theorem dX12_init_296 : decode cX12_init 296 = .ok (.iconst 4, 1) := by decide +kernel
theorem dX12_init_297 : decode cX12_init 297 = .ok (.iconst 0, 1) := by decide +kernel
theorem dX12_init_298 : decode cX12_init 298 = .ok (.iastore, 1) := by decide +kernel
theorem dX12_init_299 : decode cX12_init 299 = .ok (.dup, 1) := by decide +kernel
theorem dX12_init_300 : decode cX12_init 300 = .ok (.iconst 5, 1) := by decide +kernel
theorem dX12_init_301 : decode cX12_init 301 = .ok (.bipush 100, 2) := by decide +kernel
theorem dX12_init_303 : decode cX12_init 303 = .ok (.iastore, 1) := by decide +kernel
theorem dX12_init_304 : decode cX12_init 304 = .ok (.dup, 1) := by decide +kernel
theorem dX12_init_305 : decode cX12_init 305 = .ok (.bipush 6, 2) := by decide +kernel
theorem dX12_init_307 : decode cX12_init 307 = .ok (.iconst 0, 1) := by decide +kernel
theorem dX12_init_308 : decode cX12_init 308 = .ok (.iastore, 1) := by decide +kernel
theorem dX12_init_309 : decode cX12_init 309 = .ok (.dup, 1) := by decide +kernel
theorem dX12_init_310 : decode cX12_init 310 = .ok (.bipush 7, 2) := by decide +kernel
theorem dX12_init_312 : decode cX12_init 312 = .ok (.iconst 0, 1) := by decide +kernel
theorem dX12_init_313 : decode cX12_init 313 = .ok (.iastore, 1) := by decide +kernel
theorem dX12_init_314 : decode cX12_init 314 = .ok (.dup, 1) := by decide +kernel
theorem dX12_init_315 : decode cX12_init 315 = .ok (.bipush 8, 2) := by decide +kernel
theorem dX12_init_317 : decode cX12_init 317 = .ok (.iconst 0, 1) := by decide +kernel
theorem dX12_init_318 : decode cX12_init 318 = .ok (.iastore, 1) := by decide +kernel
theorem dX12_init_319 : decode cX12_init 319 = .ok (.dup, 1) := by decide +kernel
theorem dX12_init_320 : decode cX12_init 320 = .ok (.bipush 9, 2) := by decide +kernel
theorem dX12_init_322 : decode cX12_init 322 = .ok (.iconst 0, 1) := by decide +kernel
theorem dX12_init_323 : decode cX12_init 323 = .ok (.iastore, 1) := by decide +kernel
theorem dX12_init_324 : decode cX12_init 324 = .ok (.dup, 1) := by decide +kernel
theorem dX12_init_325 : decode cX12_init 325 = .ok (.bipush 10, 2) := by decide +kernel
theorem dX12_init_327 : decode cX12_init 327 = .ok (.iconst 0, 1) := by decide +kernel
theorem dX12_init_328 : decode cX12_init 328 = .ok (.iastore, 1) := by decide +kernel
theorem dX12_init_329 : decode cX12_init 329 = .ok (.dup, 1) := by decide +kernel
theorem dX12_init_330 : decode cX12_init 330 = .ok (.bipush 11, 2) := by decide +kernel
theorem dX12_init_332 : decode cX12_init 332 = .ok (.iconst 0, 1) := by decide +kernel
theorem dX12_init_333 : decode cX12_init 333 = .ok (.iastore, 1) := by decide +kernel
theorem dX12_init_334 : decode cX12_init 334 = .ok (.dup, 1) := by decide +kernel
theorem dX12_init_335 : decode cX12_init 335 = .ok (.bipush 12, 2) := by decide +kernel
theorem dX12_init_337 : decode cX12_init 337 = .ok (.iconst 0, 1) := by decide +kernel
theorem dX12_init_338 : decode cX12_init 338 = .ok (.iastore, 1) := by decide +kernel
theorem dX12_init_339 : decode cX12_init 339 = .ok (.dup, 1) := by decide +kernel
theorem dX12_init_340 : decode cX12_init 340 = .ok (.bipush 13, 2) := by decide +kernel
theorem dX12_init_342 : decode cX12_init 342 = .ok (.iconst 0, 1) := by decide +kernel
theorem dX12_init_343 : decode cX12_init 343 = .ok (.iastore, 1) := by decide +kernel
theorem dX12_init_344 : decode cX12_init 344 = .ok (.dup, 1) := by decide +kernel
theorem dX12_init_345 : decode cX12_init 345 = .ok (.bipush 14, 2) := by decide +kernel
theorem dX12_init_347 : decode cX12_init 347 = .ok (.iconst 0, 1) := by decide +kernel
theorem dX12_init_348 : decode cX12_init 348 = .ok (.iastore, 1) := by decide +kernel
theorem dX12_init_349 : decode cX12_init 349 = .ok (.dup, 1) := by decide +kernel
theorem dX12_init_350 : decode cX12_init 350 = .ok (.bipush 15, 2) := by decide +kernel
theorem dX12_init_352 : decode cX12_init 352 = .ok (.bipush 10, 2) := by decide +kernel
theorem dX12_init_354 : decode cX12_init 354 = .ok (.iastore, 1) := by decide +kernel
theorem dX12_init_355 : decode cX12_init 355 = .ok (.dup, 1) := by decide +kernel
theorem dX12_init_356 : decode cX12_init 356 = .ok (.bipush 16, 2) := by decide +kernel
theorem dX12_init_358 : decode cX12_init 358 = .ok (.bipush 10, 2) := by decide +kernel
theorem dX12_init_360 : decode cX12_init 360 = .ok (.iastore, 1) := by decide +kernel
theorem dX12_init_361 : decode cX12_init 361 = .ok (.dup, 1) := by decide +kernel
theorem dX12_init_362 : decode cX12_init 362 = .ok (.bipush 17, 2) := by decide +kernel
theorem dX12_init_364 : decode cX12_init 364 = .ok (.bipush 10, 2) := by decide +kernel
theorem dX12_init_366 : decode cX12_init 366 = .ok (.iastore, 1) := by decide +kernel
theorem dX12_init_367 : decode cX12_init 367 = .ok (.dup, 1) := by decide +kernel
theorem dX12_init_368 : decode cX12_init 368 = .ok (.bipush 18, 2) := by decide +kernel
theorem dX12_init_370 : decode cX12_init 370 = .ok (.bipush 10, 2) := by decide +kernel
theorem dX12_init_372 : decode cX12_init 372 = .ok (.iastore, 1) := by decide +kernel
theorem dX12_init_373 : decode cX12_init 373 = .ok (.dup, 1) := by decide +kernel
theorem dX12_init_374 : decode cX12_init 374 = .ok (.bipush 19, 2) := by decide +kernel
theorem dX12_init_376 : decode cX12_init 376 = .ok (.bipush 10, 2) := by decide +kernel
theorem dX12_init_378 : decode cX12_init 378 = .ok (.iastore, 1) := by decide +kernel
theorem dX12_init_379 : decode cX12_init 379 = .ok (.dup, 1) := by decide +kernel
theorem dX12_init_380 : decode cX12_init 380 = .ok (.bipush 20, 2) := by decide +kernel
theorem dX12_init_382 : decode cX12_init 382 = .ok (.bipush 10, 2) := by decide +kernel
theorem dX12_init_384 : decode cX12_init 384 = .ok (.iastore, 1) := by decide +kernel
theorem dX12_init_385 : decode cX12_init 385 = .ok (.dup, 1) := by decide +kernel
theorem dX12_init_386 : decode cX12_init 386 = .ok (.bipush 21, 2) := by decide +kernel
theorem dX12_init_388 : decode cX12_init 388 = .ok (.bipush 10, 2) := by decide +kernel
theorem dX12_init_390 : decode cX12_init 390 = .ok (.iastore, 1) := by decide +kernel
theorem dX12_init_391 : decode cX12_init 391 = .ok (.dup, 1) := by decide +kernel
theorem dX12_init_392 : decode cX12_init 392 = .ok (.bipush 22, 2) := by decide +kernel
theorem dX12_init_394 : decode cX12_init 394 = .ok (.bipush 10, 2) := by decide +kernel
theorem dX12_init_396 : decode cX12_init 396 = .ok (.iastore, 1) := by decide +kernel
theorem dX12_init_397 : decode cX12_init 397 = .ok (.dup, 1) := by decide +kernel
theorem dX12_init_398 : decode cX12_init 398 = .ok (.bipush 23, 2) := by decide +kernel
theorem dX12_init_400 : decode cX12_init 400 = .ok (.bipush 10, 2) := by decide +kernel
theorem dX12_init_402 : decode cX12_init 402 = .ok (.iastore, 1) := by decide +kernel
theorem dX12_init_403 : decode cX12_init 403 = .ok (.dup, 1) := by decide +kernel
theorem dX12_init_404 : decode cX12_init 404 = .ok (.bipush 24, 2) := by decide +kernel
theorem dX12_init_406 : decode cX12_init 406 = .ok (.bipush 10, 2) := by decide +kernel
theorem dX12_init_408 : decode cX12_init 408 = .ok (.iastore, 1) := by decide +kernel
theorem dX12_init_409 : decode cX12_init 409 = .ok (.dup, 1) := by decide +kernel
theorem dX12_init_410 : decode cX12_init 410 = .ok (.bipush 25, 2) := by decide +kernel
theorem dX12_init_412 : decode cX12_init 412 = .ok (.bipush 10, 2) := by decide +kernel
theorem dX12_init_414 : decode cX12_init 414 = .ok (.iastore, 1) := by decide +kernel
theorem dX12_init_415 : decode cX12_init 415 = .ok (.dup, 1) := by decide +kernel
theorem dX12_init_416 : decode cX12_init 416 = .ok (.bipush 26, 2) := by decide +kernel
theorem dX12_init_418 : decode cX12_init 418 = .ok (.bipush 10, 2) := by decide +kernel
theorem dX12_init_420 : decode cX12_init 420 = .ok (.iastore, 1) := by decide +kernel
theorem dX12_init_421 : decode cX12_init 421 = .ok (.dup, 1) := by decide +kernel
theorem dX12_init_422 : decode cX12_init 422 = .ok (.bipush 27, 2) := by decide +kernel
theorem dX12_init_424 : decode cX12_init 424 = .ok (.bipush 10, 2) := by decide +kernel
theorem dX12_init_426 : decode cX12_init 426 = .ok (.iastore, 1) := by decide +kernel
theorem dX12_init_427 : decode cX12_init 427 = .ok (.dup, 1) := by decide +kernel
theorem dX12_init_428 : decode cX12_init 428 = .ok (.bipush 28, 2) := by decide +kernel
theorem dX12_init_430 : decode cX12_init 430 = .ok (.bipush 10, 2) := by decide +kernel
theorem dX12_init_432 : decode cX12_init 432 = .ok (.iastore, 1) := by decide +kernel
theorem dX12_init_433 : decode cX12_init 433 = .ok (.dup, 1) := by decide +kernel
theorem dX12_init_434 : decode cX12_init 434 = .ok (.bipush 29, 2) := by decide +kernel
theorem dX12_init_436 : decode cX12_init 436 = .ok (.bipush 10, 2) := by decide +kernel
theorem dX12_init_438 : decode cX12_init 438 = .ok (.iastore, 1) := by decide +kernel
theorem dX12_init_439 : decode cX12_init 439 = .ok (.dup, 1) := by decide +kernel
theorem dX12_init_440 : decode cX12_init 440 = .ok (.bipush 30, 2) := by decide +kernel
theorem dX12_init_442 : decode cX12_init 442 = .ok (.bipush 10, 2) := by decide +kernel
theorem dX12_init_444 : decode cX12_init 444 = .ok (.iastore, 1) := by decide +kernel
theorem dX12_init_445 : decode cX12_init 445 = .ok (.putfield 19, 3) := by decide +kernel
theorem dX12_init_448 : decode cX12_init 448 = .ok (.aload_n 0, 1) := by decide +kernel
theorem dX12_init_449 : decode cX12_init 449 = .ok (.bipush 31, 2) := by decide +kernel
theorem dX12_init_451 : decode cX12_init 451 = .ok (.newarray .int, 2) := by decide +kernel
theorem dX12_init_453 : decode cX12_init 453 = .ok (.putfield 22, 3) := by decide +kernel
theorem dX12_init_456 : decode cX12_init 456 = .ok (.aload_n 0, 1) := by decide +kernel
theorem dX12_init_457 : decode cX12_init 457 = .ok (.sipush 256, 3) := by decide +kernel
theorem dX12_init_460 : decode cX12_init 460 = .ok (.newarray .int, 2) := by decide +kernel
theorem dX12_init_462 : decode cX12_init 462 = .ok (.putfield 25, 3) := by decide +kernel
theorem dX12_init_465 : decode cX12_init 465 = .ok (.aload_n 0, 1) := by decide +kernel
theorem dX12_init_466 : decode cX12_init 466 = .ok (.sipush 256, 3) := by decide +kernel
theorem dX12_init_469 : decode cX12_init 469 = .ok (.newarray .boolean, 2) := by decide +kernel
theorem dX12_init_471 : decode cX12_init 471 = .ok (.putfield 28, 3) := by decide +kernel
theorem dX12_init_474 : decode cX12_init 474 = .ok (.aload_n 0, 1) := by decide +kernel
theorem dX12_init_475 : decode cX12_init 475 = .ok (.bipush 16, 2) := by decide +kernel
theorem dX12_init_477 : decode cX12_init 477 = .ok (.newarray .int, 2) := by decide +kernel
theorem dX12_init_479 : decode cX12_init 479 = .ok (.dup, 1) := by decide +kernel
theorem dX12_init_480 : decode cX12_init 480 = .ok (.iconst 0, 1) := by decide +kernel
theorem dX12_init_481 : decode cX12_init 481 = .ok (.bipush (-4), 2) := by decide +kernel
theorem dX12_init_483 : decode cX12_init 483 = .ok (.iastore, 1) := by decide +kernel
theorem dX12_init_484 : decode cX12_init 484 = .ok (.dup, 1) := by decide +kernel
theorem dX12_init_485 : decode cX12_init 485 = .ok (.iconst 1, 1) := by decide +kernel
theorem dX12_init_486 : decode cX12_init 486 = .ok (.bipush (-4), 2) := by decide +kernel
theorem dX12_init_488 : decode cX12_init 488 = .ok (.iastore, 1) := by decide +kernel
theorem dX12_init_489 : decode cX12_init 489 = .ok (.dup, 1) := by decide +kernel
theorem dX12_init_490 : decode cX12_init 490 = .ok (.iconst 2, 1) := by decide +kernel
theorem dX12_init_491 : decode cX12_init 491 = .ok (.bipush (-4), 2) := by decide +kernel
theorem dX12_init_493 : decode cX12_init 493 = .ok (.iastore, 1) := by decide +kernel
theorem dX12_init_494 : decode cX12_init 494 = .ok (.dup, 1) := by decide +kernel
theorem dX12_init_495 : decode cX12_init 495 = .ok (.iconst 3, 1) := by decide +kernel
theorem dX12_init_496 : decode cX12_init 496 = .ok (.bipush (-4), 2) := by decide +kernel
theorem dX12_init_498 : decode cX12_init 498 = .ok (.iastore, 1) := by decide +kernel
theorem dX12_init_499 : decode cX12_init 499 = .ok (.dup, 1) := by decide +kernel
theorem dX12_init_500 : decode cX12_init 500 = .ok (.iconst 4, 1) := by decide +kernel
theorem dX12_init_501 : decode cX12_init 501 = .ok (.bipush (-4), 2) := by decide +kernel
theorem dX12_init_503 : decode cX12_init 503 = .ok (.iastore, 1) := by decide +kernel
theorem dX12_init_504 : decode cX12_init 504 = .ok (.dup, 1) := by decide +kernel
theorem dX12_init_505 : decode cX12_init 505 = .ok (.iconst 5, 1) := by decide +kernel
theorem dX12_init_506 : decode cX12_init 506 = .ok (.bipush (-4), 2) := by decide +kernel
theorem dX12_init_508 : decode cX12_init 508 = .ok (.iastore, 1) := by decide +kernel
theorem dX12_init_509 : decode cX12_init 509 = .ok (.dup, 1) := by decide +kernel
theorem dX12_init_510 : decode cX12_init 510 = .ok (.bipush 6, 2) := by decide +kernel
theorem dX12_init_512 : decode cX12_init 512 = .ok (.bipush (-4), 2) := by decide +kernel
theorem dX12_init_514 : decode cX12_init 514 = .ok (.iastore, 1) := by decide +kernel
theorem dX12_init_515 : decode cX12_init 515 = .ok (.dup, 1) := by decide +kernel
theorem dX12_init_516 : decode cX12_init 516 = .ok (.bipush 7, 2) := by decide +kernel
theorem dX12_init_518 : decode cX12_init 518 = .ok (.bipush (-4), 2) := by decide +kernel
theorem dX12_init_520 : decode cX12_init 520 = .ok (.iastore, 1) := by decide +kernel
theorem dX12_init_521 : decode cX12_init 521 = .ok (.dup, 1) := by decide +kernel
theorem dX12_init_522 : decode cX12_init 522 = .ok (.bipush 8, 2) := by decide +kernel
theorem dX12_init_524 : decode cX12_init 524 = .ok (.bipush (-4), 2) := by decide +kernel
theorem dX12_init_526 : decode cX12_init 526 = .ok (.iastore, 1) := by decide +kernel
theorem dX12_init_527 : decode cX12_init 527 = .ok (.dup, 1) := by decide +kernel
theorem dX12_init_528 : decode cX12_init 528 = .ok (.bipush 9, 2) := by decide +kernel
theorem dX12_init_530 : decode cX12_init 530 = .ok (.bipush (-4), 2) := by decide +kernel
theorem dX12_init_532 : decode cX12_init 532 = .ok (.iastore, 1) := by decide +kernel
theorem dX12_init_533 : decode cX12_init 533 = .ok (.dup, 1) := by decide +kernel
theorem dX12_init_534 : decode cX12_init 534 = .ok (.bipush 10, 2) := by decide +kernel
theorem dX12_init_536 : decode cX12_init 536 = .ok (.bipush (-4), 2) := by decide +kernel
theorem dX12_init_538 : decode cX12_init 538 = .ok (.iastore, 1) := by decide +kernel
theorem dX12_init_539 : decode cX12_init 539 = .ok (.dup, 1) := by decide +kernel
theorem dX12_init_540 : decode cX12_init 540 = .ok (.bipush 11, 2) := by decide +kernel
theorem dX12_init_542 : decode cX12_init 542 = .ok (.bipush (-4), 2) := by decide +kernel
theorem dX12_init_544 : decode cX12_init 544 = .ok (.iastore, 1) := by decide +kernel
theorem dX12_init_545 : decode cX12_init 545 = .ok (.dup, 1) := by decide +kernel
theorem dX12_init_546 : decode cX12_init 546 = .ok (.bipush 12, 2) := by decide +kernel
theorem dX12_init_548 : decode cX12_init 548 = .ok (.bipush (-4), 2) := by decide +kernel
theorem dX12_init_550 : decode cX12_init 550 = .ok (.iastore, 1) := by decide +kernel
theorem dX12_init_551 : decode cX12_init 551 = .ok (.dup, 1) := by decide +kernel
theorem dX12_init_552 : decode cX12_init 552 = .ok (.bipush 13, 2) := by decide +kernel
theorem dX12_init_554 : decode cX12_init 554 = .ok (.bipush (-4), 2) := by decide +kernel
theorem dX12_init_556 : decode cX12_init 556 = .ok (.iastore, 1) := by decide +kernel
theorem dX12_init_557 : decode cX12_init 557 = .ok (.dup, 1) := by decide +kernel
theorem dX12_init_558 : decode cX12_init 558 = .ok (.bipush 14, 2) := by decide +kernel
theorem dX12_init_560 : decode cX12_init 560 = .ok (.bipush (-4), 2) := by decide +kernel
theorem dX12_init_562 : decode cX12_init 562 = .ok (.iastore, 1) := by decide +kernel
theorem dX12_init_563 : decode cX12_init 563 = .ok (.dup, 1) := by decide +kernel
theorem dX12_init_564 : decode cX12_init 564 = .ok (.bipush 15, 2) := by decide +kernel
theorem dX12_init_566 : decode cX12_init 566 = .ok (.bipush (-4), 2) := by decide +kernel
theorem dX12_init_568 : decode cX12_init 568 = .ok (.iastore, 1) := by decide +kernel
theorem dX12_init_569 : decode cX12_init 569 = .ok (.putfield 32, 3) := by decide +kernel
theorem dX12_init_572 : decode cX12_init 572 = .ok (.aload_n 0, 1) := by decide +kernel
theorem dX12_init_573 : decode cX12_init 573 = .ok (.sipush 440, 3) := by decide +kernel
theorem dX12_init_576 : decode cX12_init 576 = .ok (.newarray .int, 2) := by decide +kernel
theorem dX12_init_578 : decode cX12_init 578 = .ok (.putfield 35, 3) := by decide +kernel
theorem dX12_init_581 : decode cX12_init 581 = .ok (.aload_n 0, 1) := by decide +kernel
theorem dX12_init_582 : decode cX12_init 582 = .ok (.sipush 440, 3) := by decide +kernel
theorem dX12_init_585 : decode cX12_init 585 = .ok (.newarray .int, 2) := by decide +kernel
theorem dX12_init_587 : decode cX12_init 587 = .ok (.putfield 38, 3) := by decide +kernel
theorem dX12_init_590 : decode cX12_init 590 = .ok (.aload_n 0, 1) := by decide +kernel
theorem dX12_init_591 : decode cX12_init 591 = .ok (.sipush 440, 3) := by decide +kernel
theorem dX12_init_594 : decode cX12_init 594 = .ok (.newarray .int, 2) := by decide +kernel
theorem dX12_init_596 : decode cX12_init 596 = .ok (.putfield 41, 3) := by decide +kernel
theorem dX12_init_599 : decode cX12_init 599 = .ok (.aload_n 0, 1) := by decide +kernel
theorem dX12_init_600 : decode cX12_init 600 = .ok (.bipush 12, 2) := by decide +kernel
theorem dX12_init_602 : decode cX12_init 602 = .ok (.newarray .int, 2) := by decide +kernel
theorem dX12_init_604 : decode cX12_init 604 = .ok (.putfield 44, 3) := by decide +kernel
theorem dX12_init_607 : decode cX12_init 607 = .ok (.aload_n 0, 1) := by decide +kernel
theorem dX12_init_608 : decode cX12_init 608 = .ok (.bipush 12, 2) := by decide +kernel
theorem dX12_init_610 : decode cX12_init 610 = .ok (.newarray .int, 2) := by decide +kernel
theorem dX12_init_612 : decode cX12_init 612 = .ok (.putfield 47, 3) := by decide +kernel
theorem dX12_init_615 : decode cX12_init 615 = .ok (.aload_n 0, 1) := by decide +kernel
theorem dX12_init_616 : decode cX12_init 616 = .ok (.sipush 132, 3) := by decide +kernel
theorem dX12_init_619 : decode cX12_init 619 = .ok (.newarray .long, 2) := by decide +kernel
theorem dX12_init_621 : decode cX12_init 621 = .ok (.putfield 50, 3) := by decide +kernel
theorem dX12_init_624 : decode cX12_init 624 = .ok (.aload_n 0, 1) := by decide +kernel
theorem dX12_init_625 : decode cX12_init 625 = .ok (.iconst 4, 1) := by decide +kernel
theorem dX12_init_626 : decode cX12_init 626 = .ok (.newarray .int, 2) := by decide +kernel
theorem dX12_init_628 : decode cX12_init 628 = .ok (.dup, 1) := by decide +kernel
theorem dX12_init_629 : decode cX12_init 629 = .ok (.iconst 0, 1) := by decide +kernel
theorem dX12_init_630 : decode cX12_init 630 = .ok (.bipush (-4), 2) := by decide +kernel
theorem dX12_init_632 : decode cX12_init 632 = .ok (.iastore, 1) := by decide +kernel
theorem dX12_init_633 : decode cX12_init 633 = .ok (.dup, 1) := by decide +kernel
theorem dX12_init_634 : decode cX12_init 634 = .ok (.iconst 1, 1) := by decide +kernel
theorem dX12_init_635 : decode cX12_init 635 = .ok (.bipush (-4), 2) := by decide +kernel
theorem dX12_init_637 : decode cX12_init 637 = .ok (.iastore, 1) := by decide +kernel
theorem dX12_init_638 : decode cX12_init 638 = .ok (.dup, 1) := by decide +kernel
theorem dX12_init_639 : decode cX12_init 639 = .ok (.iconst 2, 1) := by decide +kernel
theorem dX12_init_640 : decode cX12_init 640 = .ok (.bipush (-4), 2) := by decide +kernel
theorem dX12_init_642 : decode cX12_init 642 = .ok (.iastore, 1) := by decide +kernel
theorem dX12_init_643 : decode cX12_init 643 = .ok (.dup, 1) := by decide +kernel
theorem dX12_init_644 : decode cX12_init 644 = .ok (.iconst 3, 1) := by decide +kernel
theorem dX12_init_645 : decode cX12_init 645 = .ok (.bipush (-4), 2) := by decide +kernel
theorem dX12_init_647 : decode cX12_init 647 = .ok (.iastore, 1) := by decide +kernel
theorem dX12_init_648 : decode cX12_init 648 = .ok (.putfield 54, 3) := by decide +kernel
theorem dX12_init_651 : decode cX12_init 651 = .ok (.aload_n 0, 1) := by decide +kernel
theorem dX12_init_652 : decode cX12_init 652 = .ok (.iconst 4, 1) := by decide +kernel
theorem dX12_init_653 : decode cX12_init 653 = .ok (.newarray .int, 2) := by decide +kernel
theorem dX12_init_655 : decode cX12_init 655 = .ok (.putfield 57, 3) := by decide +kernel
theorem dX12_init_658 : decode cX12_init 658 = .ok (.aload_n 0, 1) := by decide +kernel
theorem dX12_init_659 : decode cX12_init 659 = .ok (.sipush 256, 3) := by decide +kernel
theorem dX12_init_662 : decode cX12_init 662 = .ok (.newarray .int, 2) := by decide +kernel
theorem dX12_init_664 : decode cX12_init 664 = .ok (.putfield 60, 3) := by decide +kernel
theorem dX12_init_667 : decode cX12_init 667 = .ok (.aload_n 0, 1) := by decide +kernel
theorem dX12_init_668 : decode cX12_init 668 = .ok (.sipush 256, 3) := by decide +kernel
theorem dX12_init_671 : decode cX12_init 671 = .ok (.newarray .int, 2) := by decide +kernel
theorem dX12_init_673 : decode cX12_init 673 = .ok (.putfield 63, 3) := by decide +kernel
theorem dX12_init_676 : decode cX12_init 676 = .ok (.return_, 1) := by decide +kernel
theorem dX12_in_0 : decode cX12_in 0 = .ok (.lload_n 0, 1) := by decide +kernel
theorem dX12_in_1 : decode cX12_in 1 = .ok (.lload_n 2, 1) := by decide +kernel
theorem dX12_in_2 : decode cX12_in 2 = .ok (.lcmp, 1) := by decide +kernel
theorem dX12_in_3 : decode cX12_in 3 = .ok (.ifCond .lt 14, 3) := by decide +kernel
theorem dX12_in_6 : decode cX12_in 6 = .ok (.lload_n 0, 1) := by decide +kernel
theorem dX12_in_7 : decode cX12_in 7 = .ok (.lload 4, 2) := by decide +kernel
theorem dX12_in_9 : decode cX12_in 9 = .ok (.lcmp, 1) := by decide +kernel
theorem dX12_in_10 : decode cX12_in 10 = .ok (.ifCond .gt 7, 3) := by decide +kernel
theorem dX12_in_13 : decode cX12_in 13 = .ok (.iconst 1, 1) := by decide +kernel
theorem dX12_in_14 : decode cX12_in 14 = .ok (.goto 4, 3) := by decide +kernel
theorem dX12_in_17 : decode cX12_in 17 = .ok (.iconst 0, 1) := by decide +kernel
theorem dX12_in_18 : decode cX12_in 18 = .ok (.ireturn, 1) := by decide +kernel
theorem dX12_isVolt_0 : decode cX12_isVolt 0 = .ok (.iload_n 0, 1) := by decide +kernel
theorem dX12_isVolt_1 : decode cX12_isVolt 1 = .ok (.i2l, 1) := by decide +kernel
theorem dX12_isVolt_2 : decode cX12_isVolt 2 = .ok (.ldc2_w 66, 3) := by decide +kernel
theorem dX12_isVolt_5 : decode cX12_isVolt 5 = .ok (.ldc2_w 68, 3) := by decide +kernel
theorem dX12_isVolt_8 : decode cX12_isVolt 8 = .ok (.invokestatic 70, 3) := by decide +kernel
theorem dX12_isVolt_11 : decode cX12_isVolt 11 = .ok (.ireturn, 1) := by decide +kernel
theorem dX12_feed_0 : decode cX12_feed 0 = .ok (.aload_n 0, 1) := by decide +kernel
theorem dX12_feed_1 : decode cX12_feed 1 = .ok (.getfield 74, 3) := by decide +kernel
theorem dX12_feed_4 : decode cX12_feed 4 = .ok (.bipush 8, 2) := by decide +kernel
theorem dX12_feed_6 : decode cX12_feed 6 = .ok (.iadd, 1) := by decide +kernel
theorem dX12_feed_7 : decode cX12_feed 7 = .ok (.sipush 200, 3) := by decide +kernel
theorem dX12_feed_10 : decode cX12_feed 10 = .ok (.if_icmp .le 6, 3) := by decide +kernel
theorem dX12_feed_13 : decode cX12_feed 13 = .ok (.bipush (-3), 2) := by decide +kernel
theorem dX12_feed_15 : decode cX12_feed 15 = .ok (.ireturn, 1) := by decide +kernel
theorem dX12_feed_16 : decode cX12_feed 16 = .ok (.bipush 56, 2) := by decide +kernel
theorem dX12_feed_18 : decode cX12_feed 18 = .ok (.istore_n 3, 1) := by decide +kernel
theorem dX12_feed_19 : decode cX12_feed 19 = .ok (.iload_n 3, 1) := by decide +kernel
theorem dX12_feed_20 : decode cX12_feed 20 = .ok (.ifCond .lt 36, 3) := by decide +kernel
theorem dX12_feed_23 : decode cX12_feed 23 = .ok (.aload_n 0, 1) := by decide +kernel
theorem dX12_feed_24 : decode cX12_feed 24 = .ok (.getfield 7, 3) := by decide +kernel
theorem dX12_feed_27 : decode cX12_feed 27 = .ok (.aload_n 0, 1) := by decide +kernel
theorem dX12_feed_28 : decode cX12_feed 28 = .ok (.getfield 74, 3) := by decide +kernel
theorem dX12_feed_31 : decode cX12_feed 31 = .ok (.lload_n 1, 1) := by decide +kernel
theorem dX12_feed_32 : decode cX12_feed 32 = .ok (.iload_n 3, 1) := by decide +kernel
theorem dX12_feed_33 : decode cX12_feed 33 = .ok (.lshr, 1) := by decide +kernel
theorem dX12_feed_34 : decode cX12_feed 34 = .ok (.l2i, 1) := by decide +kernel
theorem dX12_feed_35 : decode cX12_feed 35 = .ok (.sipush 255, 3) := by decide +kernel
theorem dX12_feed_38 : decode cX12_feed 38 = .ok (.iand, 1) := by decide +kernel
theorem dX12_feed_39 : decode cX12_feed 39 = .ok (.iastore, 1) := by decide +kernel
theorem dX12_feed_40 : decode cX12_feed 40 = .ok (.aload_n 0, 1) := by decide +kernel
theorem dX12_feed_41 : decode cX12_feed 41 = .ok (.dup, 1) := by decide +kernel
theorem dX12_feed_42 : decode cX12_feed 42 = .ok (.getfield 74, 3) := by decide +kernel
theorem dX12_feed_45 : decode cX12_feed 45 = .ok (.iconst 1, 1) := by decide +kernel
theorem dX12_feed_46 : decode cX12_feed 46 = .ok (.iadd, 1) := by decide +kernel
theorem dX12_feed_47 : decode cX12_feed 47 = .ok (.putfield 74, 3) := by decide +kernel
theorem dX12_feed_50 : decode cX12_feed 50 = .ok (.iinc 3 (-8), 3) := by decide +kernel
theorem dX12_feed_53 : decode cX12_feed 53 = .ok (.goto (-34), 3) := by decide +kernel
theorem dX12_feed_56 : decode cX12_feed 56 = .ok (.aload_n 0, 1) := by decide +kernel
theorem dX12_feed_57 : decode cX12_feed 57 = .ok (.getfield 74, 3) := by decide +kernel
theorem dX12_feed_60 : decode cX12_feed 60 = .ok (.ireturn, 1) := by decide +kernel
theorem dX12_end_0 : decode cX12_end 0 = .ok (.iload_n 1, 1) := by decide +kernel
theorem dX12_end_1 : decode cX12_end 1 = .ok (.i2l, 1) := by decide +kernel
theorem dX12_end_2 : decode cX12_end 2 = .ok (.lconst 0, 1) := by decide +kernel
theorem dX12_end_3 : decode cX12_end 3 = .ok (.aload_n 0, 1) := by decide +kernel
theorem dX12_end_4 : decode cX12_end 4 = .ok (.getfield 74, 3) := by decide +kernel
theorem dX12_end_7 : decode cX12_end 7 = .ok (.i2l, 1) := by decide +kernel
theorem dX12_end_8 : decode cX12_end 8 = .ok (.invokestatic 70, 3) := by decide +kernel
theorem dX12_end_11 : decode cX12_end 11 = .ok (.ifCond .ne 5, 3) := by decide +kernel
theorem dX12_end_14 : decode cX12_end 14 = .ok (.iconst (-1), 1) := by decide +kernel
theorem dX12_end_15 : decode cX12_end 15 = .ok (.ireturn, 1) := by decide +kernel
theorem dX12_end_16 : decode cX12_end 16 = .ok (.aload_n 0, 1) := by decide +kernel
theorem dX12_end_17 : decode cX12_end 17 = .ok (.getfield 74, 3) := by decide +kernel
theorem dX12_end_20 : decode cX12_end 20 = .ok (.istore_n 2, 1) := by decide +kernel
theorem dX12_end_21 : decode cX12_end 21 = .ok (.aload_n 0, 1) := by decide +kernel
theorem dX12_end_22 : decode cX12_end 22 = .ok (.iload_n 1, 1) := by decide +kernel
theorem dX12_end_23 : decode cX12_end 23 = .ok (.putfield 74, 3) := by decide +kernel
theorem dX12_end_26 : decode cX12_end 26 = .ok (.iload_n 2, 1) := by decide +kernel
theorem dX12_end_27 : decode cX12_end 27 = .ok (.ireturn, 1) := by decide +kernel
theorem dX12_byteAt_0 : decode cX12_byteAt 0 = .ok (.iload_n 1, 1) := by decide +kernel
theorem dX12_byteAt_1 : decode cX12_byteAt 1 = .ok (.aload_n 0, 1) := by decide +kernel
theorem dX12_byteAt_2 : decode cX12_byteAt 2 = .ok (.getfield 74, 3) := by decide +kernel
theorem dX12_byteAt_5 : decode cX12_byteAt 5 = .ok (.if_icmp .ge 12, 3) := by decide +kernel
theorem dX12_byteAt_8 : decode cX12_byteAt 8 = .ok (.aload_n 0, 1) := by decide +kernel
theorem dX12_byteAt_9 : decode cX12_byteAt 9 = .ok (.getfield 7, 3) := by decide +kernel
theorem dX12_byteAt_12 : decode cX12_byteAt 12 = .ok (.iload_n 1, 1) := by decide +kernel
theorem dX12_byteAt_13 : decode cX12_byteAt 13 = .ok (.iaload, 1) := by decide +kernel
theorem dX12_byteAt_14 : decode cX12_byteAt 14 = .ok (.goto 5, 3) := by decide +kernel
theorem dX12_byteAt_17 : decode cX12_byteAt 17 = .ok (.bipush (-4), 2) := by decide +kernel
theorem dX12_byteAt_19 : decode cX12_byteAt 19 = .ok (.ireturn, 1) := by decide +kernel
theorem dX12_fails_0 : decode cX12_fails 0 = .ok (.aload_n 0, 1) := by decide +kernel
theorem dX12_fails_1 : decode cX12_fails 1 = .ok (.getfield 78, 3) := by decide +kernel
theorem dX12_fails_4 : decode cX12_fails 4 = .ok (.ifCond .ne 16, 3) := by decide +kernel
theorem dX12_fails_7 : decode cX12_fails 7 = .ok (.aload_n 0, 1) := by decide +kernel
theorem dX12_fails_8 : decode cX12_fails 8 = .ok (.iload_n 1, 1) := by decide +kernel
theorem dX12_fails_9 : decode cX12_fails 9 = .ok (.putfield 78, 3) := by decide +kernel
theorem dX12_fails_12 : decode cX12_fails 12 = .ok (.aload_n 0, 1) := by decide +kernel
theorem dX12_fails_13 : decode cX12_fails 13 = .ok (.aload_n 0, 1) := by decide +kernel
theorem dX12_fails_14 : decode cX12_fails 14 = .ok (.getfield 81, 3) := by decide +kernel
theorem dX12_fails_17 : decode cX12_fails 17 = .ok (.putfield 84, 3) := by decide +kernel
theorem dX12_fails_20 : decode cX12_fails 20 = .ok (.return_, 1) := by decide +kernel
theorem dX12_next_0 : decode cX12_next 0 = .ok (.aload_n 0, 1) := by decide +kernel
theorem dX12_next_1 : decode cX12_next 1 = .ok (.getfield 78, 3) := by decide +kernel
theorem dX12_next_4 : decode cX12_next 4 = .ok (.ifCond .le 4, 3) := by decide +kernel
theorem dX12_next_7 : decode cX12_next 7 = .ok (.return_, 1) := by decide +kernel
theorem dX12_next_8 : decode cX12_next 8 = .ok (.aload_n 0, 1) := by decide +kernel
theorem dX12_next_9 : decode cX12_next 9 = .ok (.aload_n 0, 1) := by decide +kernel
theorem dX12_next_10 : decode cX12_next 10 = .ok (.getfield 87, 3) := by decide +kernel
theorem dX12_next_13 : decode cX12_next 13 = .ok (.invokevirtual 90, 3) := by decide +kernel
theorem dX12_next_16 : decode cX12_next 16 = .ok (.bipush 32, 2) := by decide +kernel
theorem dX12_next_18 : decode cX12_next 18 = .ok (.if_icmp .ne 16, 3) := by decide +kernel
theorem dX12_next_21 : decode cX12_next 21 = .ok (.aload_n 0, 1) := by decide +kernel
theorem dX12_next_22 : decode cX12_next 22 = .ok (.dup, 1) := by decide +kernel
theorem dX12_next_23 : decode cX12_next 23 = .ok (.getfield 87, 3) := by decide +kernel
theorem dX12_next_26 : decode cX12_next 26 = .ok (.iconst 1, 1) := by decide +kernel
theorem dX12_next_27 : decode cX12_next 27 = .ok (.iadd, 1) := by decide +kernel
theorem dX12_next_28 : decode cX12_next 28 = .ok (.putfield 87, 3) := by decide +kernel
theorem dX12_next_31 : decode cX12_next 31 = .ok (.goto (-23), 3) := by decide +kernel
theorem dX12_next_34 : decode cX12_next 34 = .ok (.aload_n 0, 1) := by decide +kernel
theorem dX12_next_35 : decode cX12_next 35 = .ok (.aload_n 0, 1) := by decide +kernel
theorem dX12_next_36 : decode cX12_next 36 = .ok (.getfield 87, 3) := by decide +kernel
theorem dX12_next_39 : decode cX12_next 39 = .ok (.putfield 81, 3) := by decide +kernel
theorem dX12_next_42 : decode cX12_next 42 = .ok (.aload_n 0, 1) := by decide +kernel
theorem dX12_next_43 : decode cX12_next 43 = .ok (.aload_n 0, 1) := by decide +kernel
theorem dX12_next_44 : decode cX12_next 44 = .ok (.getfield 87, 3) := by decide +kernel
theorem dX12_next_47 : decode cX12_next 47 = .ok (.invokevirtual 90, 3) := by decide +kernel
theorem dX12_next_50 : decode cX12_next 50 = .ok (.istore_n 1, 1) := by decide +kernel
theorem dX12_next_51 : decode cX12_next 51 = .ok (.aload_n 0, 1) := by decide +kernel
theorem dX12_next_52 : decode cX12_next 52 = .ok (.iload_n 1, 1) := by decide +kernel
theorem dX12_next_53 : decode cX12_next 53 = .ok (.putfield 94, 3) := by decide +kernel
theorem dX12_next_56 : decode cX12_next 56 = .ok (.iload_n 1, 1) := by decide +kernel
theorem dX12_next_57 : decode cX12_next 57 = .ok (.bipush (-4), 2) := by decide +kernel
theorem dX12_next_59 : decode cX12_next 59 = .ok (.if_icmp .ne 11, 3) := by decide +kernel
theorem dX12_next_62 : decode cX12_next 62 = .ok (.aload_n 0, 1) := by decide +kernel
theorem dX12_next_63 : decode cX12_next 63 = .ok (.iconst 0, 1) := by decide +kernel
theorem dX12_next_64 : decode cX12_next 64 = .ok (.putfield 97, 3) := by decide +kernel
theorem dX12_next_67 : decode cX12_next 67 = .ok (.goto 213, 3) := by decide +kernel
theorem dX12_next_70 : decode cX12_next 70 = .ok (.iload_n 1, 1) := by decide +kernel
theorem dX12_next_71 : decode cX12_next 71 = .ok (.i2l, 1) := by decide +kernel
theorem dX12_next_72 : decode cX12_next 72 = .ok (.ldc2_w 100, 3) := by decide +kernel
theorem dX12_next_75 : decode cX12_next 75 = .ok (.ldc2_w 102, 3) := by decide +kernel
theorem dX12_next_78 : decode cX12_next 78 = .ok (.invokestatic 70, 3) := by decide +kernel
theorem dX12_next_81 : decode cX12_next 81 = .ok (.ifCond .eq 45, 3) := by decide +kernel
theorem dX12_next_84 : decode cX12_next 84 = .ok (.aload_n 0, 1) := by decide +kernel
theorem dX12_next_85 : decode cX12_next 85 = .ok (.aload_n 0, 1) := by decide +kernel
theorem dX12_next_86 : decode cX12_next 86 = .ok (.getfield 87, 3) := by decide +kernel
theorem dX12_next_89 : decode cX12_next 89 = .ok (.invokevirtual 90, 3) := by decide +kernel
theorem dX12_next_92 : decode cX12_next 92 = .ok (.i2l, 1) := by decide +kernel
theorem dX12_next_93 : decode cX12_next 93 = .ok (.ldc2_w 100, 3) := by decide +kernel
theorem dX12_next_96 : decode cX12_next 96 = .ok (.ldc2_w 102, 3) := by decide +kernel
theorem dX12_next_99 : decode cX12_next 99 = .ok (.invokestatic 70, 3) := by decide +kernel
theorem dX12_next_102 : decode cX12_next 102 = .ok (.ifCond .eq 16, 3) := by decide +kernel
theorem dX12_next_105 : decode cX12_next 105 = .ok (.aload_n 0, 1) := by decide +kernel
theorem dX12_next_106 : decode cX12_next 106 = .ok (.dup, 1) := by decide +kernel
theorem dX12_next_107 : decode cX12_next 107 = .ok (.getfield 87, 3) := by decide +kernel
theorem dX12_next_110 : decode cX12_next 110 = .ok (.iconst 1, 1) := by decide +kernel
theorem dX12_next_111 : decode cX12_next 111 = .ok (.iadd, 1) := by decide +kernel
theorem dX12_next_112 : decode cX12_next 112 = .ok (.putfield 87, 3) := by decide +kernel
theorem dX12_next_115 : decode cX12_next 115 = .ok (.goto (-31), 3) := by decide +kernel
theorem dX12_next_118 : decode cX12_next 118 = .ok (.aload_n 0, 1) := by decide +kernel
theorem dX12_next_119 : decode cX12_next 119 = .ok (.iconst 1, 1) := by decide +kernel
theorem dX12_next_120 : decode cX12_next 120 = .ok (.putfield 97, 3) := by decide +kernel
theorem dX12_next_123 : decode cX12_next 123 = .ok (.goto 157, 3) := by decide +kernel
theorem dX12_next_126 : decode cX12_next 126 = .ok (.iload_n 1, 1) := by decide +kernel
theorem dX12_next_127 : decode cX12_next 127 = .ok (.i2l, 1) := by decide +kernel
theorem dX12_next_128 : decode cX12_next 128 = .ok (.ldc2_w 104, 3) := by decide +kernel
theorem dX12_next_131 : decode cX12_next 131 = .ok (.ldc2_w 106, 3) := by decide +kernel
theorem dX12_next_134 : decode cX12_next 134 = .ok (.invokestatic 70, 3) := by decide +kernel
theorem dX12_next_137 : decode cX12_next 137 = .ok (.ifCond .eq 111, 3) := by decide +kernel
theorem dX12_next_140 : decode cX12_next 140 = .ok (.aload_n 0, 1) := by decide +kernel
theorem dX12_next_141 : decode cX12_next 141 = .ok (.iconst 0, 1) := by decide +kernel
theorem dX12_next_142 : decode cX12_next 142 = .ok (.putfield 94, 3) := by decide +kernel
theorem dX12_next_145 : decode cX12_next 145 = .ok (.aload_n 0, 1) := by decide +kernel
theorem dX12_next_146 : decode cX12_next 146 = .ok (.aload_n 0, 1) := by decide +kernel
theorem dX12_next_147 : decode cX12_next 147 = .ok (.getfield 87, 3) := by decide +kernel
theorem dX12_next_150 : decode cX12_next 150 = .ok (.invokevirtual 90, 3) := by decide +kernel
theorem dX12_next_153 : decode cX12_next 153 = .ok (.i2l, 1) := by decide +kernel
theorem dX12_next_154 : decode cX12_next 154 = .ok (.ldc2_w 104, 3) := by decide +kernel
theorem dX12_next_157 : decode cX12_next 157 = .ok (.ldc2_w 106, 3) := by decide +kernel
theorem dX12_next_160 : decode cX12_next 160 = .ok (.invokestatic 70, 3) := by decide +kernel
theorem dX12_next_163 : decode cX12_next 163 = .ok (.ifCond .eq 59, 3) := by decide +kernel
theorem dX12_next_166 : decode cX12_next 166 = .ok (.aload_n 0, 1) := by decide +kernel
theorem dX12_next_167 : decode cX12_next 167 = .ok (.aload_n 0, 1) := by decide +kernel
theorem dX12_next_168 : decode cX12_next 168 = .ok (.getfield 87, 3) := by decide +kernel
theorem dX12_next_171 : decode cX12_next 171 = .ok (.aload_n 0, 1) := by decide +kernel
theorem dX12_next_172 : decode cX12_next 172 = .ok (.getfield 81, 3) := by decide +kernel
theorem dX12_next_175 : decode cX12_next 175 = .ok (.isub, 1) := by decide +kernel
theorem dX12_next_176 : decode cX12_next 176 = .ok (.iconst 3, 1) := by decide +kernel
