theorem dX12_next_177 : decode cX12_next 177 = .ok (.if_icmp .ge 25, 3) := by decide +kernel
theorem dX12_next_180 : decode cX12_next 180 = .ok (.bipush 10, 2) := by decide +kernel
theorem dX12_next_182 : decode cX12_next 182 = .ok (.aload_n 0, 1) := by decide +kernel
theorem dX12_next_183 : decode cX12_next 183 = .ok (.getfield 94, 3) := by decide +kernel
theorem dX12_next_186 : decode cX12_next 186 = .ok (.imul, 1) := by decide +kernel
theorem dX12_next_187 : decode cX12_next 187 = .ok (.aload_n 0, 1) := by decide +kernel
theorem dX12_next_188 : decode cX12_next 188 = .ok (.aload_n 0, 1) := by decide +kernel
theorem dX12_next_189 : decode cX12_next 189 = .ok (.getfield 87, 3) := by decide +kernel
theorem dX12_next_192 : decode cX12_next 192 = .ok (.invokevirtual 90, 3) := by decide +kernel
theorem dX12_next_195 : decode cX12_next 195 = .ok (.iadd, 1) := by decide +kernel
theorem dX12_next_196 : decode cX12_next 196 = .ok (.bipush 48, 2) := by decide +kernel
theorem dX12_next_198 : decode cX12_next 198 = .ok (.isub, 1) := by decide +kernel
theorem dX12_next_199 : decode cX12_next 199 = .ok (.goto 7, 3) := by decide +kernel
theorem dX12_next_202 : decode cX12_next 202 = .ok (.aload_n 0, 1) := by decide +kernel
theorem dX12_next_203 : decode cX12_next 203 = .ok (.getfield 94, 3) := by decide +kernel
theorem dX12_next_206 : decode cX12_next 206 = .ok (.putfield 94, 3) := by decide +kernel
theorem dX12_next_209 : decode cX12_next 209 = .ok (.aload_n 0, 1) := by decide +kernel
theorem dX12_next_210 : decode cX12_next 210 = .ok (.dup, 1) := by decide +kernel
theorem dX12_next_211 : decode cX12_next 211 = .ok (.getfield 87, 3) := by decide +kernel
theorem dX12_next_214 : decode cX12_next 214 = .ok (.iconst 1, 1) := by decide +kernel
theorem dX12_next_215 : decode cX12_next 215 = .ok (.iadd, 1) := by decide +kernel
theorem dX12_next_216 : decode cX12_next 216 = .ok (.putfield 87, 3) := by decide +kernel
theorem dX12_next_219 : decode cX12_next 219 = .ok (.goto (-74), 3) := by decide +kernel
theorem dX12_next_222 : decode cX12_next 222 = .ok (.aload_n 0, 1) := by decide +kernel
theorem dX12_next_223 : decode cX12_next 223 = .ok (.iconst 2, 1) := by decide +kernel
theorem dX12_next_224 : decode cX12_next 224 = .ok (.putfield 97, 3) := by decide +kernel
theorem dX12_next_227 : decode cX12_next 227 = .ok (.aload_n 0, 1) := by decide +kernel
theorem dX12_next_228 : decode cX12_next 228 = .ok (.getfield 87, 3) := by decide +kernel
theorem dX12_next_231 : decode cX12_next 231 = .ok (.aload_n 0, 1) := by decide +kernel
theorem dX12_next_232 : decode cX12_next 232 = .ok (.getfield 81, 3) := by decide +kernel
theorem dX12_next_235 : decode cX12_next 235 = .ok (.isub, 1) := by decide +kernel
theorem dX12_next_236 : decode cX12_next 236 = .ok (.iconst 3, 1) := by decide +kernel
theorem dX12_next_237 : decode cX12_next 237 = .ok (.if_icmp .le 43, 3) := by decide +kernel
theorem dX12_next_240 : decode cX12_next 240 = .ok (.aload_n 0, 1) := by decide +kernel
theorem dX12_next_241 : decode cX12_next 241 = .ok (.iconst 1, 1) := by decide +kernel
theorem dX12_next_242 : decode cX12_next 242 = .ok (.invokevirtual 108, 3) := by decide +kernel
theorem dX12_next_245 : decode cX12_next 245 = .ok (.goto 35, 3) := by decide +kernel
theorem dX12_next_248 : decode cX12_next 248 = .ok (.aload_n 0, 1) := by decide +kernel
theorem dX12_next_249 : decode cX12_next 249 = .ok (.iconst 3, 1) := by decide +kernel
theorem dX12_next_250 : decode cX12_next 250 = .ok (.putfield 97, 3) := by decide +kernel
theorem dX12_next_253 : decode cX12_next 253 = .ok (.aload_n 0, 1) := by decide +kernel
theorem dX12_next_254 : decode cX12_next 254 = .ok (.dup, 1) := by decide +kernel
theorem dX12_next_255 : decode cX12_next 255 = .ok (.getfield 87, 3) := by decide +kernel
theorem dX12_next_258 : decode cX12_next 258 = .ok (.iconst 1, 1) := by decide +kernel
theorem dX12_next_259 : decode cX12_next 259 = .ok (.iadd, 1) := by decide +kernel
theorem dX12_next_260 : decode cX12_next 260 = .ok (.putfield 87, 3) := by decide +kernel
theorem dX12_next_263 : decode cX12_next 263 = .ok (.iload_n 1, 1) := by decide +kernel
theorem dX12_next_264 : decode cX12_next 264 = .ok (.bipush 59, 2) := by decide +kernel
theorem dX12_next_266 : decode cX12_next 266 = .ok (.if_icmp .eq 14, 3) := by decide +kernel
theorem dX12_next_269 : decode cX12_next 269 = .ok (.iload_n 1, 1) := by decide +kernel
theorem dX12_next_270 : decode cX12_next 270 = .ok (.bipush 45, 2) := by decide +kernel
theorem dX12_next_272 : decode cX12_next 272 = .ok (.if_icmp .eq 8, 3) := by decide +kernel
theorem dX12_next_275 : decode cX12_next 275 = .ok (.aload_n 0, 1) := by decide +kernel
theorem dX12_next_276 : decode cX12_next 276 = .ok (.iconst 1, 1) := by decide +kernel
theorem dX12_next_277 : decode cX12_next 277 = .ok (.invokevirtual 108, 3) := by decide +kernel
theorem dX12_next_280 : decode cX12_next 280 = .ok (.return_, 1) := by decide +kernel
theorem dX12_nameHere_0 : decode cX12_nameHere 0 = .ok (.iconst 0, 1) := by decide +kernel
theorem dX12_nameHere_1 : decode cX12_nameHere 1 = .ok (.istore_n 1, 1) := by decide +kernel
theorem dX12_nameHere_2 : decode cX12_nameHere 2 = .ok (.iload_n 1, 1) := by decide +kernel
theorem dX12_nameHere_3 : decode cX12_nameHere 3 = .ok (.bipush 8, 2) := by decide +kernel
theorem dX12_nameHere_5 : decode cX12_nameHere 5 = .ok (.if_icmp .ge 113, 3) := by decide +kernel
theorem dX12_nameHere_8 : decode cX12_nameHere 8 = .ok (.aload_n 0, 1) := by decide +kernel
theorem dX12_nameHere_9 : decode cX12_nameHere 9 = .ok (.getfield 97, 3) := by decide +kernel
theorem dX12_nameHere_12 : decode cX12_nameHere 12 = .ok (.iconst 1, 1) := by decide +kernel
theorem dX12_nameHere_13 : decode cX12_nameHere 13 = .ok (.if_icmp .ne 34, 3) := by decide +kernel
theorem dX12_nameHere_16 : decode cX12_nameHere 16 = .ok (.aload_n 0, 1) := by decide +kernel
theorem dX12_nameHere_17 : decode cX12_nameHere 17 = .ok (.getfield 87, 3) := by decide +kernel
theorem dX12_nameHere_20 : decode cX12_nameHere 20 = .ok (.aload_n 0, 1) := by decide +kernel
theorem dX12_nameHere_21 : decode cX12_nameHere 21 = .ok (.getfield 81, 3) := by decide +kernel
theorem dX12_nameHere_24 : decode cX12_nameHere 24 = .ok (.isub, 1) := by decide +kernel
theorem dX12_nameHere_25 : decode cX12_nameHere 25 = .ok (.aload_n 0, 1) := by decide +kernel
theorem dX12_nameHere_26 : decode cX12_nameHere 26 = .ok (.getfield 13, 3) := by decide +kernel
theorem dX12_nameHere_29 : decode cX12_nameHere 29 = .ok (.iload_n 1, 1) := by decide +kernel
theorem dX12_nameHere_30 : decode cX12_nameHere 30 = .ok (.iconst 1, 1) := by decide +kernel
theorem dX12_nameHere_31 : decode cX12_nameHere 31 = .ok (.iadd, 1) := by decide +kernel
theorem dX12_nameHere_32 : decode cX12_nameHere 32 = .ok (.iaload, 1) := by decide +kernel
theorem dX12_nameHere_33 : decode cX12_nameHere 33 = .ok (.aload_n 0, 1) := by decide +kernel
theorem dX12_nameHere_34 : decode cX12_nameHere 34 = .ok (.getfield 13, 3) := by decide +kernel
theorem dX12_nameHere_37 : decode cX12_nameHere 37 = .ok (.iload_n 1, 1) := by decide +kernel
theorem dX12_nameHere_38 : decode cX12_nameHere 38 = .ok (.iaload, 1) := by decide +kernel
theorem dX12_nameHere_39 : decode cX12_nameHere 39 = .ok (.isub, 1) := by decide +kernel
theorem dX12_nameHere_40 : decode cX12_nameHere 40 = .ok (.if_icmp .ne 7, 3) := by decide +kernel
theorem dX12_nameHere_43 : decode cX12_nameHere 43 = .ok (.iconst 1, 1) := by decide +kernel
theorem dX12_nameHere_44 : decode cX12_nameHere 44 = .ok (.goto 4, 3) := by decide +kernel
theorem dX12_nameHere_47 : decode cX12_nameHere 47 = .ok (.iconst 0, 1) := by decide +kernel
theorem dX12_nameHere_48 : decode cX12_nameHere 48 = .ok (.istore_n 2, 1) := by decide +kernel
theorem dX12_nameHere_49 : decode cX12_nameHere 49 = .ok (.iconst 0, 1) := by decide +kernel
theorem dX12_nameHere_50 : decode cX12_nameHere 50 = .ok (.istore_n 3, 1) := by decide +kernel
theorem dX12_nameHere_51 : decode cX12_nameHere 51 = .ok (.iload_n 2, 1) := by decide +kernel
theorem dX12_nameHere_52 : decode cX12_nameHere 52 = .ok (.ifCond .eq 54, 3) := by decide +kernel
theorem dX12_nameHere_55 : decode cX12_nameHere 55 = .ok (.iload_n 3, 1) := by decide +kernel
theorem dX12_nameHere_56 : decode cX12_nameHere 56 = .ok (.aload_n 0, 1) := by decide +kernel
theorem dX12_nameHere_57 : decode cX12_nameHere 57 = .ok (.getfield 87, 3) := by decide +kernel
theorem dX12_nameHere_60 : decode cX12_nameHere 60 = .ok (.aload_n 0, 1) := by decide +kernel
theorem dX12_nameHere_61 : decode cX12_nameHere 61 = .ok (.getfield 81, 3) := by decide +kernel
theorem dX12_nameHere_64 : decode cX12_nameHere 64 = .ok (.isub, 1) := by decide +kernel
theorem dX12_nameHere_65 : decode cX12_nameHere 65 = .ok (.if_icmp .ge 41, 3) := by decide +kernel
theorem dX12_nameHere_68 : decode cX12_nameHere 68 = .ok (.aload_n 0, 1) := by decide +kernel
theorem dX12_nameHere_69 : decode cX12_nameHere 69 = .ok (.aload_n 0, 1) := by decide +kernel
theorem dX12_nameHere_70 : decode cX12_nameHere 70 = .ok (.getfield 81, 3) := by decide +kernel
theorem dX12_nameHere_73 : decode cX12_nameHere 73 = .ok (.iload_n 3, 1) := by decide +kernel
theorem dX12_nameHere_74 : decode cX12_nameHere 74 = .ok (.iadd, 1) := by decide +kernel
theorem dX12_nameHere_75 : decode cX12_nameHere 75 = .ok (.invokevirtual 90, 3) := by decide +kernel
theorem dX12_nameHere_78 : decode cX12_nameHere 78 = .ok (.aload_n 0, 1) := by decide +kernel
theorem dX12_nameHere_79 : decode cX12_nameHere 79 = .ok (.getfield 16, 3) := by decide +kernel
theorem dX12_nameHere_82 : decode cX12_nameHere 82 = .ok (.aload_n 0, 1) := by decide +kernel
theorem dX12_nameHere_83 : decode cX12_nameHere 83 = .ok (.getfield 13, 3) := by decide +kernel
theorem dX12_nameHere_86 : decode cX12_nameHere 86 = .ok (.iload_n 1, 1) := by decide +kernel
theorem dX12_nameHere_87 : decode cX12_nameHere 87 = .ok (.iaload, 1) := by decide +kernel
theorem dX12_nameHere_88 : decode cX12_nameHere 88 = .ok (.iload_n 3, 1) := by decide +kernel
theorem dX12_nameHere_89 : decode cX12_nameHere 89 = .ok (.iadd, 1) := by decide +kernel
theorem dX12_nameHere_90 : decode cX12_nameHere 90 = .ok (.iaload, 1) := by decide +kernel
theorem dX12_nameHere_91 : decode cX12_nameHere 91 = .ok (.if_icmp .ne 7, 3) := by decide +kernel
theorem dX12_nameHere_94 : decode cX12_nameHere 94 = .ok (.iconst 1, 1) := by decide +kernel
theorem dX12_nameHere_95 : decode cX12_nameHere 95 = .ok (.goto 4, 3) := by decide +kernel
theorem dX12_nameHere_98 : decode cX12_nameHere 98 = .ok (.iconst 0, 1) := by decide +kernel
theorem dX12_nameHere_99 : decode cX12_nameHere 99 = .ok (.istore_n 2, 1) := by decide +kernel
theorem dX12_nameHere_100 : decode cX12_nameHere 100 = .ok (.iinc 3 1, 3) := by decide +kernel
theorem dX12_nameHere_103 : decode cX12_nameHere 103 = .ok (.goto (-52), 3) := by decide +kernel
theorem dX12_nameHere_106 : decode cX12_nameHere 106 = .ok (.iload_n 2, 1) := by decide +kernel
theorem dX12_nameHere_107 : decode cX12_nameHere 107 = .ok (.ifCond .eq 5, 3) := by decide +kernel
theorem dX12_nameHere_110 : decode cX12_nameHere 110 = .ok (.iload_n 1, 1) := by decide +kernel
theorem dX12_nameHere_111 : decode cX12_nameHere 111 = .ok (.ireturn, 1) := by decide +kernel
theorem dX12_nameHere_112 : decode cX12_nameHere 112 = .ok (.iinc 1 1, 3) := by decide +kernel
theorem dX12_nameHere_115 : decode cX12_nameHere 115 = .ok (.goto (-113), 3) := by decide +kernel
theorem dX12_nameHere_118 : decode cX12_nameHere 118 = .ok (.bipush (-4), 2) := by decide +kernel
theorem dX12_nameHere_120 : decode cX12_nameHere 120 = .ok (.ireturn, 1) := by decide +kernel
theorem dX12_number_0 : decode cX12_number 0 = .ok (.aload_n 0, 1) := by decide +kernel
theorem dX12_number_1 : decode cX12_number 1 = .ok (.getfield 78, 3) := by decide +kernel
theorem dX12_number_4 : decode cX12_number 4 = .ok (.ifCond .ne 16, 3) := by decide +kernel
theorem dX12_number_7 : decode cX12_number 7 = .ok (.aload_n 0, 1) := by decide +kernel
theorem dX12_number_8 : decode cX12_number 8 = .ok (.getfield 97, 3) := by decide +kernel
theorem dX12_number_11 : decode cX12_number 11 = .ok (.iconst 2, 1) := by decide +kernel
theorem dX12_number_12 : decode cX12_number 12 = .ok (.if_icmp .eq 8, 3) := by decide +kernel
theorem dX12_number_15 : decode cX12_number 15 = .ok (.aload_n 0, 1) := by decide +kernel
theorem dX12_number_16 : decode cX12_number 16 = .ok (.iconst 2, 1) := by decide +kernel
theorem dX12_number_17 : decode cX12_number 17 = .ok (.invokevirtual 108, 3) := by decide +kernel
theorem dX12_number_20 : decode cX12_number 20 = .ok (.iload_n 1, 1) := by decide +kernel
theorem dX12_number_21 : decode cX12_number 21 = .ok (.aload_n 0, 1) := by decide +kernel
theorem dX12_number_22 : decode cX12_number 22 = .ok (.getfield 94, 3) := by decide +kernel
theorem dX12_number_25 : decode cX12_number 25 = .ok (.imul, 1) := by decide +kernel
theorem dX12_number_26 : decode cX12_number 26 = .ok (.istore 4, 2) := by decide +kernel
theorem dX12_number_28 : decode cX12_number 28 = .ok (.aload_n 0, 1) := by decide +kernel
theorem dX12_number_29 : decode cX12_number 29 = .ok (.getfield 78, 3) := by decide +kernel
theorem dX12_number_32 : decode cX12_number 32 = .ok (.ifCond .ne 21, 3) := by decide +kernel
theorem dX12_number_35 : decode cX12_number 35 = .ok (.iload 4, 2) := by decide +kernel
theorem dX12_number_37 : decode cX12_number 37 = .ok (.i2l, 1) := by decide +kernel
theorem dX12_number_38 : decode cX12_number 38 = .ok (.iload_n 2, 1) := by decide +kernel
theorem dX12_number_39 : decode cX12_number 39 = .ok (.i2l, 1) := by decide +kernel
theorem dX12_number_40 : decode cX12_number 40 = .ok (.iload_n 3, 1) := by decide +kernel
theorem dX12_number_41 : decode cX12_number 41 = .ok (.i2l, 1) := by decide +kernel
theorem dX12_number_42 : decode cX12_number 42 = .ok (.invokestatic 70, 3) := by decide +kernel
theorem dX12_number_45 : decode cX12_number 45 = .ok (.ifCond .ne 8, 3) := by decide +kernel
theorem dX12_number_48 : decode cX12_number 48 = .ok (.aload_n 0, 1) := by decide +kernel
theorem dX12_number_49 : decode cX12_number 49 = .ok (.iconst 3, 1) := by decide +kernel
theorem dX12_number_50 : decode cX12_number 50 = .ok (.invokevirtual 108, 3) := by decide +kernel
theorem dX12_number_53 : decode cX12_number 53 = .ok (.aload_n 0, 1) := by decide +kernel
theorem dX12_number_54 : decode cX12_number 54 = .ok (.invokevirtual 112, 3) := by decide +kernel
theorem dX12_number_57 : decode cX12_number 57 = .ok (.iload 4, 2) := by decide +kernel
theorem dX12_number_59 : decode cX12_number 59 = .ok (.ireturn, 1) := by decide +kernel
theorem dX12_sign_0 : decode cX12_sign 0 = .ok (.aload_n 0, 1) := by decide +kernel
theorem dX12_sign_1 : decode cX12_sign 1 = .ok (.getfield 78, 3) := by decide +kernel
theorem dX12_sign_4 : decode cX12_sign 4 = .ok (.ifCond .ne 24, 3) := by decide +kernel
theorem dX12_sign_7 : decode cX12_sign 7 = .ok (.aload_n 0, 1) := by decide +kernel
theorem dX12_sign_8 : decode cX12_sign 8 = .ok (.getfield 97, 3) := by decide +kernel
theorem dX12_sign_11 : decode cX12_sign 11 = .ok (.iconst 3, 1) := by decide +kernel
theorem dX12_sign_12 : decode cX12_sign 12 = .ok (.if_icmp .ne 16, 3) := by decide +kernel
theorem dX12_sign_15 : decode cX12_sign 15 = .ok (.aload_n 0, 1) := by decide +kernel
theorem dX12_sign_16 : decode cX12_sign 16 = .ok (.getfield 94, 3) := by decide +kernel
theorem dX12_sign_19 : decode cX12_sign 19 = .ok (.bipush 45, 2) := by decide +kernel
theorem dX12_sign_21 : decode cX12_sign 21 = .ok (.if_icmp .ne 7, 3) := by decide +kernel
theorem dX12_sign_24 : decode cX12_sign 24 = .ok (.iconst 1, 1) := by decide +kernel
theorem dX12_sign_25 : decode cX12_sign 25 = .ok (.goto 4, 3) := by decide +kernel
theorem dX12_sign_28 : decode cX12_sign 28 = .ok (.iconst 0, 1) := by decide +kernel
theorem dX12_sign_29 : decode cX12_sign 29 = .ok (.istore_n 1, 1) := by decide +kernel
theorem dX12_sign_30 : decode cX12_sign 30 = .ok (.iload_n 1, 1) := by decide +kernel
theorem dX12_sign_31 : decode cX12_sign 31 = .ok (.ifCond .eq 7, 3) := by decide +kernel
theorem dX12_sign_34 : decode cX12_sign 34 = .ok (.aload_n 0, 1) := by decide +kernel
theorem dX12_sign_35 : decode cX12_sign 35 = .ok (.invokevirtual 112, 3) := by decide +kernel
theorem dX12_sign_38 : decode cX12_sign 38 = .ok (.iload_n 1, 1) := by decide +kernel
theorem dX12_sign_39 : decode cX12_sign 39 = .ok (.ifCond .eq 7, 3) := by decide +kernel
theorem dX12_sign_42 : decode cX12_sign 42 = .ok (.iconst (-1), 1) := by decide +kernel
theorem dX12_sign_43 : decode cX12_sign 43 = .ok (.goto 4, 3) := by decide +kernel
theorem dX12_sign_46 : decode cX12_sign 46 = .ok (.iconst 1, 1) := by decide +kernel
theorem dX12_sign_47 : decode cX12_sign 47 = .ok (.ireturn, 1) := by decide +kernel
theorem dX12_once_0 : decode cX12_once 0 = .ok (.aload_n 0, 1) := by decide +kernel
theorem dX12_once_1 : decode cX12_once 1 = .ok (.getfield 78, 3) := by decide +kernel
theorem dX12_once_4 : decode cX12_once 4 = .ok (.ifCond .ne 20, 3) := by decide +kernel
theorem dX12_once_7 : decode cX12_once 7 = .ok (.aload_n 0, 1) := by decide +kernel
theorem dX12_once_8 : decode cX12_once 8 = .ok (.getfield 115, 3) := by decide +kernel
theorem dX12_once_11 : decode cX12_once 11 = .ok (.iload_n 1, 1) := by decide +kernel
theorem dX12_once_12 : decode cX12_once 12 = .ok (.ishr, 1) := by decide +kernel
theorem dX12_once_13 : decode cX12_once 13 = .ok (.iconst 1, 1) := by decide +kernel
theorem dX12_once_14 : decode cX12_once 14 = .ok (.iand, 1) := by decide +kernel
theorem dX12_once_15 : decode cX12_once 15 = .ok (.iconst 1, 1) := by decide +kernel
theorem dX12_once_16 : decode cX12_once 16 = .ok (.if_icmp .ne 8, 3) := by decide +kernel
theorem dX12_once_19 : decode cX12_once 19 = .ok (.aload_n 0, 1) := by decide +kernel
theorem dX12_once_20 : decode cX12_once 20 = .ok (.iconst 4, 1) := by decide +kernel
theorem dX12_once_21 : decode cX12_once 21 = .ok (.invokevirtual 108, 3) := by decide +kernel
theorem dX12_once_24 : decode cX12_once 24 = .ok (.aload_n 0, 1) := by decide +kernel
theorem dX12_once_25 : decode cX12_once 25 = .ok (.dup, 1) := by decide +kernel
theorem dX12_once_26 : decode cX12_once 26 = .ok (.getfield 115, 3) := by decide +kernel
theorem dX12_once_29 : decode cX12_once 29 = .ok (.aload_n 0, 1) := by decide +kernel
theorem dX12_once_30 : decode cX12_once 30 = .ok (.getfield 78, 3) := by decide +kernel
theorem dX12_once_33 : decode cX12_once 33 = .ok (.ifCond .ne 9, 3) := by decide +kernel
theorem dX12_once_36 : decode cX12_once 36 = .ok (.iconst 1, 1) := by decide +kernel
theorem dX12_once_37 : decode cX12_once 37 = .ok (.iload_n 1, 1) := by decide +kernel
theorem dX12_once_38 : decode cX12_once 38 = .ok (.ishl, 1) := by decide +kernel
theorem dX12_once_39 : decode cX12_once 39 = .ok (.goto 4, 3) := by decide +kernel
theorem dX12_once_42 : decode cX12_once 42 = .ok (.iconst 0, 1) := by decide +kernel
theorem dX12_once_43 : decode cX12_once 43 = .ok (.ior, 1) := by decide +kernel
theorem dX12_once_44 : decode cX12_once 44 = .ok (.putfield 115, 3) := by decide +kernel
theorem dX12_once_47 : decode cX12_once 47 = .ok (.return_, 1) := by decide +kernel
theorem dX12_readOf_0 : decode cX12_readOf 0 = .ok (.aload_n 0, 1) := by decide +kernel
theorem dX12_readOf_1 : decode cX12_readOf 1 = .ok (.getfield 78, 3) := by decide +kernel
theorem dX12_readOf_4 : decode cX12_readOf 4 = .ok (.ifCond .ne 16, 3) := by decide +kernel
theorem dX12_readOf_7 : decode cX12_readOf 7 = .ok (.aload_n 0, 1) := by decide +kernel
theorem dX12_readOf_8 : decode cX12_readOf 8 = .ok (.getfield 97, 3) := by decide +kernel
theorem dX12_readOf_11 : decode cX12_readOf 11 = .ok (.iconst 2, 1) := by decide +kernel
theorem dX12_readOf_12 : decode cX12_readOf 12 = .ok (.if_icmp .eq 8, 3) := by decide +kernel
theorem dX12_readOf_15 : decode cX12_readOf 15 = .ok (.aload_n 0, 1) := by decide +kernel
theorem dX12_readOf_16 : decode cX12_readOf 16 = .ok (.iconst 2, 1) := by decide +kernel
theorem dX12_readOf_17 : decode cX12_readOf 17 = .ok (.invokevirtual 108, 3) := by decide +kernel
theorem dX12_readOf_20 : decode cX12_readOf 20 = .ok (.aload_n 0, 1) := by decide +kernel
theorem dX12_readOf_21 : decode cX12_readOf 21 = .ok (.getfield 78, 3) := by decide +kernel
theorem dX12_readOf_24 : decode cX12_readOf 24 = .ok (.ifCond .ne 16, 3) := by decide +kernel
theorem dX12_readOf_27 : decode cX12_readOf 27 = .ok (.aload_n 0, 1) := by decide +kernel
theorem dX12_readOf_28 : decode cX12_readOf 28 = .ok (.getfield 94, 3) := by decide +kernel
theorem dX12_readOf_31 : decode cX12_readOf 31 = .ok (.iload_n 2, 1) := by decide +kernel
theorem dX12_readOf_32 : decode cX12_readOf 32 = .ok (.if_icmp .lt 8, 3) := by decide +kernel
theorem dX12_readOf_35 : decode cX12_readOf 35 = .ok (.aload_n 0, 1) := by decide +kernel
theorem dX12_readOf_36 : decode cX12_readOf 36 = .ok (.iconst 3, 1) := by decide +kernel
theorem dX12_readOf_37 : decode cX12_readOf 37 = .ok (.invokevirtual 108, 3) := by decide +kernel
theorem dX12_readOf_40 : decode cX12_readOf 40 = .ok (.aload_n 0, 1) := by decide +kernel
theorem dX12_readOf_41 : decode cX12_readOf 41 = .ok (.getfield 78, 3) := by decide +kernel
theorem dX12_readOf_44 : decode cX12_readOf 44 = .ok (.ifCond .ne 12, 3) := by decide +kernel
theorem dX12_readOf_47 : decode cX12_readOf 47 = .ok (.iload_n 1, 1) := by decide +kernel
theorem dX12_readOf_48 : decode cX12_readOf 48 = .ok (.aload_n 0, 1) := by decide +kernel
theorem dX12_readOf_49 : decode cX12_readOf 49 = .ok (.getfield 94, 3) := by decide +kernel
theorem dX12_readOf_52 : decode cX12_readOf 52 = .ok (.iadd, 1) := by decide +kernel
theorem dX12_readOf_53 : decode cX12_readOf 53 = .ok (.goto 4, 3) := by decide +kernel
theorem dX12_readOf_56 : decode cX12_readOf 56 = .ok (.iconst 0, 1) := by decide +kernel
theorem dX12_readOf_57 : decode cX12_readOf 57 = .ok (.istore_n 3, 1) := by decide +kernel
theorem dX12_readOf_58 : decode cX12_readOf 58 = .ok (.aload_n 0, 1) := by decide +kernel
theorem dX12_readOf_59 : decode cX12_readOf 59 = .ok (.iload_n 3, 1) := by decide +kernel
theorem dX12_readOf_60 : decode cX12_readOf 60 = .ok (.invokevirtual 118, 3) := by decide +kernel
theorem dX12_readOf_63 : decode cX12_readOf 63 = .ok (.aload_n 0, 1) := by decide +kernel
theorem dX12_readOf_64 : decode cX12_readOf 64 = .ok (.invokevirtual 112, 3) := by decide +kernel
theorem dX12_readOf_67 : decode cX12_readOf 67 = .ok (.iload_n 3, 1) := by decide +kernel
theorem dX12_readOf_68 : decode cX12_readOf 68 = .ok (.ireturn, 1) := by decide +kernel
theorem dX12_readLine_0 : decode cX12_readLine 0 = .ok (.aload_n 0, 1) := by decide +kernel
theorem dX12_readLine_1 : decode cX12_readLine 1 = .ok (.invokevirtual 121, 3) := by decide +kernel
theorem dX12_readLine_4 : decode cX12_readLine 4 = .ok (.istore_n 1, 1) := by decide +kernel
theorem dX12_readLine_5 : decode cX12_readLine 5 = .ok (.iload_n 1, 1) := by decide +kernel
theorem dX12_readLine_6 : decode cX12_readLine 6 = .ok (.bipush (-4), 2) := by decide +kernel
theorem dX12_readLine_8 : decode cX12_readLine 8 = .ok (.if_icmp .ne 9, 3) := by decide +kernel
theorem dX12_readLine_11 : decode cX12_readLine 11 = .ok (.aload_n 0, 1) := by decide +kernel
theorem dX12_readLine_12 : decode cX12_readLine 12 = .ok (.iconst 2, 1) := by decide +kernel
theorem dX12_readLine_13 : decode cX12_readLine 13 = .ok (.invokevirtual 108, 3) := by decide +kernel
theorem dX12_readLine_16 : decode cX12_readLine 16 = .ok (.return_, 1) := by decide +kernel
theorem dX12_readLine_17 : decode cX12_readLine 17 = .ok (.iload_n 1, 1) := by decide +kernel
theorem dX12_readLine_18 : decode cX12_readLine 18 = .ok (.bipush 6, 2) := by decide +kernel
theorem dX12_readLine_20 : decode cX12_readLine 20 = .ok (.if_icmp .lt 99, 3) := by decide +kernel
theorem dX12_readLine_23 : decode cX12_readLine 23 = .ok (.aload_n 0, 1) := by decide +kernel
theorem dX12_readLine_24 : decode cX12_readLine 24 = .ok (.invokevirtual 112, 3) := by decide +kernel
theorem dX12_readLine_27 : decode cX12_readLine 27 = .ok (.iload_n 1, 1) := by decide +kernel
theorem dX12_readLine_28 : decode cX12_readLine 28 = .ok (.bipush 6, 2) := by decide +kernel
theorem dX12_readLine_30 : decode cX12_readLine 30 = .ok (.if_icmp .ne 14, 3) := by decide +kernel
theorem dX12_readLine_33 : decode cX12_readLine 33 = .ok (.aload_n 0, 1) := by decide +kernel
theorem dX12_readLine_34 : decode cX12_readLine 34 = .ok (.bipush 6, 2) := by decide +kernel
theorem dX12_readLine_36 : decode cX12_readLine 36 = .ok (.bipush 9, 2) := by decide +kernel
theorem dX12_readLine_38 : decode cX12_readLine 38 = .ok (.invokevirtual 125, 3) := by decide +kernel
theorem dX12_readLine_41 : decode cX12_readLine 41 = .ok (.goto 11, 3) := by decide +kernel
theorem dX12_readLine_44 : decode cX12_readLine 44 = .ok (.aload_n 0, 1) := by decide +kernel
theorem dX12_readLine_45 : decode cX12_readLine 45 = .ok (.bipush 15, 2) := by decide +kernel
theorem dX12_readLine_47 : decode cX12_readLine 47 = .ok (.bipush 16, 2) := by decide +kernel
theorem dX12_readLine_49 : decode cX12_readLine 49 = .ok (.invokevirtual 125, 3) := by decide +kernel
theorem dX12_readLine_52 : decode cX12_readLine 52 = .ok (.istore_n 2, 1) := by decide +kernel
theorem dX12_readLine_53 : decode cX12_readLine 53 = .ok (.aload_n 0, 1) := by decide +kernel
theorem dX12_readLine_54 : decode cX12_readLine 54 = .ok (.invokevirtual 129, 3) := by decide +kernel
theorem dX12_readLine_57 : decode cX12_readLine 57 = .ok (.istore_n 3, 1) := by decide +kernel
theorem dX12_readLine_58 : decode cX12_readLine 58 = .ok (.iload_n 1, 1) := by decide +kernel
theorem dX12_readLine_59 : decode cX12_readLine 59 = .ok (.bipush 6, 2) := by decide +kernel
theorem dX12_readLine_61 : decode cX12_readLine 61 = .ok (.if_icmp .ne 17, 3) := by decide +kernel
theorem dX12_readLine_64 : decode cX12_readLine 64 = .ok (.aload_n 0, 1) := by decide +kernel
theorem dX12_readLine_65 : decode cX12_readLine 65 = .ok (.iload_n 3, 1) := by decide +kernel
theorem dX12_readLine_66 : decode cX12_readLine 66 = .ok (.sipush (-999), 3) := by decide +kernel
theorem dX12_readLine_69 : decode cX12_readLine 69 = .ok (.sipush 999, 3) := by decide +kernel
theorem dX12_readLine_72 : decode cX12_readLine 72 = .ok (.invokevirtual 132, 3) := by decide +kernel
theorem dX12_readLine_75 : decode cX12_readLine 75 = .ok (.goto 15, 3) := by decide +kernel
theorem dX12_readLine_78 : decode cX12_readLine 78 = .ok (.aload_n 0, 1) := by decide +kernel
theorem dX12_readLine_79 : decode cX12_readLine 79 = .ok (.iload_n 3, 1) := by decide +kernel
theorem dX12_readLine_80 : decode cX12_readLine 80 = .ok (.bipush (-9), 2) := by decide +kernel
theorem dX12_readLine_82 : decode cX12_readLine 82 = .ok (.bipush 89, 2) := by decide +kernel
theorem dX12_readLine_84 : decode cX12_readLine 84 = .ok (.invokevirtual 132, 3) := by decide +kernel
theorem dX12_readLine_87 : decode cX12_readLine 87 = .ok (.bipush 10, 2) := by decide +kernel
theorem dX12_readLine_89 : decode cX12_readLine 89 = .ok (.iadd, 1) := by decide +kernel
theorem dX12_readLine_90 : decode cX12_readLine 90 = .ok (.istore 4, 2) := by decide +kernel
theorem dX12_readLine_92 : decode cX12_readLine 92 = .ok (.aload_n 0, 1) := by decide +kernel
theorem dX12_readLine_93 : decode cX12_readLine 93 = .ok (.getfield 22, 3) := by decide +kernel
theorem dX12_readLine_96 : decode cX12_readLine 96 = .ok (.iload_n 2, 1) := by decide +kernel
theorem dX12_readLine_97 : decode cX12_readLine 97 = .ok (.aload_n 0, 1) := by decide +kernel
theorem dX12_readLine_98 : decode cX12_readLine 98 = .ok (.getfield 78, 3) := by decide +kernel
theorem dX12_readLine_101 : decode cX12_readLine 101 = .ok (.ifCond .ne 8, 3) := by decide +kernel
theorem dX12_readLine_104 : decode cX12_readLine 104 = .ok (.iload 4, 2) := by decide +kernel
theorem dX12_readLine_106 : decode cX12_readLine 106 = .ok (.goto 9, 3) := by decide +kernel
theorem dX12_readLine_109 : decode cX12_readLine 109 = .ok (.aload_n 0, 1) := by decide +kernel
theorem dX12_readLine_110 : decode cX12_readLine 110 = .ok (.getfield 22, 3) := by decide +kernel
theorem dX12_readLine_113 : decode cX12_readLine 113 = .ok (.iload_n 2, 1) := by decide +kernel
theorem dX12_readLine_114 : decode cX12_readLine 114 = .ok (.iaload, 1) := by decide +kernel
theorem dX12_readLine_115 : decode cX12_readLine 115 = .ok (.iastore, 1) := by decide +kernel
theorem dX12_readLine_116 : decode cX12_readLine 116 = .ok (.goto 118, 3) := by decide +kernel
theorem dX12_readLine_119 : decode cX12_readLine 119 = .ok (.aload_n 0, 1) := by decide +kernel
theorem dX12_readLine_120 : decode cX12_readLine 120 = .ok (.iload_n 1, 1) := by decide +kernel
theorem dX12_readLine_121 : decode cX12_readLine 121 = .ok (.invokevirtual 118, 3) := by decide +kernel
theorem dX12_readLine_124 : decode cX12_readLine 124 = .ok (.aload_n 0, 1) := by decide +kernel
theorem dX12_readLine_125 : decode cX12_readLine 125 = .ok (.invokevirtual 112, 3) := by decide +kernel
theorem dX12_readLine_128 : decode cX12_readLine 128 = .ok (.iload_n 1, 1) := by decide +kernel
theorem dX12_readLine_129 : decode cX12_readLine 129 = .ok (.iconst 2, 1) := by decide +kernel
theorem dX12_readLine_130 : decode cX12_readLine 130 = .ok (.if_icmp .eq 8, 3) := by decide +kernel
theorem dX12_readLine_133 : decode cX12_readLine 133 = .ok (.iload_n 1, 1) := by decide +kernel
theorem dX12_readLine_134 : decode cX12_readLine 134 = .ok (.iconst 4, 1) := by decide +kernel
theorem dX12_readLine_135 : decode cX12_readLine 135 = .ok (.if_icmp .ne 10, 3) := by decide +kernel
theorem dX12_readLine_138 : decode cX12_readLine 138 = .ok (.aload_n 0, 1) := by decide +kernel
theorem dX12_readLine_139 : decode cX12_readLine 139 = .ok (.invokevirtual 129, 3) := by decide +kernel
theorem dX12_readLine_142 : decode cX12_readLine 142 = .ok (.goto 4, 3) := by decide +kernel
theorem dX12_readLine_145 : decode cX12_readLine 145 = .ok (.iconst 1, 1) := by decide +kernel
theorem dX12_readLine_146 : decode cX12_readLine 146 = .ok (.istore_n 2, 1) := by decide +kernel
theorem dX12_readLine_147 : decode cX12_readLine 147 = .ok (.iload_n 1, 1) := by decide +kernel
theorem dX12_readLine_148 : decode cX12_readLine 148 = .ok (.iconst 3, 1) := by decide +kernel
theorem dX12_readLine_149 : decode cX12_readLine 149 = .ok (.if_icmp .eq 78, 3) := by decide +kernel
theorem dX12_readLine_152 : decode cX12_readLine 152 = .ok (.iload_n 2, 1) := by decide +kernel
theorem dX12_readLine_153 : decode cX12_readLine 153 = .ok (.ifCond .ge 9, 3) := by decide +kernel
theorem dX12_readLine_156 : decode cX12_readLine 156 = .ok (.sipush (-999), 3) := by decide +kernel
theorem dX12_readLine_159 : decode cX12_readLine 159 = .ok (.goto 26, 3) := by decide +kernel
theorem dX12_readLine_162 : decode cX12_readLine 162 = .ok (.iload_n 1, 1) := by decide +kernel
theorem dX12_readLine_163 : decode cX12_readLine 163 = .ok (.iconst 2, 1) := by decide +kernel
theorem dX12_readLine_164 : decode cX12_readLine 164 = .ok (.if_icmp .eq 8, 3) := by decide +kernel
theorem dX12_readLine_167 : decode cX12_readLine 167 = .ok (.iload_n 1, 1) := by decide +kernel
theorem dX12_readLine_168 : decode cX12_readLine 168 = .ok (.iconst 4, 1) := by decide +kernel
theorem dX12_readLine_169 : decode cX12_readLine 169 = .ok (.if_icmp .ne 7, 3) := by decide +kernel
theorem dX12_readLine_172 : decode cX12_readLine 172 = .ok (.iconst 0, 1) := by decide +kernel
theorem dX12_readLine_173 : decode cX12_readLine 173 = .ok (.goto 12, 3) := by decide +kernel
theorem dX12_readLine_176 : decode cX12_readLine 176 = .ok (.iload_n 1, 1) := by decide +kernel
theorem dX12_readLine_177 : decode cX12_readLine 177 = .ok (.ifCond .ne 7, 3) := by decide +kernel
theorem dX12_readLine_180 : decode cX12_readLine 180 = .ok (.iconst 2, 1) := by decide +kernel
theorem dX12_readLine_181 : decode cX12_readLine 181 = .ok (.goto 4, 3) := by decide +kernel
theorem dX12_readLine_184 : decode cX12_readLine 184 = .ok (.iconst 1, 1) := by decide +kernel
theorem dX12_readLine_185 : decode cX12_readLine 185 = .ok (.istore_n 3, 1) := by decide +kernel
theorem dX12_readLine_186 : decode cX12_readLine 186 = .ok (.iload_n 1, 1) := by decide +kernel
theorem dX12_readLine_187 : decode cX12_readLine 187 = .ok (.ifCond .ne 8, 3) := by decide +kernel
theorem dX12_readLine_190 : decode cX12_readLine 190 = .ok (.bipush 8, 2) := by decide +kernel
theorem dX12_readLine_192 : decode cX12_readLine 192 = .ok (.goto 16, 3) := by decide +kernel
theorem dX12_readLine_195 : decode cX12_readLine 195 = .ok (.iload_n 1, 1) := by decide +kernel
theorem dX12_readLine_196 : decode cX12_readLine 196 = .ok (.iconst 1, 1) := by decide +kernel
theorem dX12_readLine_197 : decode cX12_readLine 197 = .ok (.if_icmp .ne 8, 3) := by decide +kernel
theorem dX12_readLine_200 : decode cX12_readLine 200 = .ok (.bipush 99, 2) := by decide +kernel
theorem dX12_readLine_202 : decode cX12_readLine 202 = .ok (.goto 6, 3) := by decide +kernel
theorem dX12_readLine_205 : decode cX12_readLine 205 = .ok (.sipush 999, 3) := by decide +kernel
theorem dX12_readLine_208 : decode cX12_readLine 208 = .ok (.istore 4, 2) := by decide +kernel
theorem dX12_readLine_210 : decode cX12_readLine 210 = .ok (.aload_n 0, 1) := by decide +kernel
theorem dX12_readLine_211 : decode cX12_readLine 211 = .ok (.getfield 22, 3) := by decide +kernel
theorem dX12_readLine_214 : decode cX12_readLine 214 = .ok (.iload_n 1, 1) := by decide +kernel
theorem dX12_readLine_215 : decode cX12_readLine 215 = .ok (.aload_n 0, 1) := by decide +kernel
theorem dX12_readLine_216 : decode cX12_readLine 216 = .ok (.iload_n 2, 1) := by decide +kernel
theorem dX12_readLine_217 : decode cX12_readLine 217 = .ok (.iload_n 3, 1) := by decide +kernel
theorem dX12_readLine_218 : decode cX12_readLine 218 = .ok (.iload 4, 2) := by decide +kernel
theorem dX12_readLine_220 : decode cX12_readLine 220 = .ok (.invokevirtual 132, 3) := by decide +kernel
theorem dX12_readLine_223 : decode cX12_readLine 223 = .ok (.iastore, 1) := by decide +kernel
theorem dX12_readLine_224 : decode cX12_readLine 224 = .ok (.goto 10, 3) := by decide +kernel
theorem dX12_readLine_227 : decode cX12_readLine 227 = .ok (.aload_n 0, 1) := by decide +kernel
theorem dX12_readLine_228 : decode cX12_readLine 228 = .ok (.getfield 22, 3) := by decide +kernel
theorem dX12_readLine_231 : decode cX12_readLine 231 = .ok (.iconst 3, 1) := by decide +kernel
theorem dX12_readLine_232 : decode cX12_readLine 232 = .ok (.iconst 1, 1) := by decide +kernel
theorem dX12_readLine_233 : decode cX12_readLine 233 = .ok (.iastore, 1) := by decide +kernel
theorem dX12_readLine_234 : decode cX12_readLine 234 = .ok (.aload_n 0, 1) := by decide +kernel
theorem dX12_readLine_235 : decode cX12_readLine 235 = .ok (.getfield 78, 3) := by decide +kernel
theorem dX12_readLine_238 : decode cX12_readLine 238 = .ok (.ifCond .ne 25, 3) := by decide +kernel
theorem dX12_readLine_241 : decode cX12_readLine 241 = .ok (.aload_n 0, 1) := by decide +kernel
theorem dX12_readLine_242 : decode cX12_readLine 242 = .ok (.getfield 97, 3) := by decide +kernel
theorem dX12_readLine_245 : decode cX12_readLine 245 = .ok (.iconst 3, 1) := by decide +kernel
theorem dX12_readLine_246 : decode cX12_readLine 246 = .ok (.if_icmp .ne 12, 3) := by decide +kernel
theorem dX12_readLine_249 : decode cX12_readLine 249 = .ok (.aload_n 0, 1) := by decide +kernel
theorem dX12_readLine_250 : decode cX12_readLine 250 = .ok (.getfield 94, 3) := by decide +kernel
theorem dX12_readLine_253 : decode cX12_readLine 253 = .ok (.bipush 59, 2) := by decide +kernel
theorem dX12_readLine_255 : decode cX12_readLine 255 = .ok (.if_icmp .eq 8, 3) := by decide +kernel
theorem dX12_readLine_258 : decode cX12_readLine 258 = .ok (.aload_n 0, 1) := by decide +kernel
theorem dX12_readLine_259 : decode cX12_readLine 259 = .ok (.iconst 2, 1) := by decide +kernel
theorem dX12_readLine_260 : decode cX12_readLine 260 = .ok (.invokevirtual 108, 3) := by decide +kernel
theorem dX12_readLine_263 : decode cX12_readLine 263 = .ok (.aload_n 0, 1) := by decide +kernel
theorem dX12_readLine_264 : decode cX12_readLine 264 = .ok (.invokevirtual 112, 3) := by decide +kernel
theorem dX12_readLine_267 : decode cX12_readLine 267 = .ok (.return_, 1) := by decide +kernel
theorem dX12_text_0 : decode cX12_text 0 = .ok (.aload_n 0, 1) := by decide +kernel
theorem dX12_text_1 : decode cX12_text 1 = .ok (.iconst 0, 1) := by decide +kernel
theorem dX12_text_2 : decode cX12_text 2 = .ok (.putfield 78, 3) := by decide +kernel
theorem dX12_text_5 : decode cX12_text 5 = .ok (.aload_n 0, 1) := by decide +kernel
theorem dX12_text_6 : decode cX12_text 6 = .ok (.iconst 0, 1) := by decide +kernel
theorem dX12_text_7 : decode cX12_text 7 = .ok (.putfield 87, 3) := by decide +kernel
theorem dX12_text_10 : decode cX12_text 10 = .ok (.aload_n 0, 1) := by decide +kernel
theorem dX12_text_11 : decode cX12_text 11 = .ok (.iconst 0, 1) := by decide +kernel
theorem dX12_text_12 : decode cX12_text 12 = .ok (.putfield 115, 3) := by decide +kernel
theorem dX12_text_15 : decode cX12_text 15 = .ok (.iconst 0, 1) := by decide +kernel
theorem dX12_text_16 : decode cX12_text 16 = .ok (.istore_n 1, 1) := by decide +kernel
theorem dX12_text_17 : decode cX12_text 17 = .ok (.iconst 0, 1) := by decide +kernel
theorem dX12_text_18 : decode cX12_text 18 = .ok (.istore_n 2, 1) := by decide +kernel
theorem dX12_text_19 : decode cX12_text 19 = .ok (.iload_n 2, 1) := by decide +kernel
theorem dX12_text_20 : decode cX12_text 20 = .ok (.bipush 31, 2) := by decide +kernel
theorem dX12_text_22 : decode cX12_text 22 = .ok (.if_icmp .ge 27, 3) := by decide +kernel
theorem dX12_text_25 : decode cX12_text 25 = .ok (.aload_n 0, 1) := by decide +kernel
theorem dX12_text_26 : decode cX12_text 26 = .ok (.getfield 22, 3) := by decide +kernel
theorem dX12_text_29 : decode cX12_text 29 = .ok (.iload_n 2, 1) := by decide +kernel
theorem dX12_text_30 : decode cX12_text 30 = .ok (.iload_n 2, 1) := by decide +kernel
theorem dX12_text_31 : decode cX12_text 31 = .ok (.bipush 15, 2) := by decide +kernel
theorem dX12_text_33 : decode cX12_text 33 = .ok (.if_icmp .lt 8, 3) := by decide +kernel
theorem dX12_text_36 : decode cX12_text 36 = .ok (.bipush 10, 2) := by decide +kernel
theorem dX12_text_38 : decode cX12_text 38 = .ok (.goto 4, 3) := by decide +kernel
theorem dX12_text_41 : decode cX12_text 41 = .ok (.iconst 0, 1) := by decide +kernel
theorem dX12_text_42 : decode cX12_text 42 = .ok (.iastore, 1) := by decide +kernel
theorem dX12_text_43 : decode cX12_text 43 = .ok (.iinc 2 1, 3) := by decide +kernel
theorem dX12_text_46 : decode cX12_text 46 = .ok (.goto (-27), 3) := by decide +kernel
theorem dX12_text_49 : decode cX12_text 49 = .ok (.aload_n 0, 1) := by decide +kernel
theorem dX12_text_50 : decode cX12_text 50 = .ok (.getfield 22, 3) := by decide +kernel
theorem dX12_text_53 : decode cX12_text 53 = .ok (.iconst 0, 1) := by decide +kernel
theorem dX12_text_54 : decode cX12_text 54 = .ok (.iconst 4, 1) := by decide +kernel
theorem dX12_text_55 : decode cX12_text 55 = .ok (.iastore, 1) := by decide +kernel
theorem dX12_text_56 : decode cX12_text 56 = .ok (.aload_n 0, 1) := by decide +kernel
theorem dX12_text_57 : decode cX12_text 57 = .ok (.getfield 22, 3) := by decide +kernel
theorem dX12_text_60 : decode cX12_text 60 = .ok (.iconst 1, 1) := by decide +kernel
theorem dX12_text_61 : decode cX12_text 61 = .ok (.bipush 16, 2) := by decide +kernel
theorem dX12_text_63 : decode cX12_text 63 = .ok (.iastore, 1) := by decide +kernel
theorem dX12_text_64 : decode cX12_text 64 = .ok (.aload_n 0, 1) := by decide +kernel
theorem dX12_text_65 : decode cX12_text 65 = .ok (.getfield 22, 3) := by decide +kernel
theorem dX12_text_68 : decode cX12_text 68 = .ok (.iconst 5, 1) := by decide +kernel
theorem dX12_text_69 : decode cX12_text 69 = .ok (.bipush 100, 2) := by decide +kernel
theorem dX12_text_71 : decode cX12_text 71 = .ok (.iastore, 1) := by decide +kernel
theorem dX12_text_72 : decode cX12_text 72 = .ok (.aload_n 0, 1) := by decide +kernel
theorem dX12_text_73 : decode cX12_text 73 = .ok (.invokevirtual 112, 3) := by decide +kernel
theorem dX12_text_76 : decode cX12_text 76 = .ok (.aload_n 0, 1) := by decide +kernel
theorem dX12_text_77 : decode cX12_text 77 = .ok (.getfield 78, 3) := by decide +kernel
theorem dX12_text_80 : decode cX12_text 80 = .ok (.ifCond .ne 20, 3) := by decide +kernel
theorem dX12_text_83 : decode cX12_text 83 = .ok (.aload_n 0, 1) := by decide +kernel
theorem dX12_text_84 : decode cX12_text 84 = .ok (.getfield 97, 3) := by decide +kernel
theorem dX12_text_87 : decode cX12_text 87 = .ok (.ifCond .eq 13, 3) := by decide +kernel
theorem dX12_text_90 : decode cX12_text 90 = .ok (.aload_n 0, 1) := by decide +kernel
theorem dX12_text_91 : decode cX12_text 91 = .ok (.invokevirtual 136, 3) := by decide +kernel
theorem dX12_text_94 : decode cX12_text 94 = .ok (.iinc 1 1, 3) := by decide +kernel
theorem dX12_text_97 : decode cX12_text 97 = .ok (.goto (-21), 3) := by decide +kernel
theorem dX12_text_100 : decode cX12_text 100 = .ok (.aload_n 0, 1) := by decide +kernel
theorem dX12_text_101 : decode cX12_text 101 = .ok (.getfield 78, 3) := by decide +kernel
theorem dX12_text_104 : decode cX12_text 104 = .ok (.ifCond .ne 33, 3) := by decide +kernel
theorem dX12_text_107 : decode cX12_text 107 = .ok (.aload_n 0, 1) := by decide +kernel
theorem dX12_text_108 : decode cX12_text 108 = .ok (.getfield 22, 3) := by decide +kernel
theorem dX12_text_111 : decode cX12_text 111 = .ok (.iconst 3, 1) := by decide +kernel
theorem dX12_text_112 : decode cX12_text 112 = .ok (.iaload, 1) := by decide +kernel
theorem dX12_text_113 : decode cX12_text 113 = .ok (.iconst 1, 1) := by decide +kernel
theorem dX12_text_114 : decode cX12_text 114 = .ok (.if_icmp .ne 23, 3) := by decide +kernel
theorem dX12_text_117 : decode cX12_text 117 = .ok (.aload_n 0, 1) := by decide +kernel
theorem dX12_text_118 : decode cX12_text 118 = .ok (.getfield 22, 3) := by decide +kernel
theorem dX12_text_121 : decode cX12_text 121 = .ok (.iconst 0, 1) := by decide +kernel
theorem dX12_text_122 : decode cX12_text 122 = .ok (.iaload, 1) := by decide +kernel
theorem dX12_text_123 : decode cX12_text 123 = .ok (.iconst 2, 1) := by decide +kernel
theorem dX12_text_124 : decode cX12_text 124 = .ok (.if_icmp .ne 13, 3) := by decide +kernel
theorem dX12_text_127 : decode cX12_text 127 = .ok (.aload_n 0, 1) := by decide +kernel
theorem dX12_text_128 : decode cX12_text 128 = .ok (.iconst 0, 1) := by decide +kernel
theorem dX12_text_129 : decode cX12_text 129 = .ok (.putfield 81, 3) := by decide +kernel
theorem dX12_text_132 : decode cX12_text 132 = .ok (.aload_n 0, 1) := by decide +kernel
theorem dX12_text_133 : decode cX12_text 133 = .ok (.iconst 5, 1) := by decide +kernel
theorem dX12_text_134 : decode cX12_text 134 = .ok (.invokevirtual 108, 3) := by decide +kernel
theorem dX12_text_137 : decode cX12_text 137 = .ok (.aload_n 0, 1) := by decide +kernel
theorem dX12_text_138 : decode cX12_text 138 = .ok (.iconst 0, 1) := by decide +kernel
theorem dX12_text_139 : decode cX12_text 139 = .ok (.putfield 74, 3) := by decide +kernel
theorem dX12_text_142 : decode cX12_text 142 = .ok (.aload_n 0, 1) := by decide +kernel
theorem dX12_text_143 : decode cX12_text 143 = .ok (.aload_n 0, 1) := by decide +kernel
theorem dX12_text_144 : decode cX12_text 144 = .ok (.getfield 78, 3) := by decide +kernel
theorem dX12_text_147 : decode cX12_text 147 = .ok (.putfield 139, 3) := by decide +kernel
theorem dX12_text_150 : decode cX12_text 150 = .ok (.aload_n 0, 1) := by decide +kernel
theorem dX12_text_151 : decode cX12_text 151 = .ok (.getfield 78, 3) := by decide +kernel
theorem dX12_text_154 : decode cX12_text 154 = .ok (.ifCond .le 11, 3) := by decide +kernel
theorem dX12_text_157 : decode cX12_text 157 = .ok (.bipush (-10), 2) := by decide +kernel
theorem dX12_text_159 : decode cX12_text 159 = .ok (.aload_n 0, 1) := by decide +kernel
theorem dX12_text_160 : decode cX12_text 160 = .ok (.getfield 84, 3) := by decide +kernel
theorem dX12_text_163 : decode cX12_text 163 = .ok (.isub, 1) := by decide +kernel
theorem dX12_text_164 : decode cX12_text 164 = .ok (.ireturn, 1) := by decide +kernel
theorem dX12_text_165 : decode cX12_text 165 = .ok (.iconst 0, 1) := by decide +kernel
theorem dX12_text_166 : decode cX12_text 166 = .ok (.istore_n 2, 1) := by decide +kernel
theorem dX12_text_167 : decode cX12_text 167 = .ok (.iload_n 2, 1) := by decide +kernel
theorem dX12_text_168 : decode cX12_text 168 = .ok (.bipush 31, 2) := by decide +kernel
theorem dX12_text_170 : decode cX12_text 170 = .ok (.if_icmp .ge 21, 3) := by decide +kernel
theorem dX12_text_173 : decode cX12_text 173 = .ok (.aload_n 0, 1) := by decide +kernel
theorem dX12_text_174 : decode cX12_text 174 = .ok (.getfield 19, 3) := by decide +kernel
theorem dX12_text_177 : decode cX12_text 177 = .ok (.iload_n 2, 1) := by decide +kernel
theorem dX12_text_178 : decode cX12_text 178 = .ok (.aload_n 0, 1) := by decide +kernel
theorem dX12_text_179 : decode cX12_text 179 = .ok (.getfield 22, 3) := by decide +kernel
theorem dX12_text_182 : decode cX12_text 182 = .ok (.iload_n 2, 1) := by decide +kernel
theorem dX12_text_183 : decode cX12_text 183 = .ok (.iaload, 1) := by decide +kernel
theorem dX12_text_184 : decode cX12_text 184 = .ok (.iastore, 1) := by decide +kernel
theorem dX12_text_185 : decode cX12_text 185 = .ok (.iinc 2 1, 3) := by decide +kernel
theorem dX12_text_188 : decode cX12_text 188 = .ok (.goto (-21), 3) := by decide +kernel
theorem dX12_text_191 : decode cX12_text 191 = .ok (.aload_n 0, 1) := by decide +kernel
theorem dX12_text_192 : decode cX12_text 192 = .ok (.iconst 0, 1) := by decide +kernel
theorem dX12_text_193 : decode cX12_text 193 = .ok (.putfield 142, 3) := by decide +kernel
theorem dX12_text_196 : decode cX12_text 196 = .ok (.iload_n 1, 1) := by decide +kernel
theorem dX12_text_197 : decode cX12_text 197 = .ok (.ireturn, 1) := by decide +kernel
theorem dX12_fault_0 : decode cX12_fault 0 = .ok (.aload_n 0, 1) := by decide +kernel
theorem dX12_fault_1 : decode cX12_fault 1 = .ok (.getfield 139, 3) := by decide +kernel
theorem dX12_fault_4 : decode cX12_fault 4 = .ok (.ireturn, 1) := by decide +kernel
theorem dX12_parts_0 : decode cX12_parts 0 = .ok (.aload_n 0, 1) := by decide +kernel
theorem dX12_parts_1 : decode cX12_parts 1 = .ok (.getfield 19, 3) := by decide +kernel
theorem dX12_parts_4 : decode cX12_parts 4 = .ok (.iconst 0, 1) := by decide +kernel
theorem dX12_parts_5 : decode cX12_parts 5 = .ok (.iaload, 1) := by decide +kernel
theorem dX12_parts_6 : decode cX12_parts 6 = .ok (.aload_n 0, 1) := by decide +kernel
theorem dX12_parts_7 : decode cX12_parts 7 = .ok (.getfield 19, 3) := by decide +kernel
theorem dX12_parts_10 : decode cX12_parts 10 = .ok (.iconst 3, 1) := by decide +kernel
theorem dX12_parts_11 : decode cX12_parts 11 = .ok (.iaload, 1) := by decide +kernel
theorem dX12_parts_12 : decode cX12_parts 12 = .ok (.iadd, 1) := by decide +kernel
theorem dX12_parts_13 : decode cX12_parts 13 = .ok (.ireturn, 1) := by decide +kernel
theorem dX12_rule_0 : decode cX12_rule 0 = .ok (.iload_n 1, 1) := by decide +kernel
theorem dX12_rule_1 : decode cX12_rule 1 = .ok (.i2l, 1) := by decide +kernel
theorem dX12_rule_2 : decode cX12_rule 2 = .ok (.lconst 0, 1) := by decide +kernel
theorem dX12_rule_3 : decode cX12_rule 3 = .ok (.ldc2_w 145, 3) := by decide +kernel
theorem dX12_rule_6 : decode cX12_rule 6 = .ok (.invokestatic 70, 3) := by decide +kernel
theorem dX12_rule_9 : decode cX12_rule 9 = .ok (.ifCond .eq 10, 3) := by decide +kernel
theorem dX12_rule_12 : decode cX12_rule 12 = .ok (.aload_n 0, 1) := by decide +kernel
theorem dX12_rule_13 : decode cX12_rule 13 = .ok (.getfield 19, 3) := by decide +kernel
theorem dX12_rule_16 : decode cX12_rule 16 = .ok (.iload_n 1, 1) := by decide +kernel
theorem dX12_rule_17 : decode cX12_rule 17 = .ok (.iaload, 1) := by decide +kernel
theorem dX12_rule_18 : decode cX12_rule 18 = .ok (.ireturn, 1) := by decide +kernel
theorem dX12_rule_19 : decode cX12_rule 19 = .ok (.iload_n 1, 1) := by decide +kernel
theorem dX12_rule_20 : decode cX12_rule 20 = .ok (.i2l, 1) := by decide +kernel
theorem dX12_rule_21 : decode cX12_rule 21 = .ok (.ldc2_w 147, 3) := by decide +kernel
theorem dX12_rule_24 : decode cX12_rule 24 = .ok (.ldc2_w 149, 3) := by decide +kernel
theorem dX12_rule_27 : decode cX12_rule 27 = .ok (.invokestatic 70, 3) := by decide +kernel
theorem dX12_rule_30 : decode cX12_rule 30 = .ok (.ifCond .eq 31, 3) := by decide +kernel
theorem dX12_rule_33 : decode cX12_rule 33 = .ok (.iload_n 1, 1) := by decide +kernel
theorem dX12_rule_34 : decode cX12_rule 34 = .ok (.bipush 10, 2) := by decide +kernel
theorem dX12_rule_36 : decode cX12_rule 36 = .ok (.isub, 1) := by decide +kernel
theorem dX12_rule_37 : decode cX12_rule 37 = .ok (.aload_n 0, 1) := by decide +kernel
theorem dX12_rule_38 : decode cX12_rule 38 = .ok (.invokevirtual 151, 3) := by decide +kernel
theorem dX12_rule_41 : decode cX12_rule 41 = .ok (.if_icmp .ge 18, 3) := by decide +kernel
theorem dX12_rule_44 : decode cX12_rule 44 = .ok (.aload_n 0, 1) := by decide +kernel
theorem dX12_rule_45 : decode cX12_rule 45 = .ok (.getfield 19, 3) := by decide +kernel
theorem dX12_rule_48 : decode cX12_rule 48 = .ok (.bipush 6, 2) := by decide +kernel
theorem dX12_rule_50 : decode cX12_rule 50 = .ok (.iload_n 1, 1) := by decide +kernel
theorem dX12_rule_51 : decode cX12_rule 51 = .ok (.iadd, 1) := by decide +kernel
theorem dX12_rule_52 : decode cX12_rule 52 = .ok (.bipush 10, 2) := by decide +kernel
theorem dX12_rule_54 : decode cX12_rule 54 = .ok (.isub, 1) := by decide +kernel
theorem dX12_rule_55 : decode cX12_rule 55 = .ok (.iaload, 1) := by decide +kernel
theorem dX12_rule_56 : decode cX12_rule 56 = .ok (.goto 4, 3) := by decide +kernel
theorem dX12_rule_59 : decode cX12_rule 59 = .ok (.iconst 0, 1) := by decide +kernel
theorem dX12_rule_60 : decode cX12_rule 60 = .ok (.ireturn, 1) := by decide +kernel
theorem dX12_rule_61 : decode cX12_rule 61 = .ok (.iload_n 1, 1) := by decide +kernel
theorem dX12_rule_62 : decode cX12_rule 62 = .ok (.i2l, 1) := by decide +kernel
theorem dX12_rule_63 : decode cX12_rule 63 = .ok (.ldc2_w 154, 3) := by decide +kernel
theorem dX12_rule_66 : decode cX12_rule 66 = .ok (.ldc2_w 156, 3) := by decide +kernel
theorem dX12_rule_69 : decode cX12_rule 69 = .ok (.invokestatic 70, 3) := by decide +kernel
theorem dX12_rule_72 : decode cX12_rule 72 = .ok (.ifCond .eq 18, 3) := by decide +kernel
theorem dX12_rule_75 : decode cX12_rule 75 = .ok (.aload_n 0, 1) := by decide +kernel
theorem dX12_rule_76 : decode cX12_rule 76 = .ok (.getfield 19, 3) := by decide +kernel
theorem dX12_rule_79 : decode cX12_rule 79 = .ok (.bipush 15, 2) := by decide +kernel
theorem dX12_rule_81 : decode cX12_rule 81 = .ok (.iload_n 1, 1) := by decide +kernel
theorem dX12_rule_82 : decode cX12_rule 82 = .ok (.iadd, 1) := by decide +kernel
theorem dX12_rule_83 : decode cX12_rule 83 = .ok (.bipush 30, 2) := by decide +kernel
theorem dX12_rule_85 : decode cX12_rule 85 = .ok (.isub, 1) := by decide +kernel
theorem dX12_rule_86 : decode cX12_rule 86 = .ok (.iaload, 1) := by decide +kernel
theorem dX12_rule_87 : decode cX12_rule 87 = .ok (.goto 6, 3) := by decide +kernel
theorem dX12_rule_90 : decode cX12_rule 90 = .ok (.sipush (-1000), 3) := by decide +kernel
theorem dX12_rule_93 : decode cX12_rule 93 = .ok (.ireturn, 1) := by decide +kernel
theorem dX12_many_0 : decode cX12_many 0 = .ok (.iconst 1, 1) := by decide +kernel
theorem dX12_many_1 : decode cX12_many 1 = .ok (.aload_n 0, 1) := by decide +kernel
theorem dX12_many_2 : decode cX12_many 2 = .ok (.getfield 19, 3) := by decide +kernel
theorem dX12_many_5 : decode cX12_many 5 = .ok (.iconst 0, 1) := by decide +kernel
theorem dX12_many_6 : decode cX12_many 6 = .ok (.iaload, 1) := by decide +kernel
theorem dX12_many_7 : decode cX12_many 7 = .ok (.ishl, 1) := by decide +kernel
theorem dX12_many_8 : decode cX12_many 8 = .ok (.ireturn, 1) := by decide +kernel
theorem dX12_isCode_0 : decode cX12_isCode 0 = .ok (.iload_n 1, 1) := by decide +kernel
theorem dX12_isCode_1 : decode cX12_isCode 1 = .ok (.i2l, 1) := by decide +kernel
theorem dX12_isCode_2 : decode cX12_isCode 2 = .ok (.lconst 0, 1) := by decide +kernel
theorem dX12_isCode_3 : decode cX12_isCode 3 = .ok (.aload_n 0, 1) := by decide +kernel
theorem dX12_isCode_4 : decode cX12_isCode 4 = .ok (.invokevirtual 158, 3) := by decide +kernel
theorem dX12_isCode_7 : decode cX12_isCode 7 = .ok (.iconst 1, 1) := by decide +kernel
theorem dX12_isCode_8 : decode cX12_isCode 8 = .ok (.isub, 1) := by decide +kernel
theorem dX12_isCode_9 : decode cX12_isCode 9 = .ok (.i2l, 1) := by decide +kernel
theorem dX12_isCode_10 : decode cX12_isCode 10 = .ok (.invokestatic 70, 3) := by decide +kernel
theorem dX12_isCode_13 : decode cX12_isCode 13 = .ok (.ireturn, 1) := by decide +kernel
theorem dX12_nominal_0 : decode cX12_nominal 0 = .ok (.aload_n 0, 1) := by decide +kernel
theorem dX12_nominal_1 : decode cX12_nominal 1 = .ok (.getfield 19, 3) := by decide +kernel
theorem dX12_nominal_4 : decode cX12_nominal 4 = .ok (.iconst 0, 1) := by decide +kernel
theorem dX12_nominal_5 : decode cX12_nominal 5 = .ok (.iaload, 1) := by decide +kernel
theorem dX12_nominal_6 : decode cX12_nominal 6 = .ok (.istore_n 2, 1) := by decide +kernel
theorem dX12_nominal_7 : decode cX12_nominal 7 = .ok (.aload_n 0, 1) := by decide +kernel
theorem dX12_nominal_8 : decode cX12_nominal 8 = .ok (.getfield 19, 3) := by decide +kernel
theorem dX12_nominal_11 : decode cX12_nominal 11 = .ok (.iconst 1, 1) := by decide +kernel
theorem dX12_nominal_12 : decode cX12_nominal 12 = .ok (.iaload, 1) := by decide +kernel
theorem dX12_nominal_13 : decode cX12_nominal 13 = .ok (.aload_n 0, 1) := by decide +kernel
theorem dX12_nominal_14 : decode cX12_nominal 14 = .ok (.getfield 19, 3) := by decide +kernel
theorem dX12_nominal_17 : decode cX12_nominal 17 = .ok (.iconst 3, 1) := by decide +kernel
theorem dX12_nominal_18 : decode cX12_nominal 18 = .ok (.iaload, 1) := by decide +kernel
theorem dX12_nominal_19 : decode cX12_nominal 19 = .ok (.iconst 1, 1) := by decide +kernel
theorem dX12_nominal_20 : decode cX12_nominal 20 = .ok (.if_icmp .ne 16, 3) := by decide +kernel
theorem dX12_nominal_23 : decode cX12_nominal 23 = .ok (.iload_n 1, 1) := by decide +kernel
theorem dX12_nominal_24 : decode cX12_nominal 24 = .ok (.iload_n 2, 1) := by decide +kernel
theorem dX12_nominal_25 : decode cX12_nominal 25 = .ok (.iconst 2, 1) := by decide +kernel
theorem dX12_nominal_26 : decode cX12_nominal 26 = .ok (.isub, 1) := by decide +kernel
theorem dX12_nominal_27 : decode cX12_nominal 27 = .ok (.if_icmp .le 9, 3) := by decide +kernel
theorem dX12_nominal_30 : decode cX12_nominal 30 = .ok (.iload_n 2, 1) := by decide +kernel
theorem dX12_nominal_31 : decode cX12_nominal 31 = .ok (.iconst 2, 1) := by decide +kernel
theorem dX12_nominal_32 : decode cX12_nominal 32 = .ok (.isub, 1) := by decide +kernel
theorem dX12_nominal_33 : decode cX12_nominal 33 = .ok (.goto 4, 3) := by decide +kernel
theorem dX12_nominal_36 : decode cX12_nominal 36 = .ok (.iload_n 1, 1) := by decide +kernel
theorem dX12_nominal_37 : decode cX12_nominal 37 = .ok (.ishl, 1) := by decide +kernel
theorem dX12_nominal_38 : decode cX12_nominal 38 = .ok (.ireturn, 1) := by decide +kernel
theorem dX12_weight_0 : decode cX12_weight 0 = .ok (.aload_n 0, 1) := by decide +kernel
theorem dX12_weight_1 : decode cX12_weight 1 = .ok (.iload_n 1, 1) := by decide +kernel
theorem dX12_weight_2 : decode cX12_weight 2 = .ok (.invokevirtual 161, 3) := by decide +kernel
theorem dX12_weight_5 : decode cX12_weight 5 = .ok (.aload_n 0, 1) := by decide +kernel
theorem dX12_weight_6 : decode cX12_weight 6 = .ok (.getfield 19, 3) := by decide +kernel
theorem dX12_weight_9 : decode cX12_weight 9 = .ok (.bipush 6, 2) := by decide +kernel
theorem dX12_weight_11 : decode cX12_weight 11 = .ok (.iload_n 1, 1) := by decide +kernel
theorem dX12_weight_12 : decode cX12_weight 12 = .ok (.iadd, 1) := by decide +kernel
theorem dX12_weight_13 : decode cX12_weight 13 = .ok (.iaload, 1) := by decide +kernel
theorem dX12_weight_14 : decode cX12_weight 14 = .ok (.iadd, 1) := by decide +kernel
theorem dX12_weight_15 : decode cX12_weight 15 = .ok (.istore_n 2, 1) := by decide +kernel
theorem dX12_weight_16 : decode cX12_weight 16 = .ok (.iload_n 2, 1) := by decide +kernel
theorem dX12_weight_17 : decode cX12_weight 17 = .ok (.ifCond .ge 7, 3) := by decide +kernel
theorem dX12_weight_20 : decode cX12_weight 20 = .ok (.iconst 0, 1) := by decide +kernel
theorem dX12_weight_21 : decode cX12_weight 21 = .ok (.goto 4, 3) := by decide +kernel
theorem dX12_weight_24 : decode cX12_weight 24 = .ok (.iload_n 2, 1) := by decide +kernel
theorem dX12_weight_25 : decode cX12_weight 25 = .ok (.ireturn, 1) := by decide +kernel
theorem dX12_isTaken_0 : decode cX12_isTaken 0 = .ok (.aload_n 0, 1) := by decide +kernel
theorem dX12_isTaken_1 : decode cX12_isTaken 1 = .ok (.getfield 19, 3) := by decide +kernel
theorem dX12_isTaken_4 : decode cX12_isTaken 4 = .ok (.iconst 0, 1) := by decide +kernel
theorem dX12_isTaken_5 : decode cX12_isTaken 5 = .ok (.iaload, 1) := by decide +kernel
theorem dX12_isTaken_6 : decode cX12_isTaken 6 = .ok (.iconst 2, 1) := by decide +kernel
theorem dX12_isTaken_7 : decode cX12_isTaken 7 = .ok (.isub, 1) := by decide +kernel
theorem dX12_isTaken_8 : decode cX12_isTaken 8 = .ok (.istore_n 3, 1) := by decide +kernel
theorem dX12_isTaken_9 : decode cX12_isTaken 9 = .ok (.aload_n 0, 1) := by decide +kernel
theorem dX12_isTaken_10 : decode cX12_isTaken 10 = .ok (.getfield 19, 3) := by decide +kernel
theorem dX12_isTaken_13 : decode cX12_isTaken 13 = .ok (.iconst 3, 1) := by decide +kernel
theorem dX12_isTaken_14 : decode cX12_isTaken 14 = .ok (.iaload, 1) := by decide +kernel
theorem dX12_isTaken_15 : decode cX12_isTaken 15 = .ok (.iconst 1, 1) := by decide +kernel
theorem dX12_isTaken_16 : decode cX12_isTaken 16 = .ok (.if_icmp .ne 25, 3) := by decide +kernel
theorem dX12_isTaken_19 : decode cX12_isTaken 19 = .ok (.iload_n 1, 1) := by decide +kernel
theorem dX12_isTaken_20 : decode cX12_isTaken 20 = .ok (.iload_n 3, 1) := by decide +kernel
theorem dX12_isTaken_21 : decode cX12_isTaken 21 = .ok (.if_icmp .lt 20, 3) := by decide +kernel
theorem dX12_isTaken_24 : decode cX12_isTaken 24 = .ok (.iload_n 1, 1) := by decide +kernel
theorem dX12_isTaken_25 : decode cX12_isTaken 25 = .ok (.iload_n 3, 1) := by decide +kernel
theorem dX12_isTaken_26 : decode cX12_isTaken 26 = .ok (.isub, 1) := by decide +kernel
theorem dX12_isTaken_27 : decode cX12_isTaken 27 = .ok (.iload_n 2, 1) := by decide +kernel
theorem dX12_isTaken_28 : decode cX12_isTaken 28 = .ok (.iload_n 3, 1) := by decide +kernel
theorem dX12_isTaken_29 : decode cX12_isTaken 29 = .ok (.ishr, 1) := by decide +kernel
theorem dX12_isTaken_30 : decode cX12_isTaken 30 = .ok (.if_icmp .ge 7, 3) := by decide +kernel
theorem dX12_isTaken_33 : decode cX12_isTaken 33 = .ok (.iconst 1, 1) := by decide +kernel
theorem dX12_isTaken_34 : decode cX12_isTaken 34 = .ok (.goto 21, 3) := by decide +kernel
theorem dX12_isTaken_37 : decode cX12_isTaken 37 = .ok (.iconst 0, 1) := by decide +kernel
theorem dX12_isTaken_38 : decode cX12_isTaken 38 = .ok (.goto 17, 3) := by decide +kernel
theorem dX12_isTaken_41 : decode cX12_isTaken 41 = .ok (.iload_n 2, 1) := by decide +kernel
theorem dX12_isTaken_42 : decode cX12_isTaken 42 = .ok (.iload_n 1, 1) := by decide +kernel
theorem dX12_isTaken_43 : decode cX12_isTaken 43 = .ok (.ishr, 1) := by decide +kernel
theorem dX12_isTaken_44 : decode cX12_isTaken 44 = .ok (.iconst 1, 1) := by decide +kernel
theorem dX12_isTaken_45 : decode cX12_isTaken 45 = .ok (.iand, 1) := by decide +kernel
theorem dX12_isTaken_46 : decode cX12_isTaken 46 = .ok (.iconst 1, 1) := by decide +kernel
theorem dX12_isTaken_47 : decode cX12_isTaken 47 = .ok (.if_icmp .ne 7, 3) := by decide +kernel
theorem dX12_isTaken_50 : decode cX12_isTaken 50 = .ok (.iconst 1, 1) := by decide +kernel
theorem dX12_isTaken_51 : decode cX12_isTaken 51 = .ok (.goto 4, 3) := by decide +kernel
theorem dX12_isTaken_54 : decode cX12_isTaken 54 = .ok (.iconst 0, 1) := by decide +kernel
theorem dX12_isTaken_55 : decode cX12_isTaken 55 = .ok (.ireturn, 1) := by decide +kernel
theorem dX12_outOf_0 : decode cX12_outOf 0 = .ok (.aload_n 0, 1) := by decide +kernel
theorem dX12_outOf_1 : decode cX12_outOf 1 = .ok (.getfield 19, 3) := by decide +kernel
theorem dX12_outOf_4 : decode cX12_outOf 4 = .ok (.iconst 2, 1) := by decide +kernel
theorem dX12_outOf_5 : decode cX12_outOf 5 = .ok (.iaload, 1) := by decide +kernel
theorem dX12_outOf_6 : decode cX12_outOf 6 = .ok (.istore_n 2, 1) := by decide +kernel
theorem dX12_outOf_7 : decode cX12_outOf 7 = .ok (.iconst 0, 1) := by decide +kernel
theorem dX12_outOf_8 : decode cX12_outOf 8 = .ok (.istore_n 3, 1) := by decide +kernel
theorem dX12_outOf_9 : decode cX12_outOf 9 = .ok (.iload_n 3, 1) := by decide +kernel
theorem dX12_outOf_10 : decode cX12_outOf 10 = .ok (.aload_n 0, 1) := by decide +kernel
theorem dX12_outOf_11 : decode cX12_outOf 11 = .ok (.invokevirtual 151, 3) := by decide +kernel
theorem dX12_outOf_14 : decode cX12_outOf 14 = .ok (.if_icmp .ge 30, 3) := by decide +kernel
theorem dX12_outOf_17 : decode cX12_outOf 17 = .ok (.iload_n 2, 1) := by decide +kernel
theorem dX12_outOf_18 : decode cX12_outOf 18 = .ok (.aload_n 0, 1) := by decide +kernel
theorem dX12_outOf_19 : decode cX12_outOf 19 = .ok (.iload_n 3, 1) := by decide +kernel
theorem dX12_outOf_20 : decode cX12_outOf 20 = .ok (.iload_n 1, 1) := by decide +kernel
theorem dX12_outOf_21 : decode cX12_outOf 21 = .ok (.invokevirtual 164, 3) := by decide +kernel
theorem dX12_outOf_24 : decode cX12_outOf 24 = .ok (.ifCond .eq 11, 3) := by decide +kernel
theorem dX12_outOf_27 : decode cX12_outOf 27 = .ok (.aload_n 0, 1) := by decide +kernel
theorem dX12_outOf_28 : decode cX12_outOf 28 = .ok (.iload_n 3, 1) := by decide +kernel
theorem dX12_outOf_29 : decode cX12_outOf 29 = .ok (.invokevirtual 168, 3) := by decide +kernel
theorem dX12_outOf_32 : decode cX12_outOf 32 = .ok (.goto 4, 3) := by decide +kernel
theorem dX12_outOf_35 : decode cX12_outOf 35 = .ok (.iconst 0, 1) := by decide +kernel
theorem dX12_outOf_36 : decode cX12_outOf 36 = .ok (.iadd, 1) := by decide +kernel
theorem dX12_outOf_37 : decode cX12_outOf 37 = .ok (.istore_n 2, 1) := by decide +kernel
theorem dX12_outOf_38 : decode cX12_outOf 38 = .ok (.iinc 3 1, 3) := by decide +kernel
theorem dX12_outOf_41 : decode cX12_outOf 41 = .ok (.goto (-32), 3) := by decide +kernel
theorem dX12_outOf_44 : decode cX12_outOf 44 = .ok (.iload_n 2, 1) := by decide +kernel
theorem dX12_outOf_45 : decode cX12_outOf 45 = .ok (.ireturn, 1) := by decide +kernel
theorem dX12_layLevels_0 : decode cX12_layLevels 0 = .ok (.iconst 0, 1) := by decide +kernel
theorem dX12_layLevels_1 : decode cX12_layLevels 1 = .ok (.istore_n 1, 1) := by decide +kernel
theorem dX12_layLevels_2 : decode cX12_layLevels 2 = .ok (.iload_n 1, 1) := by decide +kernel
theorem dX12_layLevels_3 : decode cX12_layLevels 3 = .ok (.aload_n 0, 1) := by decide +kernel
theorem dX12_layLevels_4 : decode cX12_layLevels 4 = .ok (.invokevirtual 158, 3) := by decide +kernel
theorem dX12_layLevels_7 : decode cX12_layLevels 7 = .ok (.if_icmp .ge 20, 3) := by decide +kernel
theorem dX12_layLevels_10 : decode cX12_layLevels 10 = .ok (.aload_n 0, 1) := by decide +kernel
theorem dX12_layLevels_11 : decode cX12_layLevels 11 = .ok (.getfield 25, 3) := by decide +kernel
theorem dX12_layLevels_14 : decode cX12_layLevels 14 = .ok (.iload_n 1, 1) := by decide +kernel
theorem dX12_layLevels_15 : decode cX12_layLevels 15 = .ok (.aload_n 0, 1) := by decide +kernel
theorem dX12_layLevels_16 : decode cX12_layLevels 16 = .ok (.iload_n 1, 1) := by decide +kernel
theorem dX12_layLevels_17 : decode cX12_layLevels 17 = .ok (.invokevirtual 171, 3) := by decide +kernel
theorem dX12_layLevels_20 : decode cX12_layLevels 20 = .ok (.iastore, 1) := by decide +kernel
theorem dX12_layLevels_21 : decode cX12_layLevels 21 = .ok (.iinc 1 1, 3) := by decide +kernel
theorem dX12_layLevels_24 : decode cX12_layLevels 24 = .ok (.goto (-22), 3) := by decide +kernel
theorem dX12_layLevels_27 : decode cX12_layLevels 27 = .ok (.return_, 1) := by decide +kernel
theorem dX12_out_0 : decode cX12_out 0 = .ok (.aload_n 0, 1) := by decide +kernel
theorem dX12_out_1 : decode cX12_out 1 = .ok (.iload_n 1, 1) := by decide +kernel
theorem dX12_out_2 : decode cX12_out 2 = .ok (.invokevirtual 174, 3) := by decide +kernel
theorem dX12_out_5 : decode cX12_out 5 = .ok (.ifCond .eq 11, 3) := by decide +kernel
theorem dX12_out_8 : decode cX12_out 8 = .ok (.aload_n 0, 1) := by decide +kernel
theorem dX12_out_9 : decode cX12_out 9 = .ok (.iload_n 1, 1) := by decide +kernel
theorem dX12_out_10 : decode cX12_out 10 = .ok (.invokevirtual 171, 3) := by decide +kernel
theorem dX12_out_13 : decode cX12_out 13 = .ok (.goto 5, 3) := by decide +kernel
theorem dX12_out_16 : decode cX12_out 16 = .ok (.ldc 178, 2) := by decide +kernel
theorem dX12_out_18 : decode cX12_out 18 = .ok (.ireturn, 1) := by decide +kernel
theorem dX12_lowest_0 : decode cX12_lowest 0 = .ok (.lload_n 0, 1) := by decide +kernel
theorem dX12_lowest_1 : decode cX12_lowest 1 = .ok (.lconst 0, 1) := by decide +kernel
theorem dX12_lowest_2 : decode cX12_lowest 2 = .ok (.lcmp, 1) := by decide +kernel
theorem dX12_lowest_3 : decode cX12_lowest 3 = .ok (.ifCond .ge 8, 3) := by decide +kernel
theorem dX12_lowest_6 : decode cX12_lowest 6 = .ok (.lload_n 0, 1) := by decide +kernel
theorem dX12_lowest_7 : decode cX12_lowest 7 = .ok (.lneg, 1) := by decide +kernel
theorem dX12_lowest_8 : decode cX12_lowest 8 = .ok (.goto 4, 3) := by decide +kernel
theorem dX12_lowest_11 : decode cX12_lowest 11 = .ok (.lload_n 0, 1) := by decide +kernel
theorem dX12_lowest_12 : decode cX12_lowest 12 = .ok (.lstore 5, 2) := by decide +kernel
theorem dX12_lowest_14 : decode cX12_lowest 14 = .ok (.lload_n 2, 1) := by decide +kernel
theorem dX12_lowest_15 : decode cX12_lowest 15 = .ok (.lstore 7, 2) := by decide +kernel
theorem dX12_lowest_17 : decode cX12_lowest 17 = .ok (.lload 7, 2) := by decide +kernel
theorem dX12_lowest_19 : decode cX12_lowest 19 = .ok (.lconst 0, 1) := by decide +kernel
theorem dX12_lowest_20 : decode cX12_lowest 20 = .ok (.lcmp, 1) := by decide +kernel
theorem dX12_lowest_21 : decode cX12_lowest 21 = .ok (.ifCond .eq 21, 3) := by decide +kernel
theorem dX12_lowest_24 : decode cX12_lowest 24 = .ok (.lload 5, 2) := by decide +kernel
theorem dX12_lowest_26 : decode cX12_lowest 26 = .ok (.lload 7, 2) := by decide +kernel
theorem dX12_lowest_28 : decode cX12_lowest 28 = .ok (.lrem, 1) := by decide +kernel
theorem dX12_lowest_29 : decode cX12_lowest 29 = .ok (.lstore 9, 2) := by decide +kernel
theorem dX12_lowest_31 : decode cX12_lowest 31 = .ok (.lload 7, 2) := by decide +kernel
theorem dX12_lowest_33 : decode cX12_lowest 33 = .ok (.lstore 5, 2) := by decide +kernel
theorem dX12_lowest_35 : decode cX12_lowest 35 = .ok (.lload 9, 2) := by decide +kernel
theorem dX12_lowest_37 : decode cX12_lowest 37 = .ok (.lstore 7, 2) := by decide +kernel
theorem dX12_lowest_39 : decode cX12_lowest 39 = .ok (.goto (-22), 3) := by decide +kernel
theorem dX12_lowest_42 : decode cX12_lowest 42 = .ok (.iload 4, 2) := by decide +kernel
theorem dX12_lowest_44 : decode cX12_lowest 44 = .ok (.ifCond .ne 7, 3) := by decide +kernel
theorem dX12_lowest_47 : decode cX12_lowest 47 = .ok (.lload_n 0, 1) := by decide +kernel
theorem dX12_lowest_48 : decode cX12_lowest 48 = .ok (.goto 4, 3) := by decide +kernel
theorem dX12_lowest_51 : decode cX12_lowest 51 = .ok (.lload_n 2, 1) := by decide +kernel
theorem dX12_lowest_52 : decode cX12_lowest 52 = .ok (.lload 5, 2) := by decide +kernel
theorem dX12_lowest_54 : decode cX12_lowest 54 = .ok (.ldiv, 1) := by decide +kernel
theorem dX12_lowest_55 : decode cX12_lowest 55 = .ok (.lreturn, 1) := by decide +kernel
theorem dX12_whole_0 : decode cX12_whole 0 = .ok (.aload_n 0, 1) := by decide +kernel
theorem dX12_whole_1 : decode cX12_whole 1 = .ok (.getfield 25, 3) := by decide +kernel
theorem dX12_whole_4 : decode cX12_whole 4 = .ok (.aload_n 0, 1) := by decide +kernel
theorem dX12_whole_5 : decode cX12_whole 5 = .ok (.invokevirtual 158, 3) := by decide +kernel
theorem dX12_whole_8 : decode cX12_whole 8 = .ok (.iconst 1, 1) := by decide +kernel
theorem dX12_whole_9 : decode cX12_whole 9 = .ok (.isub, 1) := by decide +kernel
theorem dX12_whole_10 : decode cX12_whole 10 = .ok (.iaload, 1) := by decide +kernel
theorem dX12_whole_11 : decode cX12_whole 11 = .ok (.aload_n 0, 1) := by decide +kernel
theorem dX12_whole_12 : decode cX12_whole 12 = .ok (.getfield 25, 3) := by decide +kernel
theorem dX12_whole_15 : decode cX12_whole 15 = .ok (.iconst 0, 1) := by decide +kernel
theorem dX12_whole_16 : decode cX12_whole 16 = .ok (.iaload, 1) := by decide +kernel
theorem dX12_whole_17 : decode cX12_whole 17 = .ok (.isub, 1) := by decide +kernel
theorem dX12_whole_18 : decode cX12_whole 18 = .ok (.i2l, 1) := by decide +kernel
theorem dX12_whole_19 : decode cX12_whole 19 = .ok (.lreturn, 1) := by decide +kernel
theorem dX12_lsb_0 : decode cX12_lsb 0 = .ok (.iload_n 1, 1) := by decide +kernel
theorem dX12_lsb_1 : decode cX12_lsb 1 = .ok (.i2l, 1) := by decide +kernel
theorem dX12_lsb_2 : decode cX12_lsb 2 = .ok (.lconst 0, 1) := by decide +kernel
theorem dX12_lsb_3 : decode cX12_lsb 3 = .ok (.lconst 1, 1) := by decide +kernel
theorem dX12_lsb_4 : decode cX12_lsb 4 = .ok (.invokestatic 70, 3) := by decide +kernel
theorem dX12_lsb_7 : decode cX12_lsb 7 = .ok (.ifCond .ne 6, 3) := by decide +kernel
theorem dX12_lsb_10 : decode cX12_lsb 10 = .ok (.ldc 179, 2) := by decide +kernel
theorem dX12_lsb_12 : decode cX12_lsb 12 = .ok (.ireturn, 1) := by decide +kernel
theorem dX12_lsb_13 : decode cX12_lsb 13 = .ok (.aload_n 0, 1) := by decide +kernel
theorem dX12_lsb_14 : decode cX12_lsb 14 = .ok (.invokevirtual 180, 3) := by decide +kernel
theorem dX12_lsb_17 : decode cX12_lsb 17 = .ok (.aload_n 0, 1) := by decide +kernel
theorem dX12_lsb_18 : decode cX12_lsb 18 = .ok (.invokevirtual 183, 3) := by decide +kernel
theorem dX12_lsb_21 : decode cX12_lsb 21 = .ok (.aload_n 0, 1) := by decide +kernel
theorem dX12_lsb_22 : decode cX12_lsb 22 = .ok (.invokevirtual 158, 3) := by decide +kernel
theorem dX12_lsb_25 : decode cX12_lsb 25 = .ok (.iconst 1, 1) := by decide +kernel
theorem dX12_lsb_26 : decode cX12_lsb 26 = .ok (.isub, 1) := by decide +kernel
theorem dX12_lsb_27 : decode cX12_lsb 27 = .ok (.i2l, 1) := by decide +kernel
theorem dX12_lsb_28 : decode cX12_lsb 28 = .ok (.iload_n 1, 1) := by decide +kernel
theorem dX12_lsb_29 : decode cX12_lsb 29 = .ok (.invokestatic 187, 3) := by decide +kernel
theorem dX12_lsb_32 : decode cX12_lsb 32 = .ok (.l2i, 1) := by decide +kernel
theorem dX12_lsb_33 : decode cX12_lsb 33 = .ok (.ireturn, 1) := by decide +kernel
theorem dX12_wideUp_0 : decode cX12_wideUp 0 = .ok (.aload_n 0, 1) := by decide +kernel
theorem dX12_wideUp_1 : decode cX12_wideUp 1 = .ok (.getfield 25, 3) := by decide +kernel
theorem dX12_wideUp_4 : decode cX12_wideUp 4 = .ok (.iload_n 1, 1) := by decide +kernel
theorem dX12_wideUp_5 : decode cX12_wideUp 5 = .ok (.iconst 1, 1) := by decide +kernel
theorem dX12_wideUp_6 : decode cX12_wideUp 6 = .ok (.iadd, 1) := by decide +kernel
theorem dX12_wideUp_7 : decode cX12_wideUp 7 = .ok (.iaload, 1) := by decide +kernel
theorem dX12_wideUp_8 : decode cX12_wideUp 8 = .ok (.aload_n 0, 1) := by decide +kernel
theorem dX12_wideUp_9 : decode cX12_wideUp 9 = .ok (.getfield 25, 3) := by decide +kernel
theorem dX12_wideUp_12 : decode cX12_wideUp 12 = .ok (.iload_n 1, 1) := by decide +kernel
theorem dX12_wideUp_13 : decode cX12_wideUp 13 = .ok (.iaload, 1) := by decide +kernel
theorem dX12_wideUp_14 : decode cX12_wideUp 14 = .ok (.isub, 1) := by decide +kernel
theorem dX12_wideUp_15 : decode cX12_wideUp 15 = .ok (.i2l, 1) := by decide +kernel
theorem dX12_wideUp_16 : decode cX12_wideUp 16 = .ok (.aload_n 0, 1) := by decide +kernel
theorem dX12_wideUp_17 : decode cX12_wideUp 17 = .ok (.invokevirtual 158, 3) := by decide +kernel
theorem dX12_wideUp_20 : decode cX12_wideUp 20 = .ok (.iconst 1, 1) := by decide +kernel
theorem dX12_wideUp_21 : decode cX12_wideUp 21 = .ok (.isub, 1) := by decide +kernel
theorem dX12_wideUp_22 : decode cX12_wideUp 22 = .ok (.i2l, 1) := by decide +kernel
theorem dX12_wideUp_23 : decode cX12_wideUp 23 = .ok (.lmul, 1) := by decide +kernel
theorem dX12_wideUp_24 : decode cX12_wideUp 24 = .ok (.aload_n 0, 1) := by decide +kernel
theorem dX12_wideUp_25 : decode cX12_wideUp 25 = .ok (.invokevirtual 183, 3) := by decide +kernel
theorem dX12_wideUp_28 : decode cX12_wideUp 28 = .ok (.lsub, 1) := by decide +kernel
theorem dX12_wideUp_29 : decode cX12_wideUp 29 = .ok (.lreturn, 1) := by decide +kernel
theorem dX12_bentUp_0 : decode cX12_bentUp 0 = .ok (.aload_n 0, 1) := by decide +kernel
theorem dX12_bentUp_1 : decode cX12_bentUp 1 = .ok (.getfield 25, 3) := by decide +kernel
theorem dX12_bentUp_4 : decode cX12_bentUp 4 = .ok (.iload_n 1, 1) := by decide +kernel
theorem dX12_bentUp_5 : decode cX12_bentUp 5 = .ok (.iaload, 1) := by decide +kernel
theorem dX12_bentUp_6 : decode cX12_bentUp 6 = .ok (.aload_n 0, 1) := by decide +kernel
theorem dX12_bentUp_7 : decode cX12_bentUp 7 = .ok (.getfield 25, 3) := by decide +kernel
theorem dX12_bentUp_10 : decode cX12_bentUp 10 = .ok (.iconst 0, 1) := by decide +kernel
theorem dX12_bentUp_11 : decode cX12_bentUp 11 = .ok (.iaload, 1) := by decide +kernel
theorem dX12_bentUp_12 : decode cX12_bentUp 12 = .ok (.isub, 1) := by decide +kernel
theorem dX12_bentUp_13 : decode cX12_bentUp 13 = .ok (.i2l, 1) := by decide +kernel
theorem dX12_bentUp_14 : decode cX12_bentUp 14 = .ok (.aload_n 0, 1) := by decide +kernel
theorem dX12_bentUp_15 : decode cX12_bentUp 15 = .ok (.invokevirtual 158, 3) := by decide +kernel
theorem dX12_bentUp_18 : decode cX12_bentUp 18 = .ok (.iconst 1, 1) := by decide +kernel
theorem dX12_bentUp_19 : decode cX12_bentUp 19 = .ok (.isub, 1) := by decide +kernel
theorem dX12_bentUp_20 : decode cX12_bentUp 20 = .ok (.i2l, 1) := by decide +kernel
theorem dX12_bentUp_21 : decode cX12_bentUp 21 = .ok (.lmul, 1) := by decide +kernel
theorem dX12_bentUp_22 : decode cX12_bentUp 22 = .ok (.iload_n 1, 1) := by decide +kernel
theorem dX12_bentUp_23 : decode cX12_bentUp 23 = .ok (.i2l, 1) := by decide +kernel
theorem dX12_bentUp_24 : decode cX12_bentUp 24 = .ok (.aload_n 0, 1) := by decide +kernel
theorem dX12_bentUp_25 : decode cX12_bentUp 25 = .ok (.invokevirtual 183, 3) := by decide +kernel
theorem dX12_bentUp_28 : decode cX12_bentUp 28 = .ok (.lmul, 1) := by decide +kernel
theorem dX12_bentUp_29 : decode cX12_bentUp 29 = .ok (.lsub, 1) := by decide +kernel
theorem dX12_bentUp_30 : decode cX12_bentUp 30 = .ok (.lreturn, 1) := by decide +kernel
theorem dX12_wide_0 : decode cX12_wide 0 = .ok (.aload_n 0, 1) := by decide +kernel
theorem dX12_wide_1 : decode cX12_wide 1 = .ok (.iload_n 1, 1) := by decide +kernel
theorem dX12_wide_2 : decode cX12_wide 2 = .ok (.invokevirtual 174, 3) := by decide +kernel
theorem dX12_wide_5 : decode cX12_wide 5 = .ok (.ifCond .eq 23, 3) := by decide +kernel
theorem dX12_wide_8 : decode cX12_wide 8 = .ok (.iload_n 1, 1) := by decide +kernel
theorem dX12_wide_9 : decode cX12_wide 9 = .ok (.aload_n 0, 1) := by decide +kernel
theorem dX12_wide_10 : decode cX12_wide 10 = .ok (.invokevirtual 158, 3) := by decide +kernel
theorem dX12_wide_13 : decode cX12_wide 13 = .ok (.iconst 1, 1) := by decide +kernel
theorem dX12_wide_14 : decode cX12_wide 14 = .ok (.isub, 1) := by decide +kernel
theorem dX12_wide_15 : decode cX12_wide 15 = .ok (.if_icmp .eq 13, 3) := by decide +kernel
theorem dX12_wide_18 : decode cX12_wide 18 = .ok (.iload_n 2, 1) := by decide +kernel
theorem dX12_wide_19 : decode cX12_wide 19 = .ok (.i2l, 1) := by decide +kernel
theorem dX12_wide_20 : decode cX12_wide 20 = .ok (.lconst 0, 1) := by decide +kernel
theorem dX12_wide_21 : decode cX12_wide 21 = .ok (.lconst 1, 1) := by decide +kernel
theorem dX12_wide_22 : decode cX12_wide 22 = .ok (.invokestatic 70, 3) := by decide +kernel
theorem dX12_wide_25 : decode cX12_wide 25 = .ok (.ifCond .ne 7, 3) := by decide +kernel
theorem dX12_wide_28 : decode cX12_wide 28 = .ok (.ldc2_w 191, 3) := by decide +kernel
theorem dX12_wide_31 : decode cX12_wide 31 = .ok (.lreturn, 1) := by decide +kernel
theorem dX12_wide_32 : decode cX12_wide 32 = .ok (.aload_n 0, 1) := by decide +kernel
theorem dX12_wide_33 : decode cX12_wide 33 = .ok (.invokevirtual 180, 3) := by decide +kernel
theorem dX12_wide_36 : decode cX12_wide 36 = .ok (.aload_n 0, 1) := by decide +kernel
theorem dX12_wide_37 : decode cX12_wide 37 = .ok (.invokevirtual 183, 3) := by decide +kernel
theorem dX12_wide_40 : decode cX12_wide 40 = .ok (.lconst 0, 1) := by decide +kernel
theorem dX12_wide_41 : decode cX12_wide 41 = .ok (.lcmp, 1) := by decide +kernel
theorem dX12_wide_42 : decode cX12_wide 42 = .ok (.ifCond .gt 9, 3) := by decide +kernel
theorem dX12_wide_45 : decode cX12_wide 45 = .ok (.ldc2_w 193, 3) := by decide +kernel
theorem dX12_wide_48 : decode cX12_wide 48 = .ok (.goto 16, 3) := by decide +kernel
theorem dX12_wide_51 : decode cX12_wide 51 = .ok (.aload_n 0, 1) := by decide +kernel
theorem dX12_wide_52 : decode cX12_wide 52 = .ok (.iload_n 1, 1) := by decide +kernel
theorem dX12_wide_53 : decode cX12_wide 53 = .ok (.invokevirtual 195, 3) := by decide +kernel
theorem dX12_wide_56 : decode cX12_wide 56 = .ok (.aload_n 0, 1) := by decide +kernel
theorem dX12_wide_57 : decode cX12_wide 57 = .ok (.invokevirtual 183, 3) := by decide +kernel
theorem dX12_wide_60 : decode cX12_wide 60 = .ok (.iload_n 2, 1) := by decide +kernel
theorem dX12_wide_61 : decode cX12_wide 61 = .ok (.invokestatic 187, 3) := by decide +kernel
theorem dX12_wide_64 : decode cX12_wide 64 = .ok (.lreturn, 1) := by decide +kernel
theorem dX12_bent_0 : decode cX12_bent 0 = .ok (.aload_n 0, 1) := by decide +kernel
theorem dX12_bent_1 : decode cX12_bent 1 = .ok (.iload_n 1, 1) := by decide +kernel
theorem dX12_bent_2 : decode cX12_bent 2 = .ok (.invokevirtual 174, 3) := by decide +kernel
theorem dX12_bent_5 : decode cX12_bent 5 = .ok (.ifCond .eq 13, 3) := by decide +kernel
theorem dX12_bent_8 : decode cX12_bent 8 = .ok (.iload_n 2, 1) := by decide +kernel
theorem dX12_bent_9 : decode cX12_bent 9 = .ok (.i2l, 1) := by decide +kernel
theorem dX12_bent_10 : decode cX12_bent 10 = .ok (.lconst 0, 1) := by decide +kernel
theorem dX12_bent_11 : decode cX12_bent 11 = .ok (.lconst 1, 1) := by decide +kernel
theorem dX12_bent_12 : decode cX12_bent 12 = .ok (.invokestatic 70, 3) := by decide +kernel
theorem dX12_bent_15 : decode cX12_bent 15 = .ok (.ifCond .ne 7, 3) := by decide +kernel
theorem dX12_bent_18 : decode cX12_bent 18 = .ok (.ldc2_w 191, 3) := by decide +kernel
theorem dX12_bent_21 : decode cX12_bent 21 = .ok (.lreturn, 1) := by decide +kernel
theorem dX12_bent_22 : decode cX12_bent 22 = .ok (.aload_n 0, 1) := by decide +kernel
theorem dX12_bent_23 : decode cX12_bent 23 = .ok (.invokevirtual 180, 3) := by decide +kernel
theorem dX12_bent_26 : decode cX12_bent 26 = .ok (.aload_n 0, 1) := by decide +kernel
theorem dX12_bent_27 : decode cX12_bent 27 = .ok (.invokevirtual 183, 3) := by decide +kernel
theorem dX12_bent_30 : decode cX12_bent 30 = .ok (.lconst 0, 1) := by decide +kernel
theorem dX12_bent_31 : decode cX12_bent 31 = .ok (.lcmp, 1) := by decide +kernel
theorem dX12_bent_32 : decode cX12_bent 32 = .ok (.ifCond .gt 9, 3) := by decide +kernel
theorem dX12_bent_35 : decode cX12_bent 35 = .ok (.ldc2_w 193, 3) := by decide +kernel
theorem dX12_bent_38 : decode cX12_bent 38 = .ok (.goto 16, 3) := by decide +kernel
theorem dX12_bent_41 : decode cX12_bent 41 = .ok (.aload_n 0, 1) := by decide +kernel
theorem dX12_bent_42 : decode cX12_bent 42 = .ok (.iload_n 1, 1) := by decide +kernel
theorem dX12_bent_43 : decode cX12_bent 43 = .ok (.invokevirtual 199, 3) := by decide +kernel
theorem dX12_bent_46 : decode cX12_bent 46 = .ok (.aload_n 0, 1) := by decide +kernel
theorem dX12_bent_47 : decode cX12_bent 47 = .ok (.invokevirtual 183, 3) := by decide +kernel
theorem dX12_bent_50 : decode cX12_bent 50 = .ok (.iload_n 2, 1) := by decide +kernel
theorem dX12_bent_51 : decode cX12_bent 51 = .ok (.invokestatic 187, 3) := by decide +kernel
theorem dX12_bent_54 : decode cX12_bent 54 = .ok (.lreturn, 1) := by decide +kernel
theorem dX12_size_0 : decode cX12_size 0 = .ok (.lload_n 0, 1) := by decide +kernel
theorem dX12_size_1 : decode cX12_size 1 = .ok (.lconst 0, 1) := by decide +kernel
theorem dX12_size_2 : decode cX12_size 2 = .ok (.lcmp, 1) := by decide +kernel
theorem dX12_size_3 : decode cX12_size 3 = .ok (.ifCond .ge 8, 3) := by decide +kernel
theorem dX12_size_6 : decode cX12_size 6 = .ok (.lload_n 0, 1) := by decide +kernel
theorem dX12_size_7 : decode cX12_size 7 = .ok (.lneg, 1) := by decide +kernel
theorem dX12_size_8 : decode cX12_size 8 = .ok (.goto 4, 3) := by decide +kernel
theorem dX12_size_11 : decode cX12_size 11 = .ok (.lload_n 0, 1) := by decide +kernel
theorem dX12_size_12 : decode cX12_size 12 = .ok (.lreturn, 1) := by decide +kernel
theorem dX12_worst_0 : decode cX12_worst 0 = .ok (.iload_n 1, 1) := by decide +kernel
theorem dX12_worst_1 : decode cX12_worst 1 = .ok (.i2l, 1) := by decide +kernel
theorem dX12_worst_2 : decode cX12_worst 2 = .ok (.lconst 0, 1) := by decide +kernel
theorem dX12_worst_3 : decode cX12_worst 3 = .ok (.lconst 1, 1) := by decide +kernel
theorem dX12_worst_4 : decode cX12_worst 4 = .ok (.invokestatic 70, 3) := by decide +kernel
theorem dX12_worst_7 : decode cX12_worst 7 = .ok (.ifCond .eq 15, 3) := by decide +kernel
theorem dX12_worst_10 : decode cX12_worst 10 = .ok (.iload_n 2, 1) := by decide +kernel
theorem dX12_worst_11 : decode cX12_worst 11 = .ok (.i2l, 1) := by decide +kernel
theorem dX12_worst_12 : decode cX12_worst 12 = .ok (.lconst 0, 1) := by decide +kernel
theorem dX12_worst_13 : decode cX12_worst 13 = .ok (.ldc2_w 202, 3) := by decide +kernel
theorem dX12_worst_16 : decode cX12_worst 16 = .ok (.invokestatic 70, 3) := by decide +kernel
theorem dX12_worst_19 : decode cX12_worst 19 = .ok (.ifCond .ne 7, 3) := by decide +kernel
theorem dX12_worst_22 : decode cX12_worst 22 = .ok (.ldc2_w 204, 3) := by decide +kernel
theorem dX12_worst_25 : decode cX12_worst 25 = .ok (.lreturn, 1) := by decide +kernel
theorem dX12_worst_26 : decode cX12_worst 26 = .ok (.aload_n 0, 1) := by decide +kernel
theorem dX12_worst_27 : decode cX12_worst 27 = .ok (.invokevirtual 180, 3) := by decide +kernel
theorem dX12_worst_30 : decode cX12_worst 30 = .ok (.aload_n 0, 1) := by decide +kernel
theorem dX12_worst_31 : decode cX12_worst 31 = .ok (.invokevirtual 183, 3) := by decide +kernel
theorem dX12_worst_34 : decode cX12_worst 34 = .ok (.lconst 0, 1) := by decide +kernel
theorem dX12_worst_35 : decode cX12_worst 35 = .ok (.lcmp, 1) := by decide +kernel
theorem dX12_worst_36 : decode cX12_worst 36 = .ok (.ifCond .gt 7, 3) := by decide +kernel
theorem dX12_worst_39 : decode cX12_worst 39 = .ok (.ldc2_w 206, 3) := by decide +kernel
theorem dX12_worst_42 : decode cX12_worst 42 = .ok (.lreturn, 1) := by decide +kernel
theorem dX12_worst_43 : decode cX12_worst 43 = .ok (.iconst 0, 1) := by decide +kernel
theorem dX12_worst_44 : decode cX12_worst 44 = .ok (.istore_n 3, 1) := by decide +kernel
theorem dX12_worst_45 : decode cX12_worst 45 = .ok (.ldc2_w 204, 3) := by decide +kernel
theorem dX12_worst_48 : decode cX12_worst 48 = .ok (.lstore 4, 2) := by decide +kernel
theorem dX12_worst_50 : decode cX12_worst 50 = .ok (.iconst 0, 1) := by decide +kernel
theorem dX12_worst_51 : decode cX12_worst 51 = .ok (.istore 6, 2) := by decide +kernel
theorem dX12_worst_53 : decode cX12_worst 53 = .ok (.iload 6, 2) := by decide +kernel
theorem dX12_worst_55 : decode cX12_worst 55 = .ok (.aload_n 0, 1) := by decide +kernel
theorem dX12_worst_56 : decode cX12_worst 56 = .ok (.invokevirtual 158, 3) := by decide +kernel
theorem dX12_worst_59 : decode cX12_worst 59 = .ok (.iload_n 1, 1) := by decide +kernel
theorem dX12_worst_60 : decode cX12_worst 60 = .ok (.ifCond .ne 7, 3) := by decide +kernel
theorem dX12_worst_63 : decode cX12_worst 63 = .ok (.iconst 1, 1) := by decide +kernel
theorem dX12_worst_64 : decode cX12_worst 64 = .ok (.goto 4, 3) := by decide +kernel
theorem dX12_worst_67 : decode cX12_worst 67 = .ok (.iconst 0, 1) := by decide +kernel
theorem dX12_worst_68 : decode cX12_worst 68 = .ok (.isub, 1) := by decide +kernel
theorem dX12_worst_69 : decode cX12_worst 69 = .ok (.if_icmp .ge 65, 3) := by decide +kernel
theorem dX12_worst_72 : decode cX12_worst 72 = .ok (.iload_n 1, 1) := by decide +kernel
theorem dX12_worst_73 : decode cX12_worst 73 = .ok (.ifCond .ne 12, 3) := by decide +kernel
theorem dX12_worst_76 : decode cX12_worst 76 = .ok (.aload_n 0, 1) := by decide +kernel
theorem dX12_worst_77 : decode cX12_worst 77 = .ok (.iload 6, 2) := by decide +kernel
theorem dX12_worst_79 : decode cX12_worst 79 = .ok (.invokevirtual 195, 3) := by decide +kernel
theorem dX12_worst_82 : decode cX12_worst 82 = .ok (.goto 9, 3) := by decide +kernel
theorem dX12_worst_85 : decode cX12_worst 85 = .ok (.aload_n 0, 1) := by decide +kernel
theorem dX12_worst_86 : decode cX12_worst 86 = .ok (.iload 6, 2) := by decide +kernel
theorem dX12_worst_88 : decode cX12_worst 88 = .ok (.invokevirtual 199, 3) := by decide +kernel
theorem dX12_worst_91 : decode cX12_worst 91 = .ok (.invokestatic 208, 3) := by decide +kernel
theorem dX12_worst_94 : decode cX12_worst 94 = .ok (.lstore 7, 2) := by decide +kernel
theorem dX12_worst_96 : decode cX12_worst 96 = .ok (.lload 7, 2) := by decide +kernel
theorem dX12_worst_98 : decode cX12_worst 98 = .ok (.lload 4, 2) := by decide +kernel
theorem dX12_worst_100 : decode cX12_worst 100 = .ok (.lcmp, 1) := by decide +kernel
theorem dX12_worst_101 : decode cX12_worst 101 = .ok (.ifCond .le 8, 3) := by decide +kernel
theorem dX12_worst_104 : decode cX12_worst 104 = .ok (.iload 6, 2) := by decide +kernel
theorem dX12_worst_106 : decode cX12_worst 106 = .ok (.goto 4, 3) := by decide +kernel
theorem dX12_worst_109 : decode cX12_worst 109 = .ok (.iload_n 3, 1) := by decide +kernel
theorem dX12_worst_110 : decode cX12_worst 110 = .ok (.istore_n 3, 1) := by decide +kernel
theorem dX12_worst_111 : decode cX12_worst 111 = .ok (.lload 7, 2) := by decide +kernel
theorem dX12_worst_113 : decode cX12_worst 113 = .ok (.lload 4, 2) := by decide +kernel
theorem dX12_worst_115 : decode cX12_worst 115 = .ok (.lcmp, 1) := by decide +kernel
theorem dX12_worst_116 : decode cX12_worst 116 = .ok (.ifCond .le 8, 3) := by decide +kernel
theorem dX12_worst_119 : decode cX12_worst 119 = .ok (.lload 7, 2) := by decide +kernel
theorem dX12_worst_121 : decode cX12_worst 121 = .ok (.goto 5, 3) := by decide +kernel
theorem dX12_worst_124 : decode cX12_worst 124 = .ok (.lload 4, 2) := by decide +kernel
theorem dX12_worst_126 : decode cX12_worst 126 = .ok (.lstore 4, 2) := by decide +kernel
theorem dX12_worst_128 : decode cX12_worst 128 = .ok (.iinc 6 1, 3) := by decide +kernel
theorem dX12_worst_131 : decode cX12_worst 131 = .ok (.goto (-78), 3) := by decide +kernel
theorem dX12_worst_134 : decode cX12_worst 134 = .ok (.iload_n 2, 1) := by decide +kernel
theorem dX12_worst_135 : decode cX12_worst 135 = .ok (.ifCond .ne 8, 3) := by decide +kernel
theorem dX12_worst_138 : decode cX12_worst 138 = .ok (.iload_n 3, 1) := by decide +kernel
theorem dX12_worst_139 : decode cX12_worst 139 = .ok (.i2l, 1) := by decide +kernel
theorem dX12_worst_140 : decode cX12_worst 140 = .ok (.goto 15, 3) := by decide +kernel
theorem dX12_worst_143 : decode cX12_worst 143 = .ok (.lload 4, 2) := by decide +kernel
theorem dX12_worst_145 : decode cX12_worst 145 = .ok (.aload_n 0, 1) := by decide +kernel
theorem dX12_worst_146 : decode cX12_worst 146 = .ok (.invokevirtual 183, 3) := by decide +kernel
theorem dX12_worst_149 : decode cX12_worst 149 = .ok (.iload_n 2, 1) := by decide +kernel
theorem dX12_worst_150 : decode cX12_worst 150 = .ok (.iconst 1, 1) := by decide +kernel
theorem dX12_worst_151 : decode cX12_worst 151 = .ok (.isub, 1) := by decide +kernel
theorem dX12_worst_152 : decode cX12_worst 152 = .ok (.invokestatic 187, 3) := by decide +kernel
theorem dX12_worst_155 : decode cX12_worst 155 = .ok (.lreturn, 1) := by decide +kernel
theorem dX12_back_0 : decode cX12_back 0 = .ok (.iload_n 1, 1) := by decide +kernel
theorem dX12_back_1 : decode cX12_back 1 = .ok (.i2l, 1) := by decide +kernel
theorem dX12_back_2 : decode cX12_back 2 = .ok (.lconst 0, 1) := by decide +kernel
theorem dX12_back_3 : decode cX12_back 3 = .ok (.ldc2_w 202, 3) := by decide +kernel
theorem dX12_back_6 : decode cX12_back 6 = .ok (.invokestatic 70, 3) := by decide +kernel
theorem dX12_back_9 : decode cX12_back 9 = .ok (.ifCond .ne 5, 3) := by decide +kernel
theorem dX12_back_12 : decode cX12_back 12 = .ok (.iconst (-1), 1) := by decide +kernel
theorem dX12_back_13 : decode cX12_back 13 = .ok (.ireturn, 1) := by decide +kernel
theorem dX12_back_14 : decode cX12_back 14 = .ok (.aload_n 0, 1) := by decide +kernel
theorem dX12_back_15 : decode cX12_back 15 = .ok (.invokevirtual 180, 3) := by decide +kernel
theorem dX12_back_18 : decode cX12_back 18 = .ok (.iconst 0, 1) := by decide +kernel
theorem dX12_back_19 : decode cX12_back 19 = .ok (.istore_n 2, 1) := by decide +kernel
theorem dX12_back_20 : decode cX12_back 20 = .ok (.iconst 0, 1) := by decide +kernel
theorem dX12_back_21 : decode cX12_back 21 = .ok (.istore_n 3, 1) := by decide +kernel
theorem dX12_back_22 : decode cX12_back 22 = .ok (.bipush (-4), 2) := by decide +kernel
theorem dX12_back_24 : decode cX12_back 24 = .ok (.istore 4, 2) := by decide +kernel
theorem dX12_back_26 : decode cX12_back 26 = .ok (.aload_n 0, 1) := by decide +kernel
theorem dX12_back_27 : decode cX12_back 27 = .ok (.invokevirtual 158, 3) := by decide +kernel
theorem dX12_back_30 : decode cX12_back 30 = .ok (.iconst 2, 1) := by decide +kernel
theorem dX12_back_31 : decode cX12_back 31 = .ok (.isub, 1) := by decide +kernel
theorem dX12_back_32 : decode cX12_back 32 = .ok (.istore 5, 2) := by decide +kernel
theorem dX12_back_34 : decode cX12_back 34 = .ok (.iload 5, 2) := by decide +kernel
theorem dX12_back_36 : decode cX12_back 36 = .ok (.ifCond .lt 68, 3) := by decide +kernel
theorem dX12_back_39 : decode cX12_back 39 = .ok (.aload_n 0, 1) := by decide +kernel
theorem dX12_back_40 : decode cX12_back 40 = .ok (.getfield 25, 3) := by decide +kernel
theorem dX12_back_43 : decode cX12_back 43 = .ok (.iload 5, 2) := by decide +kernel
theorem dX12_back_45 : decode cX12_back 45 = .ok (.iconst 1, 1) := by decide +kernel
theorem dX12_back_46 : decode cX12_back 46 = .ok (.iadd, 1) := by decide +kernel
theorem dX12_back_47 : decode cX12_back 47 = .ok (.iaload, 1) := by decide +kernel
theorem dX12_back_48 : decode cX12_back 48 = .ok (.aload_n 0, 1) := by decide +kernel
theorem dX12_back_49 : decode cX12_back 49 = .ok (.getfield 25, 3) := by decide +kernel
theorem dX12_back_52 : decode cX12_back 52 = .ok (.iload 5, 2) := by decide +kernel
theorem dX12_back_54 : decode cX12_back 54 = .ok (.iaload, 1) := by decide +kernel
theorem dX12_back_55 : decode cX12_back 55 = .ok (.isub, 1) := by decide +kernel
theorem dX12_back_56 : decode cX12_back 56 = .ok (.istore 6, 2) := by decide +kernel
theorem dX12_back_58 : decode cX12_back 58 = .ok (.iload_n 2, 1) := by decide +kernel
theorem dX12_back_59 : decode cX12_back 59 = .ok (.iload 6, 2) := by decide +kernel
theorem dX12_back_61 : decode cX12_back 61 = .ok (.ifCond .ge 7, 3) := by decide +kernel
theorem dX12_back_64 : decode cX12_back 64 = .ok (.iconst 1, 1) := by decide +kernel
theorem dX12_back_65 : decode cX12_back 65 = .ok (.goto 4, 3) := by decide +kernel
theorem dX12_back_68 : decode cX12_back 68 = .ok (.iconst 0, 1) := by decide +kernel
theorem dX12_back_69 : decode cX12_back 69 = .ok (.iadd, 1) := by decide +kernel
theorem dX12_back_70 : decode cX12_back 70 = .ok (.istore_n 2, 1) := by decide +kernel
theorem dX12_back_71 : decode cX12_back 71 = .ok (.iload_n 3, 1) := by decide +kernel
theorem dX12_back_72 : decode cX12_back 72 = .ok (.iload 6, 2) := by decide +kernel
theorem dX12_back_74 : decode cX12_back 74 = .ok (.ifCond .ne 7, 3) := by decide +kernel
theorem dX12_back_77 : decode cX12_back 77 = .ok (.iconst 1, 1) := by decide +kernel
theorem dX12_back_78 : decode cX12_back 78 = .ok (.goto 4, 3) := by decide +kernel
theorem dX12_back_81 : decode cX12_back 81 = .ok (.iconst 0, 1) := by decide +kernel
theorem dX12_back_82 : decode cX12_back 82 = .ok (.iadd, 1) := by decide +kernel
theorem dX12_back_83 : decode cX12_back 83 = .ok (.istore_n 3, 1) := by decide +kernel
theorem dX12_back_84 : decode cX12_back 84 = .ok (.iload 6, 2) := by decide +kernel
theorem dX12_back_86 : decode cX12_back 86 = .ok (.ifCond .ge 8, 3) := by decide +kernel
theorem dX12_back_89 : decode cX12_back 89 = .ok (.iload 5, 2) := by decide +kernel
theorem dX12_back_91 : decode cX12_back 91 = .ok (.goto 5, 3) := by decide +kernel
theorem dX12_back_94 : decode cX12_back 94 = .ok (.iload 4, 2) := by decide +kernel
theorem dX12_back_96 : decode cX12_back 96 = .ok (.istore 4, 2) := by decide +kernel
theorem dX12_back_98 : decode cX12_back 98 = .ok (.iinc 5 (-1), 3) := by decide +kernel
theorem dX12_back_101 : decode cX12_back 101 = .ok (.goto (-67), 3) := by decide +kernel
theorem dX12_back_104 : decode cX12_back 104 = .ok (.iload_n 1, 1) := by decide +kernel
theorem dX12_back_105 : decode cX12_back 105 = .ok (.ifCond .ne 7, 3) := by decide +kernel
theorem dX12_back_108 : decode cX12_back 108 = .ok (.iload_n 2, 1) := by decide +kernel
theorem dX12_back_109 : decode cX12_back 109 = .ok (.goto 14, 3) := by decide +kernel
theorem dX12_back_112 : decode cX12_back 112 = .ok (.iload_n 1, 1) := by decide +kernel
theorem dX12_back_113 : decode cX12_back 113 = .ok (.iconst 1, 1) := by decide +kernel
theorem dX12_back_114 : decode cX12_back 114 = .ok (.if_icmp .ne 7, 3) := by decide +kernel
theorem dX12_back_117 : decode cX12_back 117 = .ok (.iload_n 3, 1) := by decide +kernel
theorem dX12_back_118 : decode cX12_back 118 = .ok (.goto 5, 3) := by decide +kernel
theorem dX12_back_121 : decode cX12_back 121 = .ok (.iload 4, 2) := by decide +kernel
theorem dX12_back_123 : decode cX12_back 123 = .ok (.ireturn, 1) := by decide +kernel
theorem dX12_nearestOf_0 : decode cX12_nearestOf 0 = .ok (.iconst 0, 1) := by decide +kernel
theorem dX12_nearestOf_1 : decode cX12_nearestOf 1 = .ok (.istore_n 2, 1) := by decide +kernel
theorem dX12_nearestOf_2 : decode cX12_nearestOf 2 = .ok (.iconst 1, 1) := by decide +kernel
theorem dX12_nearestOf_3 : decode cX12_nearestOf 3 = .ok (.istore_n 3, 1) := by decide +kernel
theorem dX12_nearestOf_4 : decode cX12_nearestOf 4 = .ok (.iload_n 3, 1) := by decide +kernel
theorem dX12_nearestOf_5 : decode cX12_nearestOf 5 = .ok (.aload_n 0, 1) := by decide +kernel
theorem dX12_nearestOf_6 : decode cX12_nearestOf 6 = .ok (.invokevirtual 158, 3) := by decide +kernel
theorem dX12_nearestOf_9 : decode cX12_nearestOf 9 = .ok (.if_icmp .ge 43, 3) := by decide +kernel
theorem dX12_nearestOf_12 : decode cX12_nearestOf 12 = .ok (.aload_n 0, 1) := by decide +kernel
theorem dX12_nearestOf_13 : decode cX12_nearestOf 13 = .ok (.getfield 25, 3) := by decide +kernel
theorem dX12_nearestOf_16 : decode cX12_nearestOf 16 = .ok (.iload_n 3, 1) := by decide +kernel
theorem dX12_nearestOf_17 : decode cX12_nearestOf 17 = .ok (.iaload, 1) := by decide +kernel
theorem dX12_nearestOf_18 : decode cX12_nearestOf 18 = .ok (.iload_n 1, 1) := by decide +kernel
theorem dX12_nearestOf_19 : decode cX12_nearestOf 19 = .ok (.isub, 1) := by decide +kernel
theorem dX12_nearestOf_20 : decode cX12_nearestOf 20 = .ok (.i2l, 1) := by decide +kernel
theorem dX12_nearestOf_21 : decode cX12_nearestOf 21 = .ok (.invokestatic 208, 3) := by decide +kernel
theorem dX12_nearestOf_24 : decode cX12_nearestOf 24 = .ok (.aload_n 0, 1) := by decide +kernel
theorem dX12_nearestOf_25 : decode cX12_nearestOf 25 = .ok (.getfield 25, 3) := by decide +kernel
theorem dX12_nearestOf_28 : decode cX12_nearestOf 28 = .ok (.iload_n 2, 1) := by decide +kernel
theorem dX12_nearestOf_29 : decode cX12_nearestOf 29 = .ok (.iaload, 1) := by decide +kernel
theorem dX12_nearestOf_30 : decode cX12_nearestOf 30 = .ok (.iload_n 1, 1) := by decide +kernel
theorem dX12_nearestOf_31 : decode cX12_nearestOf 31 = .ok (.isub, 1) := by decide +kernel
theorem dX12_nearestOf_32 : decode cX12_nearestOf 32 = .ok (.i2l, 1) := by decide +kernel
theorem dX12_nearestOf_33 : decode cX12_nearestOf 33 = .ok (.invokestatic 208, 3) := by decide +kernel
theorem dX12_nearestOf_36 : decode cX12_nearestOf 36 = .ok (.lcmp, 1) := by decide +kernel
theorem dX12_nearestOf_37 : decode cX12_nearestOf 37 = .ok (.ifCond .ge 7, 3) := by decide +kernel
theorem dX12_nearestOf_40 : decode cX12_nearestOf 40 = .ok (.iload_n 3, 1) := by decide +kernel
theorem dX12_nearestOf_41 : decode cX12_nearestOf 41 = .ok (.goto 4, 3) := by decide +kernel
theorem dX12_nearestOf_44 : decode cX12_nearestOf 44 = .ok (.iload_n 2, 1) := by decide +kernel
theorem dX12_nearestOf_45 : decode cX12_nearestOf 45 = .ok (.istore_n 2, 1) := by decide +kernel
theorem dX12_nearestOf_46 : decode cX12_nearestOf 46 = .ok (.iinc 3 1, 3) := by decide +kernel
theorem dX12_nearestOf_49 : decode cX12_nearestOf 49 = .ok (.goto (-45), 3) := by decide +kernel
theorem dX12_nearestOf_52 : decode cX12_nearestOf 52 = .ok (.iload_n 2, 1) := by decide +kernel
theorem dX12_nearestOf_53 : decode cX12_nearestOf 53 = .ok (.ireturn, 1) := by decide +kernel
theorem dX12_nearest_0 : decode cX12_nearest 0 = .ok (.iload_n 1, 1) := by decide +kernel
theorem dX12_nearest_1 : decode cX12_nearest 1 = .ok (.invokestatic 212, 3) := by decide +kernel
theorem dX12_nearest_4 : decode cX12_nearest 4 = .ok (.ifCond .ne 5, 3) := by decide +kernel
theorem dX12_nearest_7 : decode cX12_nearest 7 = .ok (.iconst (-1), 1) := by decide +kernel
theorem dX12_nearest_8 : decode cX12_nearest 8 = .ok (.ireturn, 1) := by decide +kernel
theorem dX12_nearest_9 : decode cX12_nearest 9 = .ok (.aload_n 0, 1) := by decide +kernel
theorem dX12_nearest_10 : decode cX12_nearest 10 = .ok (.invokevirtual 180, 3) := by decide +kernel
theorem dX12_nearest_13 : decode cX12_nearest 13 = .ok (.aload_n 0, 1) := by decide +kernel
theorem dX12_nearest_14 : decode cX12_nearest 14 = .ok (.iload_n 1, 1) := by decide +kernel
theorem dX12_nearest_15 : decode cX12_nearest 15 = .ok (.invokevirtual 215, 3) := by decide +kernel
theorem dX12_nearest_18 : decode cX12_nearest 18 = .ok (.ireturn, 1) := by decide +kernel
theorem dX12_halved_0 : decode cX12_halved 0 = .ok (.iconst 0, 1) := by decide +kernel
theorem dX12_halved_1 : decode cX12_halved 1 = .ok (.istore_n 3, 1) := by decide +kernel
theorem dX12_halved_2 : decode cX12_halved 2 = .ok (.aload_n 0, 1) := by decide +kernel
theorem dX12_halved_3 : decode cX12_halved 3 = .ok (.getfield 19, 3) := by decide +kernel
theorem dX12_halved_6 : decode cX12_halved 6 = .ok (.iconst 0, 1) := by decide +kernel
theorem dX12_halved_7 : decode cX12_halved 7 = .ok (.iaload, 1) := by decide +kernel
theorem dX12_halved_8 : decode cX12_halved 8 = .ok (.iconst 1, 1) := by decide +kernel
theorem dX12_halved_9 : decode cX12_halved 9 = .ok (.isub, 1) := by decide +kernel
theorem dX12_halved_10 : decode cX12_halved 10 = .ok (.istore 4, 2) := by decide +kernel
theorem dX12_halved_12 : decode cX12_halved 12 = .ok (.iload 4, 2) := by decide +kernel
theorem dX12_halved_14 : decode cX12_halved 14 = .ok (.ifCond .lt 65, 3) := by decide +kernel
theorem dX12_halved_17 : decode cX12_halved 17 = .ok (.iload_n 1, 1) := by decide +kernel
theorem dX12_halved_18 : decode cX12_halved 18 = .ok (.aload_n 0, 1) := by decide +kernel
theorem dX12_halved_19 : decode cX12_halved 19 = .ok (.getfield 19, 3) := by decide +kernel
theorem dX12_halved_22 : decode cX12_halved 22 = .ok (.iconst 4, 1) := by decide +kernel
theorem dX12_halved_23 : decode cX12_halved 23 = .ok (.iaload, 1) := by decide +kernel
theorem dX12_halved_24 : decode cX12_halved 24 = .ok (.iadd, 1) := by decide +kernel
theorem dX12_halved_25 : decode cX12_halved 25 = .ok (.aload_n 0, 1) := by decide +kernel
theorem dX12_halved_26 : decode cX12_halved 26 = .ok (.getfield 25, 3) := by decide +kernel
theorem dX12_halved_29 : decode cX12_halved 29 = .ok (.iload_n 3, 1) := by decide +kernel
theorem dX12_halved_30 : decode cX12_halved 30 = .ok (.iconst 1, 1) := by decide +kernel
theorem dX12_halved_31 : decode cX12_halved 31 = .ok (.iload 4, 2) := by decide +kernel
theorem dX12_halved_33 : decode cX12_halved 33 = .ok (.ishl, 1) := by decide +kernel
theorem dX12_halved_34 : decode cX12_halved 34 = .ok (.ior, 1) := by decide +kernel
theorem dX12_halved_35 : decode cX12_halved 35 = .ok (.iaload, 1) := by decide +kernel
theorem dX12_halved_36 : decode cX12_halved 36 = .ok (.if_icmp .lt 7, 3) := by decide +kernel
theorem dX12_halved_39 : decode cX12_halved 39 = .ok (.iconst 1, 1) := by decide +kernel
theorem dX12_halved_40 : decode cX12_halved 40 = .ok (.goto 4, 3) := by decide +kernel
theorem dX12_halved_43 : decode cX12_halved 43 = .ok (.iconst 0, 1) := by decide +kernel
theorem dX12_halved_44 : decode cX12_halved 44 = .ok (.istore 5, 2) := by decide +kernel
theorem dX12_halved_46 : decode cX12_halved 46 = .ok (.iload_n 3, 1) := by decide +kernel
theorem dX12_halved_47 : decode cX12_halved 47 = .ok (.iload 5, 2) := by decide +kernel
theorem dX12_halved_49 : decode cX12_halved 49 = .ok (.iload 4, 2) := by decide +kernel
theorem dX12_halved_51 : decode cX12_halved 51 = .ok (.iload_n 2, 1) := by decide +kernel
theorem dX12_halved_52 : decode cX12_halved 52 = .ok (.if_icmp .ne 7, 3) := by decide +kernel
theorem dX12_halved_55 : decode cX12_halved 55 = .ok (.iconst 1, 1) := by decide +kernel
theorem dX12_halved_56 : decode cX12_halved 56 = .ok (.goto 4, 3) := by decide +kernel
theorem dX12_halved_59 : decode cX12_halved 59 = .ok (.iconst 0, 1) := by decide +kernel
theorem dX12_halved_60 : decode cX12_halved 60 = .ok (.if_icmp .eq 10, 3) := by decide +kernel
theorem dX12_halved_63 : decode cX12_halved 63 = .ok (.iconst 1, 1) := by decide +kernel
theorem dX12_halved_64 : decode cX12_halved 64 = .ok (.iload 4, 2) := by decide +kernel
theorem dX12_halved_66 : decode cX12_halved 66 = .ok (.ishl, 1) := by decide +kernel
theorem dX12_halved_67 : decode cX12_halved 67 = .ok (.goto 4, 3) := by decide +kernel
theorem dX12_halved_70 : decode cX12_halved 70 = .ok (.iconst 0, 1) := by decide +kernel
theorem dX12_halved_71 : decode cX12_halved 71 = .ok (.ior, 1) := by decide +kernel
theorem dX12_halved_72 : decode cX12_halved 72 = .ok (.istore_n 3, 1) := by decide +kernel
theorem dX12_halved_73 : decode cX12_halved 73 = .ok (.iinc 4 (-1), 3) := by decide +kernel
theorem dX12_halved_76 : decode cX12_halved 76 = .ok (.goto (-64), 3) := by decide +kernel
theorem dX12_halved_79 : decode cX12_halved 79 = .ok (.iload_n 3, 1) := by decide +kernel
theorem dX12_halved_80 : decode cX12_halved 80 = .ok (.ireturn, 1) := by decide +kernel
theorem dX12_halves_0 : decode cX12_halves 0 = .ok (.iload_n 1, 1) := by decide +kernel
theorem dX12_halves_1 : decode cX12_halves 1 = .ok (.invokestatic 212, 3) := by decide +kernel
theorem dX12_halves_4 : decode cX12_halves 4 = .ok (.ifCond .eq 27, 3) := by decide +kernel
theorem dX12_halves_7 : decode cX12_halves 7 = .ok (.iload_n 2, 1) := by decide +kernel
theorem dX12_halves_8 : decode cX12_halves 8 = .ok (.i2l, 1) := by decide +kernel
theorem dX12_halves_9 : decode cX12_halves 9 = .ok (.lconst 0, 1) := by decide +kernel
theorem dX12_halves_10 : decode cX12_halves 10 = .ok (.aload_n 0, 1) := by decide +kernel
theorem dX12_halves_11 : decode cX12_halves 11 = .ok (.getfield 19, 3) := by decide +kernel
theorem dX12_halves_14 : decode cX12_halves 14 = .ok (.iconst 0, 1) := by decide +kernel
theorem dX12_halves_15 : decode cX12_halves 15 = .ok (.iaload, 1) := by decide +kernel
theorem dX12_halves_16 : decode cX12_halves 16 = .ok (.iconst 1, 1) := by decide +kernel
theorem dX12_halves_17 : decode cX12_halves 17 = .ok (.isub, 1) := by decide +kernel
theorem dX12_halves_18 : decode cX12_halves 18 = .ok (.i2l, 1) := by decide +kernel
theorem dX12_halves_19 : decode cX12_halves 19 = .ok (.invokestatic 70, 3) := by decide +kernel
theorem dX12_halves_22 : decode cX12_halves 22 = .ok (.ifCond .ne 11, 3) := by decide +kernel
theorem dX12_halves_25 : decode cX12_halves 25 = .ok (.iload_n 2, 1) := by decide +kernel
theorem dX12_halves_26 : decode cX12_halves 26 = .ok (.bipush (-4), 2) := by decide +kernel
theorem dX12_halves_28 : decode cX12_halves 28 = .ok (.if_icmp .eq 5, 3) := by decide +kernel
theorem dX12_halves_31 : decode cX12_halves 31 = .ok (.iconst (-1), 1) := by decide +kernel
theorem dX12_halves_32 : decode cX12_halves 32 = .ok (.ireturn, 1) := by decide +kernel
theorem dX12_halves_33 : decode cX12_halves 33 = .ok (.aload_n 0, 1) := by decide +kernel
theorem dX12_halves_34 : decode cX12_halves 34 = .ok (.invokevirtual 180, 3) := by decide +kernel
theorem dX12_halves_37 : decode cX12_halves 37 = .ok (.aload_n 0, 1) := by decide +kernel
theorem dX12_halves_38 : decode cX12_halves 38 = .ok (.iload_n 1, 1) := by decide +kernel
theorem dX12_halves_39 : decode cX12_halves 39 = .ok (.iload_n 2, 1) := by decide +kernel
theorem dX12_halves_40 : decode cX12_halves 40 = .ok (.invokevirtual 218, 3) := by decide +kernel
theorem dX12_halves_43 : decode cX12_halves 43 = .ok (.ireturn, 1) := by decide +kernel
theorem dX12_range_0 : decode cX12_range 0 = .ok (.iload_n 1, 1) := by decide +kernel
theorem dX12_range_1 : decode cX12_range 1 = .ok (.i2l, 1) := by decide +kernel
theorem dX12_range_2 : decode cX12_range 2 = .ok (.lconst 0, 1) := by decide +kernel
theorem dX12_range_3 : decode cX12_range 3 = .ok (.ldc2_w 221, 3) := by decide +kernel
theorem dX12_range_6 : decode cX12_range 6 = .ok (.invokestatic 70, 3) := by decide +kernel
theorem dX12_range_9 : decode cX12_range 9 = .ok (.ifCond .ne 5, 3) := by decide +kernel
theorem dX12_range_12 : decode cX12_range 12 = .ok (.iconst (-1), 1) := by decide +kernel
theorem dX12_range_13 : decode cX12_range 13 = .ok (.ireturn, 1) := by decide +kernel
theorem dX12_range_14 : decode cX12_range 14 = .ok (.aload_n 0, 1) := by decide +kernel
theorem dX12_range_15 : decode cX12_range 15 = .ok (.invokevirtual 180, 3) := by decide +kernel
theorem dX12_range_18 : decode cX12_range 18 = .ok (.aload_n 0, 1) := by decide +kernel
theorem dX12_range_19 : decode cX12_range 19 = .ok (.getfield 25, 3) := by decide +kernel
theorem dX12_range_22 : decode cX12_range 22 = .ok (.iconst 0, 1) := by decide +kernel
theorem dX12_range_23 : decode cX12_range 23 = .ok (.iaload, 1) := by decide +kernel
theorem dX12_range_24 : decode cX12_range 24 = .ok (.aload_n 0, 1) := by decide +kernel
theorem dX12_range_25 : decode cX12_range 25 = .ok (.getfield 19, 3) := by decide +kernel
theorem dX12_range_28 : decode cX12_range 28 = .ok (.iconst 1, 1) := by decide +kernel
theorem dX12_range_29 : decode cX12_range 29 = .ok (.iaload, 1) := by decide +kernel
theorem dX12_range_30 : decode cX12_range 30 = .ok (.isub, 1) := by decide +kernel
theorem dX12_range_31 : decode cX12_range 31 = .ok (.istore_n 2, 1) := by decide +kernel
theorem dX12_range_32 : decode cX12_range 32 = .ok (.aload_n 0, 1) := by decide +kernel
theorem dX12_range_33 : decode cX12_range 33 = .ok (.getfield 25, 3) := by decide +kernel
theorem dX12_range_36 : decode cX12_range 36 = .ok (.aload_n 0, 1) := by decide +kernel
theorem dX12_range_37 : decode cX12_range 37 = .ok (.invokevirtual 158, 3) := by decide +kernel
theorem dX12_range_40 : decode cX12_range 40 = .ok (.iconst 1, 1) := by decide +kernel
theorem dX12_range_41 : decode cX12_range 41 = .ok (.isub, 1) := by decide +kernel
theorem dX12_range_42 : decode cX12_range 42 = .ok (.iaload, 1) := by decide +kernel
theorem dX12_range_43 : decode cX12_range 43 = .ok (.aload_n 0, 1) := by decide +kernel
theorem dX12_range_44 : decode cX12_range 44 = .ok (.getfield 19, 3) := by decide +kernel
theorem dX12_range_47 : decode cX12_range 47 = .ok (.iconst 1, 1) := by decide +kernel
theorem dX12_range_48 : decode cX12_range 48 = .ok (.iaload, 1) := by decide +kernel
theorem dX12_range_49 : decode cX12_range 49 = .ok (.iadd, 1) := by decide +kernel
theorem dX12_range_50 : decode cX12_range 50 = .ok (.istore_n 3, 1) := by decide +kernel
theorem dX12_range_51 : decode cX12_range 51 = .ok (.iload_n 3, 1) := by decide +kernel
theorem dX12_range_52 : decode cX12_range 52 = .ok (.iload_n 2, 1) := by decide +kernel
theorem dX12_range_53 : decode cX12_range 53 = .ok (.if_icmp .lt 14, 3) := by decide +kernel
theorem dX12_range_56 : decode cX12_range 56 = .ok (.iload_n 3, 1) := by decide +kernel
theorem dX12_range_57 : decode cX12_range 57 = .ok (.iload_n 2, 1) := by decide +kernel
theorem dX12_range_58 : decode cX12_range 58 = .ok (.isub, 1) := by decide +kernel
theorem dX12_range_59 : decode cX12_range 59 = .ok (.iconst 1, 1) := by decide +kernel
theorem dX12_range_60 : decode cX12_range 60 = .ok (.iadd, 1) := by decide +kernel
theorem dX12_range_61 : decode cX12_range 61 = .ok (.sipush 20000, 3) := by decide +kernel
theorem dX12_range_64 : decode cX12_range 64 = .ok (.if_icmp .le 6, 3) := by decide +kernel
theorem dX12_range_67 : decode cX12_range 67 = .ok (.bipush (-2), 2) := by decide +kernel
theorem dX12_range_69 : decode cX12_range 69 = .ok (.ireturn, 1) := by decide +kernel
theorem dX12_range_70 : decode cX12_range 70 = .ok (.iconst 0, 1) := by decide +kernel
theorem dX12_range_71 : decode cX12_range 71 = .ok (.istore 4, 2) := by decide +kernel
theorem dX12_range_73 : decode cX12_range 73 = .ok (.iload 4, 2) := by decide +kernel
theorem dX12_range_75 : decode cX12_range 75 = .ok (.sipush 256, 3) := by decide +kernel
theorem dX12_range_78 : decode cX12_range 78 = .ok (.if_icmp .ge 17, 3) := by decide +kernel
theorem dX12_range_81 : decode cX12_range 81 = .ok (.aload_n 0, 1) := by decide +kernel
theorem dX12_range_82 : decode cX12_range 82 = .ok (.getfield 28, 3) := by decide +kernel
theorem dX12_range_85 : decode cX12_range 85 = .ok (.iload 4, 2) := by decide +kernel
theorem dX12_range_87 : decode cX12_range 87 = .ok (.iconst 0, 1) := by decide +kernel
theorem dX12_range_88 : decode cX12_range 88 = .ok (.bastore, 1) := by decide +kernel
theorem dX12_range_89 : decode cX12_range 89 = .ok (.iinc 4 1, 3) := by decide +kernel
theorem dX12_range_92 : decode cX12_range 92 = .ok (.goto (-19), 3) := by decide +kernel
theorem dX12_range_95 : decode cX12_range 95 = .ok (.iconst 0, 1) := by decide +kernel
theorem dX12_range_96 : decode cX12_range 96 = .ok (.istore 4, 2) := by decide +kernel
theorem dX12_range_98 : decode cX12_range 98 = .ok (.iload_n 2, 1) := by decide +kernel
theorem dX12_range_99 : decode cX12_range 99 = .ok (.istore 5, 2) := by decide +kernel
theorem dX12_range_101 : decode cX12_range 101 = .ok (.iload 5, 2) := by decide +kernel
theorem dX12_range_103 : decode cX12_range 103 = .ok (.iload_n 3, 1) := by decide +kernel
theorem dX12_range_104 : decode cX12_range 104 = .ok (.if_icmp .gt 53, 3) := by decide +kernel
theorem dX12_range_107 : decode cX12_range 107 = .ok (.aload_n 0, 1) := by decide +kernel
theorem dX12_range_108 : decode cX12_range 108 = .ok (.iload 5, 2) := by decide +kernel
theorem dX12_range_110 : decode cX12_range 110 = .ok (.bipush (-4), 2) := by decide +kernel
theorem dX12_range_112 : decode cX12_range 112 = .ok (.invokevirtual 218, 3) := by decide +kernel
theorem dX12_range_115 : decode cX12_range 115 = .ok (.istore 6, 2) := by decide +kernel
theorem dX12_range_117 : decode cX12_range 117 = .ok (.aload_n 0, 1) := by decide +kernel
theorem dX12_range_118 : decode cX12_range 118 = .ok (.getfield 28, 3) := by decide +kernel
theorem dX12_range_121 : decode cX12_range 121 = .ok (.iload 6, 2) := by decide +kernel
theorem dX12_range_123 : decode cX12_range 123 = .ok (.iconst 1, 1) := by decide +kernel
theorem dX12_range_124 : decode cX12_range 124 = .ok (.bastore, 1) := by decide +kernel
theorem dX12_range_125 : decode cX12_range 125 = .ok (.iload 4, 2) := by decide +kernel
theorem dX12_range_127 : decode cX12_range 127 = .ok (.iload_n 1, 1) := by decide +kernel
theorem dX12_range_128 : decode cX12_range 128 = .ok (.iconst 3, 1) := by decide +kernel
theorem dX12_range_129 : decode cX12_range 129 = .ok (.if_icmp .ne 18, 3) := by decide +kernel
theorem dX12_range_132 : decode cX12_range 132 = .ok (.iload 6, 2) := by decide +kernel
theorem dX12_range_134 : decode cX12_range 134 = .ok (.aload_n 0, 1) := by decide +kernel
theorem dX12_range_135 : decode cX12_range 135 = .ok (.iload 5, 2) := by decide +kernel
theorem dX12_range_137 : decode cX12_range 137 = .ok (.invokevirtual 215, 3) := by decide +kernel
theorem dX12_range_140 : decode cX12_range 140 = .ok (.if_icmp .eq 7, 3) := by decide +kernel
theorem dX12_range_143 : decode cX12_range 143 = .ok (.iconst 1, 1) := by decide +kernel
theorem dX12_range_144 : decode cX12_range 144 = .ok (.goto 4, 3) := by decide +kernel
theorem dX12_range_147 : decode cX12_range 147 = .ok (.iconst 0, 1) := by decide +kernel
theorem dX12_range_148 : decode cX12_range 148 = .ok (.iadd, 1) := by decide +kernel
theorem dX12_range_149 : decode cX12_range 149 = .ok (.istore 4, 2) := by decide +kernel
theorem dX12_range_151 : decode cX12_range 151 = .ok (.iinc 5 1, 3) := by decide +kernel
theorem dX12_range_154 : decode cX12_range 154 = .ok (.goto (-53), 3) := by decide +kernel
theorem dX12_range_157 : decode cX12_range 157 = .ok (.iconst 0, 1) := by decide +kernel
theorem dX12_range_158 : decode cX12_range 158 = .ok (.istore 5, 2) := by decide +kernel
theorem dX12_range_160 : decode cX12_range 160 = .ok (.bipush (-4), 2) := by decide +kernel
theorem dX12_range_162 : decode cX12_range 162 = .ok (.istore 6, 2) := by decide +kernel
theorem dX12_range_164 : decode cX12_range 164 = .ok (.aload_n 0, 1) := by decide +kernel
theorem dX12_range_165 : decode cX12_range 165 = .ok (.invokevirtual 158, 3) := by decide +kernel
theorem dX12_range_168 : decode cX12_range 168 = .ok (.iconst 1, 1) := by decide +kernel
theorem dX12_range_169 : decode cX12_range 169 = .ok (.isub, 1) := by decide +kernel
theorem dX12_range_170 : decode cX12_range 170 = .ok (.istore 7, 2) := by decide +kernel
theorem dX12_range_172 : decode cX12_range 172 = .ok (.iload 7, 2) := by decide +kernel
theorem dX12_range_174 : decode cX12_range 174 = .ok (.ifCond .lt 48, 3) := by decide +kernel
theorem dX12_range_177 : decode cX12_range 177 = .ok (.iload 5, 2) := by decide +kernel
theorem dX12_range_179 : decode cX12_range 179 = .ok (.aload_n 0, 1) := by decide +kernel
theorem dX12_range_180 : decode cX12_range 180 = .ok (.getfield 28, 3) := by decide +kernel
theorem dX12_range_183 : decode cX12_range 183 = .ok (.iload 7, 2) := by decide +kernel
theorem dX12_range_185 : decode cX12_range 185 = .ok (.baload, 1) := by decide +kernel
theorem dX12_range_186 : decode cX12_range 186 = .ok (.ifCond .eq 7, 3) := by decide +kernel
theorem dX12_range_189 : decode cX12_range 189 = .ok (.iconst 1, 1) := by decide +kernel
theorem dX12_range_190 : decode cX12_range 190 = .ok (.goto 4, 3) := by decide +kernel
theorem dX12_range_193 : decode cX12_range 193 = .ok (.iconst 0, 1) := by decide +kernel
theorem dX12_range_194 : decode cX12_range 194 = .ok (.iadd, 1) := by decide +kernel
theorem dX12_range_195 : decode cX12_range 195 = .ok (.istore 5, 2) := by decide +kernel
theorem dX12_range_197 : decode cX12_range 197 = .ok (.aload_n 0, 1) := by decide +kernel
theorem dX12_range_198 : decode cX12_range 198 = .ok (.getfield 28, 3) := by decide +kernel
theorem dX12_range_201 : decode cX12_range 201 = .ok (.iload 7, 2) := by decide +kernel
theorem dX12_range_203 : decode cX12_range 203 = .ok (.baload, 1) := by decide +kernel
theorem dX12_range_204 : decode cX12_range 204 = .ok (.ifCond .eq 8, 3) := by decide +kernel
theorem dX12_range_207 : decode cX12_range 207 = .ok (.iload 6, 2) := by decide +kernel
theorem dX12_range_209 : decode cX12_range 209 = .ok (.goto 5, 3) := by decide +kernel
theorem dX12_range_212 : decode cX12_range 212 = .ok (.iload 7, 2) := by decide +kernel
theorem dX12_range_214 : decode cX12_range 214 = .ok (.istore 6, 2) := by decide +kernel
theorem dX12_range_216 : decode cX12_range 216 = .ok (.iinc 7 (-1), 3) := by decide +kernel
theorem dX12_range_219 : decode cX12_range 219 = .ok (.goto (-47), 3) := by decide +kernel
theorem dX12_range_222 : decode cX12_range 222 = .ok (.iload_n 1, 1) := by decide +kernel
theorem dX12_range_223 : decode cX12_range 223 = .ok (.ifCond .ne 8, 3) := by decide +kernel
theorem dX12_range_226 : decode cX12_range 226 = .ok (.iload 5, 2) := by decide +kernel
theorem dX12_range_228 : decode cX12_range 228 = .ok (.goto 30, 3) := by decide +kernel
theorem dX12_range_231 : decode cX12_range 231 = .ok (.iload_n 1, 1) := by decide +kernel
theorem dX12_range_232 : decode cX12_range 232 = .ok (.iconst 1, 1) := by decide +kernel
theorem dX12_range_233 : decode cX12_range 233 = .ok (.if_icmp .ne 13, 3) := by decide +kernel
theorem dX12_range_236 : decode cX12_range 236 = .ok (.aload_n 0, 1) := by decide +kernel
theorem dX12_range_237 : decode cX12_range 237 = .ok (.invokevirtual 158, 3) := by decide +kernel
theorem dX12_range_240 : decode cX12_range 240 = .ok (.iload 5, 2) := by decide +kernel
theorem dX12_range_242 : decode cX12_range 242 = .ok (.isub, 1) := by decide +kernel
theorem dX12_range_243 : decode cX12_range 243 = .ok (.goto 15, 3) := by decide +kernel
theorem dX12_range_246 : decode cX12_range 246 = .ok (.iload_n 1, 1) := by decide +kernel
theorem dX12_range_247 : decode cX12_range 247 = .ok (.iconst 2, 1) := by decide +kernel
theorem dX12_range_248 : decode cX12_range 248 = .ok (.if_icmp .ne 8, 3) := by decide +kernel
theorem dX12_range_251 : decode cX12_range 251 = .ok (.iload 6, 2) := by decide +kernel
theorem dX12_range_253 : decode cX12_range 253 = .ok (.goto 5, 3) := by decide +kernel
theorem dX12_range_256 : decode cX12_range 256 = .ok (.iload 4, 2) := by decide +kernel
theorem dX12_range_258 : decode cX12_range 258 = .ok (.ireturn, 1) := by decide +kernel
theorem dX12_weak_0 : decode cX12_weak 0 = .ok (.iload_n 1, 1) := by decide +kernel
theorem dX12_weak_1 : decode cX12_weak 1 = .ok (.invokestatic 212, 3) := by decide +kernel
theorem dX12_weak_4 : decode cX12_weak 4 = .ok (.ifCond .ne 5, 3) := by decide +kernel
theorem dX12_weak_7 : decode cX12_weak 7 = .ok (.iconst (-1), 1) := by decide +kernel
theorem dX12_weak_8 : decode cX12_weak 8 = .ok (.ireturn, 1) := by decide +kernel
theorem dX12_weak_9 : decode cX12_weak 9 = .ok (.aload_n 0, 1) := by decide +kernel
theorem dX12_weak_10 : decode cX12_weak 10 = .ok (.invokevirtual 180, 3) := by decide +kernel
theorem dX12_weak_13 : decode cX12_weak 13 = .ok (.iconst 0, 1) := by decide +kernel
theorem dX12_weak_14 : decode cX12_weak 14 = .ok (.istore_n 2, 1) := by decide +kernel
theorem dX12_weak_15 : decode cX12_weak 15 = .ok (.iconst 0, 1) := by decide +kernel
theorem dX12_weak_16 : decode cX12_weak 16 = .ok (.istore_n 3, 1) := by decide +kernel
theorem dX12_weak_17 : decode cX12_weak 17 = .ok (.iload_n 3, 1) := by decide +kernel
theorem dX12_weak_18 : decode cX12_weak 18 = .ok (.aload_n 0, 1) := by decide +kernel
theorem dX12_weak_19 : decode cX12_weak 19 = .ok (.getfield 19, 3) := by decide +kernel
theorem dX12_weak_22 : decode cX12_weak 22 = .ok (.iconst 0, 1) := by decide +kernel
theorem dX12_weak_23 : decode cX12_weak 23 = .ok (.iaload, 1) := by decide +kernel
theorem dX12_weak_24 : decode cX12_weak 24 = .ok (.if_icmp .ge 35, 3) := by decide +kernel
theorem dX12_weak_27 : decode cX12_weak 27 = .ok (.iload_n 2, 1) := by decide +kernel
theorem dX12_weak_28 : decode cX12_weak 28 = .ok (.aload_n 0, 1) := by decide +kernel
theorem dX12_weak_29 : decode cX12_weak 29 = .ok (.iload_n 1, 1) := by decide +kernel
theorem dX12_weak_30 : decode cX12_weak 30 = .ok (.iload_n 3, 1) := by decide +kernel
theorem dX12_weak_31 : decode cX12_weak 31 = .ok (.invokevirtual 218, 3) := by decide +kernel
theorem dX12_weak_34 : decode cX12_weak 34 = .ok (.aload_n 0, 1) := by decide +kernel
theorem dX12_weak_35 : decode cX12_weak 35 = .ok (.iload_n 1, 1) := by decide +kernel
theorem dX12_weak_36 : decode cX12_weak 36 = .ok (.bipush (-4), 2) := by decide +kernel
theorem dX12_weak_38 : decode cX12_weak 38 = .ok (.invokevirtual 218, 3) := by decide +kernel
theorem dX12_weak_41 : decode cX12_weak 41 = .ok (.if_icmp .eq 9, 3) := by decide +kernel
theorem dX12_weak_44 : decode cX12_weak 44 = .ok (.iconst 1, 1) := by decide +kernel
theorem dX12_weak_45 : decode cX12_weak 45 = .ok (.iload_n 3, 1) := by decide +kernel
theorem dX12_weak_46 : decode cX12_weak 46 = .ok (.ishl, 1) := by decide +kernel
theorem dX12_weak_47 : decode cX12_weak 47 = .ok (.goto 4, 3) := by decide +kernel
theorem dX12_weak_50 : decode cX12_weak 50 = .ok (.iconst 0, 1) := by decide +kernel
theorem dX12_weak_51 : decode cX12_weak 51 = .ok (.ior, 1) := by decide +kernel
theorem dX12_weak_52 : decode cX12_weak 52 = .ok (.istore_n 2, 1) := by decide +kernel
theorem dX12_weak_53 : decode cX12_weak 53 = .ok (.iinc 3 1, 3) := by decide +kernel
theorem dX12_weak_56 : decode cX12_weak 56 = .ok (.goto (-39), 3) := by decide +kernel
theorem dX12_weak_59 : decode cX12_weak 59 = .ok (.iload_n 2, 1) := by decide +kernel
theorem dX12_weak_60 : decode cX12_weak 60 = .ok (.ireturn, 1) := by decide +kernel
theorem dX12_stick_0 : decode cX12_stick 0 = .ok (.iload_n 1, 1) := by decide +kernel
theorem dX12_stick_1 : decode cX12_stick 1 = .ok (.i2l, 1) := by decide +kernel
theorem dX12_stick_2 : decode cX12_stick 2 = .ok (.lconst 1, 1) := by decide +kernel
theorem dX12_stick_3 : decode cX12_stick 3 = .ok (.ldc2_w 223, 3) := by decide +kernel
theorem dX12_stick_6 : decode cX12_stick 6 = .ok (.invokestatic 70, 3) := by decide +kernel
theorem dX12_stick_9 : decode cX12_stick 9 = .ok (.ifCond .eq 19, 3) := by decide +kernel
theorem dX12_stick_12 : decode cX12_stick 12 = .ok (.iload_n 2, 1) := by decide +kernel
theorem dX12_stick_13 : decode cX12_stick 13 = .ok (.i2l, 1) := by decide +kernel
theorem dX12_stick_14 : decode cX12_stick 14 = .ok (.lconst 0, 1) := by decide +kernel
theorem dX12_stick_15 : decode cX12_stick 15 = .ok (.lconst 1, 1) := by decide +kernel
theorem dX12_stick_16 : decode cX12_stick 16 = .ok (.invokestatic 70, 3) := by decide +kernel
theorem dX12_stick_19 : decode cX12_stick 19 = .ok (.ifCond .ne 11, 3) := by decide +kernel
theorem dX12_stick_22 : decode cX12_stick 22 = .ok (.iload_n 2, 1) := by decide +kernel
theorem dX12_stick_23 : decode cX12_stick 23 = .ok (.bipush (-4), 2) := by decide +kernel
theorem dX12_stick_25 : decode cX12_stick 25 = .ok (.if_icmp .eq 5, 3) := by decide +kernel
theorem dX12_stick_28 : decode cX12_stick 28 = .ok (.iconst (-1), 1) := by decide +kernel
theorem dX12_stick_29 : decode cX12_stick 29 = .ok (.ireturn, 1) := by decide +kernel
theorem dX12_stick_30 : decode cX12_stick 30 = .ok (.aload_n 0, 1) := by decide +kernel
theorem dX12_stick_31 : decode cX12_stick 31 = .ok (.getfield 32, 3) := by decide +kernel
theorem dX12_stick_34 : decode cX12_stick 34 = .ok (.iload_n 1, 1) := by decide +kernel
theorem dX12_stick_35 : decode cX12_stick 35 = .ok (.iaload, 1) := by decide +kernel
theorem dX12_stick_36 : decode cX12_stick 36 = .ok (.istore_n 3, 1) := by decide +kernel
theorem dX12_stick_37 : decode cX12_stick 37 = .ok (.aload_n 0, 1) := by decide +kernel
theorem dX12_stick_38 : decode cX12_stick 38 = .ok (.getfield 32, 3) := by decide +kernel
theorem dX12_stick_41 : decode cX12_stick 41 = .ok (.iload_n 1, 1) := by decide +kernel
theorem dX12_stick_42 : decode cX12_stick 42 = .ok (.iload_n 2, 1) := by decide +kernel
theorem dX12_stick_43 : decode cX12_stick 43 = .ok (.iastore, 1) := by decide +kernel
theorem dX12_stick_44 : decode cX12_stick 44 = .ok (.iload_n 3, 1) := by decide +kernel
theorem dX12_stick_45 : decode cX12_stick 45 = .ok (.ireturn, 1) := by decide +kernel
theorem dX12_sumTo_0 : decode cX12_sumTo 0 = .ok (.iconst 0, 1) := by decide +kernel
theorem dX12_sumTo_1 : decode cX12_sumTo 1 = .ok (.istore_n 2, 1) := by decide +kernel
theorem dX12_sumTo_2 : decode cX12_sumTo 2 = .ok (.iconst 0, 1) := by decide +kernel
theorem dX12_sumTo_3 : decode cX12_sumTo 3 = .ok (.istore_n 3, 1) := by decide +kernel
theorem dX12_sumTo_4 : decode cX12_sumTo 4 = .ok (.iload_n 3, 1) := by decide +kernel
theorem dX12_sumTo_5 : decode cX12_sumTo 5 = .ok (.iload_n 1, 1) := by decide +kernel
theorem dX12_sumTo_6 : decode cX12_sumTo 6 = .ok (.if_icmp .ge 21, 3) := by decide +kernel
theorem dX12_sumTo_9 : decode cX12_sumTo 9 = .ok (.iload_n 2, 1) := by decide +kernel
theorem dX12_sumTo_10 : decode cX12_sumTo 10 = .ok (.aload_n 0, 1) := by decide +kernel
theorem dX12_sumTo_11 : decode cX12_sumTo 11 = .ok (.getfield 19, 3) := by decide +kernel
theorem dX12_sumTo_14 : decode cX12_sumTo 14 = .ok (.bipush 15, 2) := by decide +kernel
theorem dX12_sumTo_16 : decode cX12_sumTo 16 = .ok (.iload_n 3, 1) := by decide +kernel
theorem dX12_sumTo_17 : decode cX12_sumTo 17 = .ok (.iadd, 1) := by decide +kernel
theorem dX12_sumTo_18 : decode cX12_sumTo 18 = .ok (.iaload, 1) := by decide +kernel
theorem dX12_sumTo_19 : decode cX12_sumTo 19 = .ok (.iadd, 1) := by decide +kernel
theorem dX12_sumTo_20 : decode cX12_sumTo 20 = .ok (.istore_n 2, 1) := by decide +kernel
theorem dX12_sumTo_21 : decode cX12_sumTo 21 = .ok (.iinc 3 1, 3) := by decide +kernel
theorem dX12_sumTo_24 : decode cX12_sumTo 24 = .ok (.goto (-20), 3) := by decide +kernel
theorem dX12_sumTo_27 : decode cX12_sumTo 27 = .ok (.iload_n 2, 1) := by decide +kernel
theorem dX12_sumTo_28 : decode cX12_sumTo 28 = .ok (.ireturn, 1) := by decide +kernel
theorem dX12_said_0 : decode cX12_said 0 = .ok (.iconst 0, 1) := by decide +kernel
theorem dX12_said_1 : decode cX12_said 1 = .ok (.istore_n 3, 1) := by decide +kernel
theorem dX12_said_2 : decode cX12_said 2 = .ok (.iconst 1, 1) := by decide +kernel
theorem dX12_said_3 : decode cX12_said 3 = .ok (.istore 4, 2) := by decide +kernel
theorem dX12_said_5 : decode cX12_said 5 = .ok (.iload 4, 2) := by decide +kernel
theorem dX12_said_7 : decode cX12_said 7 = .ok (.iconst 1, 1) := by decide +kernel
theorem dX12_said_8 : decode cX12_said 8 = .ok (.iload_n 1, 1) := by decide +kernel
theorem dX12_said_9 : decode cX12_said 9 = .ok (.ishl, 1) := by decide +kernel
theorem dX12_said_10 : decode cX12_said 10 = .ok (.if_icmp .ge 99, 3) := by decide +kernel
theorem dX12_said_13 : decode cX12_said 13 = .ok (.iload_n 2, 1) := by decide +kernel
theorem dX12_said_14 : decode cX12_said 14 = .ok (.i2l, 1) := by decide +kernel
theorem dX12_said_15 : decode cX12_said 15 = .ok (.aload_n 0, 1) := by decide +kernel
theorem dX12_said_16 : decode cX12_said 16 = .ok (.iconst 1, 1) := by decide +kernel
theorem dX12_said_17 : decode cX12_said 17 = .ok (.iload_n 1, 1) := by decide +kernel
theorem dX12_said_18 : decode cX12_said 18 = .ok (.ishl, 1) := by decide +kernel
theorem dX12_said_19 : decode cX12_said 19 = .ok (.invokevirtual 225, 3) := by decide +kernel
theorem dX12_said_22 : decode cX12_said 22 = .ok (.i2l, 1) := by decide +kernel
theorem dX12_said_23 : decode cX12_said 23 = .ok (.lmul, 1) := by decide +kernel
theorem dX12_said_24 : decode cX12_said 24 = .ok (.aload_n 0, 1) := by decide +kernel
theorem dX12_said_25 : decode cX12_said 25 = .ok (.getfield 19, 3) := by decide +kernel
theorem dX12_said_28 : decode cX12_said 28 = .ok (.iconst 5, 1) := by decide +kernel
theorem dX12_said_29 : decode cX12_said 29 = .ok (.iaload, 1) := by decide +kernel
theorem dX12_said_30 : decode cX12_said 30 = .ok (.i2l, 1) := by decide +kernel
theorem dX12_said_31 : decode cX12_said 31 = .ok (.aload_n 0, 1) := by decide +kernel
theorem dX12_said_32 : decode cX12_said 32 = .ok (.iload 4, 2) := by decide +kernel
theorem dX12_said_34 : decode cX12_said 34 = .ok (.invokevirtual 225, 3) := by decide +kernel
theorem dX12_said_37 : decode cX12_said 37 = .ok (.i2l, 1) := by decide +kernel
theorem dX12_said_38 : decode cX12_said 38 = .ok (.lmul, 1) := by decide +kernel
theorem dX12_said_39 : decode cX12_said 39 = .ok (.lcmp, 1) := by decide +kernel
theorem dX12_said_40 : decode cX12_said 40 = .ok (.ifCond .lt 7, 3) := by decide +kernel
theorem dX12_said_43 : decode cX12_said 43 = .ok (.iconst 1, 1) := by decide +kernel
theorem dX12_said_44 : decode cX12_said 44 = .ok (.goto 4, 3) := by decide +kernel
theorem dX12_said_47 : decode cX12_said 47 = .ok (.iconst 0, 1) := by decide +kernel
theorem dX12_said_48 : decode cX12_said 48 = .ok (.istore 5, 2) := by decide +kernel
theorem dX12_said_50 : decode cX12_said 50 = .ok (.aload_n 0, 1) := by decide +kernel
theorem dX12_said_51 : decode cX12_said 51 = .ok (.getfield 32, 3) := by decide +kernel
theorem dX12_said_54 : decode cX12_said 54 = .ok (.iload 4, 2) := by decide +kernel
theorem dX12_said_56 : decode cX12_said 56 = .ok (.iaload, 1) := by decide +kernel
theorem dX12_said_57 : decode cX12_said 57 = .ok (.bipush (-4), 2) := by decide +kernel
theorem dX12_said_59 : decode cX12_said 59 = .ok (.if_icmp .ne 8, 3) := by decide +kernel
theorem dX12_said_62 : decode cX12_said 62 = .ok (.iload 5, 2) := by decide +kernel
theorem dX12_said_64 : decode cX12_said 64 = .ok (.goto 19, 3) := by decide +kernel
theorem dX12_said_67 : decode cX12_said 67 = .ok (.aload_n 0, 1) := by decide +kernel
theorem dX12_said_68 : decode cX12_said 68 = .ok (.getfield 32, 3) := by decide +kernel
theorem dX12_said_71 : decode cX12_said 71 = .ok (.iload 4, 2) := by decide +kernel
theorem dX12_said_73 : decode cX12_said 73 = .ok (.iaload, 1) := by decide +kernel
theorem dX12_said_74 : decode cX12_said 74 = .ok (.iconst 1, 1) := by decide +kernel
theorem dX12_said_75 : decode cX12_said 75 = .ok (.if_icmp .ne 7, 3) := by decide +kernel
theorem dX12_said_78 : decode cX12_said 78 = .ok (.iconst 1, 1) := by decide +kernel
theorem dX12_said_79 : decode cX12_said 79 = .ok (.goto 4, 3) := by decide +kernel
theorem dX12_said_82 : decode cX12_said 82 = .ok (.iconst 0, 1) := by decide +kernel
theorem dX12_said_83 : decode cX12_said 83 = .ok (.istore 5, 2) := by decide +kernel
theorem dX12_said_85 : decode cX12_said 85 = .ok (.iload_n 3, 1) := by decide +kernel
theorem dX12_said_86 : decode cX12_said 86 = .ok (.iload 5, 2) := by decide +kernel
theorem dX12_said_88 : decode cX12_said 88 = .ok (.ifCond .eq 12, 3) := by decide +kernel
theorem dX12_said_91 : decode cX12_said 91 = .ok (.iconst 1, 1) := by decide +kernel
theorem dX12_said_92 : decode cX12_said 92 = .ok (.iload 4, 2) := by decide +kernel
theorem dX12_said_94 : decode cX12_said 94 = .ok (.iconst 1, 1) := by decide +kernel
theorem dX12_said_95 : decode cX12_said 95 = .ok (.isub, 1) := by decide +kernel
theorem dX12_said_96 : decode cX12_said 96 = .ok (.ishl, 1) := by decide +kernel
theorem dX12_said_97 : decode cX12_said 97 = .ok (.goto 4, 3) := by decide +kernel
theorem dX12_said_100 : decode cX12_said 100 = .ok (.iconst 0, 1) := by decide +kernel
theorem dX12_said_101 : decode cX12_said 101 = .ok (.ior, 1) := by decide +kernel
theorem dX12_said_102 : decode cX12_said 102 = .ok (.istore_n 3, 1) := by decide +kernel
theorem dX12_said_103 : decode cX12_said 103 = .ok (.iinc 4 1, 3) := by decide +kernel
theorem dX12_said_106 : decode cX12_said 106 = .ok (.goto (-101), 3) := by decide +kernel
theorem dX12_said_109 : decode cX12_said 109 = .ok (.iload_n 3, 1) := by decide +kernel
theorem dX12_said_110 : decode cX12_said 110 = .ok (.ireturn, 1) := by decide +kernel
theorem dX12_countOf_0 : decode cX12_countOf 0 = .ok (.iconst 0, 1) := by decide +kernel
theorem dX12_countOf_1 : decode cX12_countOf 1 = .ok (.istore_n 1, 1) := by decide +kernel
theorem dX12_countOf_2 : decode cX12_countOf 2 = .ok (.iconst 0, 1) := by decide +kernel
theorem dX12_countOf_3 : decode cX12_countOf 3 = .ok (.istore_n 2, 1) := by decide +kernel
theorem dX12_countOf_4 : decode cX12_countOf 4 = .ok (.iload_n 2, 1) := by decide +kernel
theorem dX12_countOf_5 : decode cX12_countOf 5 = .ok (.bipush 16, 2) := by decide +kernel
theorem dX12_countOf_7 : decode cX12_countOf 7 = .ok (.if_icmp .ge 17, 3) := by decide +kernel
theorem dX12_countOf_10 : decode cX12_countOf 10 = .ok (.iload_n 1, 1) := by decide +kernel
theorem dX12_countOf_11 : decode cX12_countOf 11 = .ok (.iload_n 0, 1) := by decide +kernel
theorem dX12_countOf_12 : decode cX12_countOf 12 = .ok (.iload_n 2, 1) := by decide +kernel
theorem dX12_countOf_13 : decode cX12_countOf 13 = .ok (.ishr, 1) := by decide +kernel
theorem dX12_countOf_14 : decode cX12_countOf 14 = .ok (.iconst 1, 1) := by decide +kernel
theorem dX12_countOf_15 : decode cX12_countOf 15 = .ok (.iand, 1) := by decide +kernel
theorem dX12_countOf_16 : decode cX12_countOf 16 = .ok (.iadd, 1) := by decide +kernel
theorem dX12_countOf_17 : decode cX12_countOf 17 = .ok (.istore_n 1, 1) := by decide +kernel
theorem dX12_countOf_18 : decode cX12_countOf 18 = .ok (.iinc 2 1, 3) := by decide +kernel
theorem dX12_countOf_21 : decode cX12_countOf 21 = .ok (.goto (-17), 3) := by decide +kernel
theorem dX12_countOf_24 : decode cX12_countOf 24 = .ok (.iload_n 1, 1) := by decide +kernel
theorem dX12_countOf_25 : decode cX12_countOf 25 = .ok (.ireturn, 1) := by decide +kernel
theorem dX12_edgeOf_0 : decode cX12_edgeOf 0 = .ok (.iconst 0, 1) := by decide +kernel
theorem dX12_edgeOf_1 : decode cX12_edgeOf 1 = .ok (.istore_n 1, 1) := by decide +kernel
theorem dX12_edgeOf_2 : decode cX12_edgeOf 2 = .ok (.iload_n 0, 1) := by decide +kernel
theorem dX12_edgeOf_3 : decode cX12_edgeOf 3 = .ok (.iload_n 1, 1) := by decide +kernel
theorem dX12_edgeOf_4 : decode cX12_edgeOf 4 = .ok (.ishr, 1) := by decide +kernel
theorem dX12_edgeOf_5 : decode cX12_edgeOf 5 = .ok (.iconst 1, 1) := by decide +kernel
theorem dX12_edgeOf_6 : decode cX12_edgeOf 6 = .ok (.iand, 1) := by decide +kernel
theorem dX12_edgeOf_7 : decode cX12_edgeOf 7 = .ok (.iconst 1, 1) := by decide +kernel
theorem dX12_edgeOf_8 : decode cX12_edgeOf 8 = .ok (.if_icmp .ne 9, 3) := by decide +kernel
theorem dX12_edgeOf_11 : decode cX12_edgeOf 11 = .ok (.iinc 1 1, 3) := by decide +kernel
theorem dX12_edgeOf_14 : decode cX12_edgeOf 14 = .ok (.goto (-12), 3) := by decide +kernel
theorem dX12_edgeOf_17 : decode cX12_edgeOf 17 = .ok (.iload_n 1, 1) := by decide +kernel
theorem dX12_edgeOf_18 : decode cX12_edgeOf 18 = .ok (.ireturn, 1) := by decide +kernel
theorem dX12_string_0 : decode cX12_string 0 = .ok (.iload_n 1, 1) := by decide +kernel
theorem dX12_string_1 : decode cX12_string 1 = .ok (.i2l, 1) := by decide +kernel
theorem dX12_string_2 : decode cX12_string 2 = .ok (.ldc2_w 202, 3) := by decide +kernel
theorem dX12_string_5 : decode cX12_string 5 = .ok (.ldc2_w 228, 3) := by decide +kernel
theorem dX12_string_8 : decode cX12_string 8 = .ok (.invokestatic 70, 3) := by decide +kernel
theorem dX12_string_11 : decode cX12_string 11 = .ok (.ifCond .eq 22, 3) := by decide +kernel
theorem dX12_string_14 : decode cX12_string 14 = .ok (.iload_n 2, 1) := by decide +kernel
theorem dX12_string_15 : decode cX12_string 15 = .ok (.invokestatic 212, 3) := by decide +kernel
theorem dX12_string_18 : decode cX12_string 18 = .ok (.ifCond .eq 15, 3) := by decide +kernel
theorem dX12_string_21 : decode cX12_string 21 = .ok (.iload_n 3, 1) := by decide +kernel
theorem dX12_string_22 : decode cX12_string 22 = .ok (.i2l, 1) := by decide +kernel
theorem dX12_string_23 : decode cX12_string 23 = .ok (.lconst 0, 1) := by decide +kernel
theorem dX12_string_24 : decode cX12_string 24 = .ok (.ldc2_w 221, 3) := by decide +kernel
theorem dX12_string_27 : decode cX12_string 27 = .ok (.invokestatic 70, 3) := by decide +kernel
theorem dX12_string_30 : decode cX12_string 30 = .ok (.ifCond .ne 5, 3) := by decide +kernel
theorem dX12_string_33 : decode cX12_string 33 = .ok (.iconst (-1), 1) := by decide +kernel
theorem dX12_string_34 : decode cX12_string 34 = .ok (.ireturn, 1) := by decide +kernel
theorem dX12_string_35 : decode cX12_string 35 = .ok (.aload_n 0, 1) := by decide +kernel
theorem dX12_string_36 : decode cX12_string 36 = .ok (.iload_n 1, 1) := by decide +kernel
theorem dX12_string_37 : decode cX12_string 37 = .ok (.iload_n 2, 1) := by decide +kernel
theorem dX12_string_38 : decode cX12_string 38 = .ok (.invokevirtual 230, 3) := by decide +kernel
theorem dX12_string_41 : decode cX12_string 41 = .ok (.istore 4, 2) := by decide +kernel
theorem dX12_string_43 : decode cX12_string 43 = .ok (.iload_n 3, 1) := by decide +kernel
theorem dX12_string_44 : decode cX12_string 44 = .ok (.ifCond .ne 8, 3) := by decide +kernel
theorem dX12_string_47 : decode cX12_string 47 = .ok (.iload 4, 2) := by decide +kernel
theorem dX12_string_49 : decode cX12_string 49 = .ok (.goto 41, 3) := by decide +kernel
theorem dX12_string_52 : decode cX12_string 52 = .ok (.iload_n 3, 1) := by decide +kernel
theorem dX12_string_53 : decode cX12_string 53 = .ok (.iconst 1, 1) := by decide +kernel
theorem dX12_string_54 : decode cX12_string 54 = .ok (.if_icmp .ne 11, 3) := by decide +kernel
theorem dX12_string_57 : decode cX12_string 57 = .ok (.iload 4, 2) := by decide +kernel
theorem dX12_string_59 : decode cX12_string 59 = .ok (.invokestatic 233, 3) := by decide +kernel
theorem dX12_string_62 : decode cX12_string 62 = .ok (.goto 28, 3) := by decide +kernel
theorem dX12_string_65 : decode cX12_string 65 = .ok (.iload_n 3, 1) := by decide +kernel
theorem dX12_string_66 : decode cX12_string 66 = .ok (.iconst 2, 1) := by decide +kernel
theorem dX12_string_67 : decode cX12_string 67 = .ok (.if_icmp .ne 11, 3) := by decide +kernel
theorem dX12_string_70 : decode cX12_string 70 = .ok (.iload 4, 2) := by decide +kernel
theorem dX12_string_72 : decode cX12_string 72 = .ok (.invokestatic 236, 3) := by decide +kernel
theorem dX12_string_75 : decode cX12_string 75 = .ok (.goto 15, 3) := by decide +kernel
theorem dX12_string_78 : decode cX12_string 78 = .ok (.iload 4, 2) := by decide +kernel
theorem dX12_string_80 : decode cX12_string 80 = .ok (.iconst 1, 1) := by decide +kernel
theorem dX12_string_81 : decode cX12_string 81 = .ok (.ishr, 1) := by decide +kernel
theorem dX12_string_82 : decode cX12_string 82 = .ok (.iload 4, 2) := by decide +kernel
theorem dX12_string_84 : decode cX12_string 84 = .ok (.iconst (-1), 1) := by decide +kernel
theorem dX12_string_85 : decode cX12_string 85 = .ok (.ixor, 1) := by decide +kernel
theorem dX12_string_86 : decode cX12_string 86 = .ok (.iand, 1) := by decide +kernel
theorem dX12_string_87 : decode cX12_string 87 = .ok (.invokestatic 233, 3) := by decide +kernel
theorem dX12_string_90 : decode cX12_string 90 = .ok (.ireturn, 1) := by decide +kernel
theorem dX12_node_0 : decode cX12_node 0 = .ok (.iload_n 1, 1) := by decide +kernel
theorem dX12_node_1 : decode cX12_node 1 = .ok (.i2l, 1) := by decide +kernel
theorem dX12_node_2 : decode cX12_node 2 = .ok (.ldc2_w 202, 3) := by decide +kernel
theorem dX12_node_5 : decode cX12_node 5 = .ok (.ldc2_w 228, 3) := by decide +kernel
theorem dX12_node_8 : decode cX12_node 8 = .ok (.invokestatic 70, 3) := by decide +kernel
theorem dX12_node_11 : decode cX12_node 11 = .ok (.ifCond .eq 18, 3) := by decide +kernel
theorem dX12_node_14 : decode cX12_node 14 = .ok (.iload_n 2, 1) := by decide +kernel
theorem dX12_node_15 : decode cX12_node 15 = .ok (.i2l, 1) := by decide +kernel
theorem dX12_node_16 : decode cX12_node 16 = .ok (.lconst 1, 1) := by decide +kernel
theorem dX12_node_17 : decode cX12_node 17 = .ok (.iconst 1, 1) := by decide +kernel
theorem dX12_node_18 : decode cX12_node 18 = .ok (.iload_n 1, 1) := by decide +kernel
theorem dX12_node_19 : decode cX12_node 19 = .ok (.ishl, 1) := by decide +kernel
theorem dX12_node_20 : decode cX12_node 20 = .ok (.iconst 1, 1) := by decide +kernel
theorem dX12_node_21 : decode cX12_node 21 = .ok (.isub, 1) := by decide +kernel
theorem dX12_node_22 : decode cX12_node 22 = .ok (.i2l, 1) := by decide +kernel
theorem dX12_node_23 : decode cX12_node 23 = .ok (.invokestatic 70, 3) := by decide +kernel
theorem dX12_node_26 : decode cX12_node 26 = .ok (.ifCond .ne 5, 3) := by decide +kernel
theorem dX12_node_29 : decode cX12_node 29 = .ok (.iconst (-1), 1) := by decide +kernel
theorem dX12_node_30 : decode cX12_node 30 = .ok (.ireturn, 1) := by decide +kernel
theorem dX12_node_31 : decode cX12_node 31 = .ok (.aload_n 0, 1) := by decide +kernel
theorem dX12_node_32 : decode cX12_node 32 = .ok (.iconst 1, 1) := by decide +kernel
theorem dX12_node_33 : decode cX12_node 33 = .ok (.iload_n 1, 1) := by decide +kernel
theorem dX12_node_34 : decode cX12_node 34 = .ok (.ishl, 1) := by decide +kernel
theorem dX12_node_35 : decode cX12_node 35 = .ok (.invokevirtual 225, 3) := by decide +kernel
theorem dX12_node_38 : decode cX12_node 38 = .ok (.istore_n 3, 1) := by decide +kernel
theorem dX12_node_39 : decode cX12_node 39 = .ok (.aload_n 0, 1) := by decide +kernel
theorem dX12_node_40 : decode cX12_node 40 = .ok (.getfield 19, 3) := by decide +kernel
theorem dX12_node_43 : decode cX12_node 43 = .ok (.iconst 5, 1) := by decide +kernel
theorem dX12_node_44 : decode cX12_node 44 = .ok (.iaload, 1) := by decide +kernel
theorem dX12_node_45 : decode cX12_node 45 = .ok (.aload_n 0, 1) := by decide +kernel
theorem dX12_node_46 : decode cX12_node 46 = .ok (.iload_n 2, 1) := by decide +kernel
theorem dX12_node_47 : decode cX12_node 47 = .ok (.invokevirtual 225, 3) := by decide +kernel
theorem dX12_node_50 : decode cX12_node 50 = .ok (.imul, 1) := by decide +kernel
theorem dX12_node_51 : decode cX12_node 51 = .ok (.iload_n 3, 1) := by decide +kernel
theorem dX12_node_52 : decode cX12_node 52 = .ok (.iadd, 1) := by decide +kernel
theorem dX12_node_53 : decode cX12_node 53 = .ok (.iconst 1, 1) := by decide +kernel
theorem dX12_node_54 : decode cX12_node 54 = .ok (.isub, 1) := by decide +kernel
theorem dX12_node_55 : decode cX12_node 55 = .ok (.iload_n 3, 1) := by decide +kernel
theorem dX12_node_56 : decode cX12_node 56 = .ok (.idiv, 1) := by decide +kernel
theorem dX12_node_57 : decode cX12_node 57 = .ok (.ireturn, 1) := by decide +kernel
theorem dX12_strings_0 : decode cX12_strings 0 = .ok (.iload_n 1, 1) := by decide +kernel
theorem dX12_strings_1 : decode cX12_strings 1 = .ok (.i2l, 1) := by decide +kernel
theorem dX12_strings_2 : decode cX12_strings 2 = .ok (.ldc2_w 202, 3) := by decide +kernel
theorem dX12_strings_5 : decode cX12_strings 5 = .ok (.ldc2_w 228, 3) := by decide +kernel
theorem dX12_strings_8 : decode cX12_strings 8 = .ok (.invokestatic 70, 3) := by decide +kernel
theorem dX12_strings_11 : decode cX12_strings 11 = .ok (.ifCond .eq 13, 3) := by decide +kernel
