theorem dX11_game_209 : decode cX11_game 209 = .ok (.iload 7, 2) := by decide +kernel
theorem dX11_game_211 : decode cX11_game 211 = .ok (.iaload, 1) := by decide +kernel
theorem dX11_game_212 : decode cX11_game 212 = .ok (.iconst (-1), 1) := by decide +kernel
theorem dX11_game_213 : decode cX11_game 213 = .ok (.ixor, 1) := by decide +kernel
theorem dX11_game_214 : decode cX11_game 214 = .ok (.iand, 1) := by decide +kernel
theorem dX11_game_215 : decode cX11_game 215 = .ok (.baload, 1) := by decide +kernel
theorem dX11_game_216 : decode cX11_game 216 = .ok (.ifCond .ne 7, 3) := by decide +kernel
theorem dX11_game_219 : decode cX11_game 219 = .ok (.iconst 1, 1) := by decide +kernel
theorem dX11_game_220 : decode cX11_game 220 = .ok (.goto 4, 3) := by decide +kernel
theorem dX11_game_223 : decode cX11_game 223 = .ok (.iconst 0, 1) := by decide +kernel
theorem dX11_game_224 : decode cX11_game 224 = .ok (.istore 6, 2) := by decide +kernel
theorem dX11_game_226 : decode cX11_game 226 = .ok (.iinc 7 1, 3) := by decide +kernel
theorem dX11_game_229 : decode cX11_game 229 = .ok (.goto (-52), 3) := by decide +kernel
theorem dX11_game_232 : decode cX11_game 232 = .ok (.aload_n 0, 1) := by decide +kernel
theorem dX11_game_233 : decode cX11_game 233 = .ok (.getfield 136, 3) := by decide +kernel
theorem dX11_game_236 : decode cX11_game 236 = .ok (.iload 5, 2) := by decide +kernel
theorem dX11_game_238 : decode cX11_game 238 = .ok (.iload 6, 2) := by decide +kernel
theorem dX11_game_240 : decode cX11_game 240 = .ok (.bastore, 1) := by decide +kernel
theorem dX11_game_241 : decode cX11_game 241 = .ok (.iinc 5 1, 3) := by decide +kernel
theorem dX11_game_244 : decode cX11_game 244 = .ok (.goto (-81), 3) := by decide +kernel
theorem dX11_game_247 : decode cX11_game 247 = .ok (.aload_n 0, 1) := by decide +kernel
theorem dX11_game_248 : decode cX11_game 248 = .ok (.getfield 136, 3) := by decide +kernel
theorem dX11_game_251 : decode cX11_game 251 = .ok (.iconst 1, 1) := by decide +kernel
theorem dX11_game_252 : decode cX11_game 252 = .ok (.iload_n 3, 1) := by decide +kernel
theorem dX11_game_253 : decode cX11_game 253 = .ok (.ishl, 1) := by decide +kernel
theorem dX11_game_254 : decode cX11_game 254 = .ok (.iconst 1, 1) := by decide +kernel
theorem dX11_game_255 : decode cX11_game 255 = .ok (.isub, 1) := by decide +kernel
theorem dX11_game_256 : decode cX11_game 256 = .ok (.baload, 1) := by decide +kernel
theorem dX11_game_257 : decode cX11_game 257 = .ok (.ifCond .eq 7, 3) := by decide +kernel
theorem dX11_game_260 : decode cX11_game 260 = .ok (.iconst 1, 1) := by decide +kernel
theorem dX11_game_261 : decode cX11_game 261 = .ok (.goto 4, 3) := by decide +kernel
theorem dX11_game_264 : decode cX11_game 264 = .ok (.iconst 0, 1) := by decide +kernel
theorem dX11_game_265 : decode cX11_game 265 = .ok (.ireturn, 1) := by decide +kernel
theorem dX11_turnedSquare_0 : decode cX11_turnedSquare 0 = .ok (.iload_n 2, 1) := by decide +kernel
theorem dX11_turnedSquare_1 : decode cX11_turnedSquare 1 = .ok (.iconst 3, 1) := by decide +kernel
theorem dX11_turnedSquare_2 : decode cX11_turnedSquare 2 = .ok (.if_icmp .le 19, 3) := by decide +kernel
theorem dX11_turnedSquare_5 : decode cX11_turnedSquare 5 = .ok (.aload_n 0, 1) := by decide +kernel
theorem dX11_turnedSquare_6 : decode cX11_turnedSquare 6 = .ok (.getfield 13, 3) := by decide +kernel
theorem dX11_turnedSquare_9 : decode cX11_turnedSquare 9 = .ok (.iconst 1, 1) := by decide +kernel
theorem dX11_turnedSquare_10 : decode cX11_turnedSquare 10 = .ok (.isub, 1) := by decide +kernel
theorem dX11_turnedSquare_11 : decode cX11_turnedSquare 11 = .ok (.iload_n 1, 1) := by decide +kernel
theorem dX11_turnedSquare_12 : decode cX11_turnedSquare 12 = .ok (.aload_n 0, 1) := by decide +kernel
theorem dX11_turnedSquare_13 : decode cX11_turnedSquare 13 = .ok (.getfield 13, 3) := by decide +kernel
theorem dX11_turnedSquare_16 : decode cX11_turnedSquare 16 = .ok (.irem, 1) := by decide +kernel
theorem dX11_turnedSquare_17 : decode cX11_turnedSquare 17 = .ok (.isub, 1) := by decide +kernel
theorem dX11_turnedSquare_18 : decode cX11_turnedSquare 18 = .ok (.goto 9, 3) := by decide +kernel
theorem dX11_turnedSquare_21 : decode cX11_turnedSquare 21 = .ok (.iload_n 1, 1) := by decide +kernel
theorem dX11_turnedSquare_22 : decode cX11_turnedSquare 22 = .ok (.aload_n 0, 1) := by decide +kernel
theorem dX11_turnedSquare_23 : decode cX11_turnedSquare 23 = .ok (.getfield 13, 3) := by decide +kernel
theorem dX11_turnedSquare_26 : decode cX11_turnedSquare 26 = .ok (.irem, 1) := by decide +kernel
theorem dX11_turnedSquare_27 : decode cX11_turnedSquare 27 = .ok (.istore_n 3, 1) := by decide +kernel
theorem dX11_turnedSquare_28 : decode cX11_turnedSquare 28 = .ok (.iload_n 1, 1) := by decide +kernel
theorem dX11_turnedSquare_29 : decode cX11_turnedSquare 29 = .ok (.aload_n 0, 1) := by decide +kernel
theorem dX11_turnedSquare_30 : decode cX11_turnedSquare 30 = .ok (.getfield 13, 3) := by decide +kernel
theorem dX11_turnedSquare_33 : decode cX11_turnedSquare 33 = .ok (.idiv, 1) := by decide +kernel
theorem dX11_turnedSquare_34 : decode cX11_turnedSquare 34 = .ok (.istore 4, 2) := by decide +kernel
theorem dX11_turnedSquare_36 : decode cX11_turnedSquare 36 = .ok (.iconst 0, 1) := by decide +kernel
theorem dX11_turnedSquare_37 : decode cX11_turnedSquare 37 = .ok (.istore 5, 2) := by decide +kernel
theorem dX11_turnedSquare_39 : decode cX11_turnedSquare 39 = .ok (.iload 5, 2) := by decide +kernel
theorem dX11_turnedSquare_41 : decode cX11_turnedSquare 41 = .ok (.iload_n 2, 1) := by decide +kernel
theorem dX11_turnedSquare_42 : decode cX11_turnedSquare 42 = .ok (.iconst 4, 1) := by decide +kernel
theorem dX11_turnedSquare_43 : decode cX11_turnedSquare 43 = .ok (.irem, 1) := by decide +kernel
theorem dX11_turnedSquare_44 : decode cX11_turnedSquare 44 = .ok (.if_icmp .ge 26, 3) := by decide +kernel
theorem dX11_turnedSquare_47 : decode cX11_turnedSquare 47 = .ok (.iload_n 3, 1) := by decide +kernel
theorem dX11_turnedSquare_48 : decode cX11_turnedSquare 48 = .ok (.istore 6, 2) := by decide +kernel
theorem dX11_turnedSquare_50 : decode cX11_turnedSquare 50 = .ok (.aload_n 0, 1) := by decide +kernel
theorem dX11_turnedSquare_51 : decode cX11_turnedSquare 51 = .ok (.getfield 13, 3) := by decide +kernel
theorem dX11_turnedSquare_54 : decode cX11_turnedSquare 54 = .ok (.iconst 1, 1) := by decide +kernel
theorem dX11_turnedSquare_55 : decode cX11_turnedSquare 55 = .ok (.isub, 1) := by decide +kernel
theorem dX11_turnedSquare_56 : decode cX11_turnedSquare 56 = .ok (.iload 4, 2) := by decide +kernel
theorem dX11_turnedSquare_58 : decode cX11_turnedSquare 58 = .ok (.isub, 1) := by decide +kernel
theorem dX11_turnedSquare_59 : decode cX11_turnedSquare 59 = .ok (.istore_n 3, 1) := by decide +kernel
theorem dX11_turnedSquare_60 : decode cX11_turnedSquare 60 = .ok (.iload 6, 2) := by decide +kernel
theorem dX11_turnedSquare_62 : decode cX11_turnedSquare 62 = .ok (.istore 4, 2) := by decide +kernel
theorem dX11_turnedSquare_64 : decode cX11_turnedSquare 64 = .ok (.iinc 5 1, 3) := by decide +kernel
theorem dX11_turnedSquare_67 : decode cX11_turnedSquare 67 = .ok (.goto (-28), 3) := by decide +kernel
theorem dX11_turnedSquare_70 : decode cX11_turnedSquare 70 = .ok (.aload_n 0, 1) := by decide +kernel
theorem dX11_turnedSquare_71 : decode cX11_turnedSquare 71 = .ok (.getfield 13, 3) := by decide +kernel
theorem dX11_turnedSquare_74 : decode cX11_turnedSquare 74 = .ok (.iload 4, 2) := by decide +kernel
theorem dX11_turnedSquare_76 : decode cX11_turnedSquare 76 = .ok (.imul, 1) := by decide +kernel
theorem dX11_turnedSquare_77 : decode cX11_turnedSquare 77 = .ok (.iload_n 3, 1) := by decide +kernel
theorem dX11_turnedSquare_78 : decode cX11_turnedSquare 78 = .ok (.iadd, 1) := by decide +kernel
theorem dX11_turnedSquare_79 : decode cX11_turnedSquare 79 = .ok (.ireturn, 1) := by decide +kernel
theorem dX11_isAlike_0 : decode cX11_isAlike 0 = .ok (.aload_n 0, 1) := by decide +kernel
theorem dX11_isAlike_1 : decode cX11_isAlike 1 = .ok (.invokevirtual 238, 3) := by decide +kernel
theorem dX11_isAlike_4 : decode cX11_isAlike 4 = .ok (.istore_n 2, 1) := by decide +kernel
theorem dX11_isAlike_5 : decode cX11_isAlike 5 = .ok (.iconst 0, 1) := by decide +kernel
theorem dX11_isAlike_6 : decode cX11_isAlike 6 = .ok (.istore_n 3, 1) := by decide +kernel
theorem dX11_isAlike_7 : decode cX11_isAlike 7 = .ok (.iconst 0, 1) := by decide +kernel
theorem dX11_isAlike_8 : decode cX11_isAlike 8 = .ok (.istore 4, 2) := by decide +kernel
theorem dX11_isAlike_10 : decode cX11_isAlike 10 = .ok (.iload 4, 2) := by decide +kernel
theorem dX11_isAlike_12 : decode cX11_isAlike 12 = .ok (.aload_n 0, 1) := by decide +kernel
theorem dX11_isAlike_13 : decode cX11_isAlike 13 = .ok (.getfield 13, 3) := by decide +kernel
theorem dX11_isAlike_16 : decode cX11_isAlike 16 = .ok (.aload_n 0, 1) := by decide +kernel
theorem dX11_isAlike_17 : decode cX11_isAlike 17 = .ok (.getfield 13, 3) := by decide +kernel
theorem dX11_isAlike_20 : decode cX11_isAlike 20 = .ok (.imul, 1) := by decide +kernel
theorem dX11_isAlike_21 : decode cX11_isAlike 21 = .ok (.if_icmp .ge 35, 3) := by decide +kernel
theorem dX11_isAlike_24 : decode cX11_isAlike 24 = .ok (.iload_n 3, 1) := by decide +kernel
theorem dX11_isAlike_25 : decode cX11_isAlike 25 = .ok (.aload_n 0, 1) := by decide +kernel
theorem dX11_isAlike_26 : decode cX11_isAlike 26 = .ok (.iload_n 2, 1) := by decide +kernel
theorem dX11_isAlike_27 : decode cX11_isAlike 27 = .ok (.iload 4, 2) := by decide +kernel
theorem dX11_isAlike_29 : decode cX11_isAlike 29 = .ok (.invokevirtual 323, 3) := by decide +kernel
theorem dX11_isAlike_32 : decode cX11_isAlike 32 = .ok (.ifCond .eq 15, 3) := by decide +kernel
theorem dX11_isAlike_35 : decode cX11_isAlike 35 = .ok (.iconst 1, 1) := by decide +kernel
theorem dX11_isAlike_36 : decode cX11_isAlike 36 = .ok (.aload_n 0, 1) := by decide +kernel
theorem dX11_isAlike_37 : decode cX11_isAlike 37 = .ok (.iload 4, 2) := by decide +kernel
theorem dX11_isAlike_39 : decode cX11_isAlike 39 = .ok (.iload_n 1, 1) := by decide +kernel
theorem dX11_isAlike_40 : decode cX11_isAlike 40 = .ok (.invokevirtual 399, 3) := by decide +kernel
theorem dX11_isAlike_43 : decode cX11_isAlike 43 = .ok (.ishl, 1) := by decide +kernel
theorem dX11_isAlike_44 : decode cX11_isAlike 44 = .ok (.goto 4, 3) := by decide +kernel
theorem dX11_isAlike_47 : decode cX11_isAlike 47 = .ok (.iconst 0, 1) := by decide +kernel
theorem dX11_isAlike_48 : decode cX11_isAlike 48 = .ok (.ior, 1) := by decide +kernel
theorem dX11_isAlike_49 : decode cX11_isAlike 49 = .ok (.istore_n 3, 1) := by decide +kernel
theorem dX11_isAlike_50 : decode cX11_isAlike 50 = .ok (.iinc 4 1, 3) := by decide +kernel
theorem dX11_isAlike_53 : decode cX11_isAlike 53 = .ok (.goto (-43), 3) := by decide +kernel
theorem dX11_isAlike_56 : decode cX11_isAlike 56 = .ok (.iload_n 3, 1) := by decide +kernel
theorem dX11_isAlike_57 : decode cX11_isAlike 57 = .ok (.iload_n 2, 1) := by decide +kernel
theorem dX11_isAlike_58 : decode cX11_isAlike 58 = .ok (.if_icmp .ne 7, 3) := by decide +kernel
theorem dX11_isAlike_61 : decode cX11_isAlike 61 = .ok (.iconst 1, 1) := by decide +kernel
theorem dX11_isAlike_62 : decode cX11_isAlike 62 = .ok (.goto 4, 3) := by decide +kernel
theorem dX11_isAlike_65 : decode cX11_isAlike 65 = .ok (.iconst 0, 1) := by decide +kernel
theorem dX11_isAlike_66 : decode cX11_isAlike 66 = .ok (.ireturn, 1) := by decide +kernel
theorem dX11_turned_0 : decode cX11_turned 0 = .ok (.aload_n 0, 1) := by decide +kernel
theorem dX11_turned_1 : decode cX11_turned 1 = .ok (.iload_n 1, 1) := by decide +kernel
theorem dX11_turned_2 : decode cX11_turned 2 = .ok (.iconst 0, 1) := by decide +kernel
theorem dX11_turned_3 : decode cX11_turned 3 = .ok (.bipush 7, 2) := by decide +kernel
theorem dX11_turned_5 : decode cX11_turned 5 = .ok (.invokevirtual 230, 3) := by decide +kernel
theorem dX11_turned_8 : decode cX11_turned 8 = .ok (.ifCond .ne 7, 3) := by decide +kernel
theorem dX11_turned_11 : decode cX11_turned 11 = .ok (.iconst (-1), 1) := by decide +kernel
theorem dX11_turned_12 : decode cX11_turned 12 = .ok (.goto 16, 3) := by decide +kernel
theorem dX11_turned_15 : decode cX11_turned 15 = .ok (.aload_n 0, 1) := by decide +kernel
theorem dX11_turned_16 : decode cX11_turned 16 = .ok (.iload_n 1, 1) := by decide +kernel
theorem dX11_turned_17 : decode cX11_turned 17 = .ok (.invokevirtual 402, 3) := by decide +kernel
theorem dX11_turned_20 : decode cX11_turned 20 = .ok (.ifCond .eq 7, 3) := by decide +kernel
theorem dX11_turned_23 : decode cX11_turned 23 = .ok (.iconst 1, 1) := by decide +kernel
theorem dX11_turned_24 : decode cX11_turned 24 = .ok (.goto 4, 3) := by decide +kernel
theorem dX11_turned_27 : decode cX11_turned 27 = .ok (.iconst 0, 1) := by decide +kernel
theorem dX11_turned_28 : decode cX11_turned 28 = .ok (.ireturn, 1) := by decide +kernel
theorem dX11_alike_0 : decode cX11_alike 0 = .ok (.iconst 0, 1) := by decide +kernel
theorem dX11_alike_1 : decode cX11_alike 1 = .ok (.istore_n 1, 1) := by decide +kernel
theorem dX11_alike_2 : decode cX11_alike 2 = .ok (.iconst 0, 1) := by decide +kernel
theorem dX11_alike_3 : decode cX11_alike 3 = .ok (.istore_n 2, 1) := by decide +kernel
theorem dX11_alike_4 : decode cX11_alike 4 = .ok (.iload_n 2, 1) := by decide +kernel
theorem dX11_alike_5 : decode cX11_alike 5 = .ok (.bipush 8, 2) := by decide +kernel
theorem dX11_alike_7 : decode cX11_alike 7 = .ok (.if_icmp .ge 25, 3) := by decide +kernel
theorem dX11_alike_10 : decode cX11_alike 10 = .ok (.iload_n 1, 1) := by decide +kernel
theorem dX11_alike_11 : decode cX11_alike 11 = .ok (.aload_n 0, 1) := by decide +kernel
theorem dX11_alike_12 : decode cX11_alike 12 = .ok (.iload_n 2, 1) := by decide +kernel
theorem dX11_alike_13 : decode cX11_alike 13 = .ok (.invokevirtual 402, 3) := by decide +kernel
theorem dX11_alike_16 : decode cX11_alike 16 = .ok (.ifCond .eq 7, 3) := by decide +kernel
theorem dX11_alike_19 : decode cX11_alike 19 = .ok (.iconst 1, 1) := by decide +kernel
theorem dX11_alike_20 : decode cX11_alike 20 = .ok (.goto 4, 3) := by decide +kernel
theorem dX11_alike_23 : decode cX11_alike 23 = .ok (.iconst 0, 1) := by decide +kernel
theorem dX11_alike_24 : decode cX11_alike 24 = .ok (.iadd, 1) := by decide +kernel
theorem dX11_alike_25 : decode cX11_alike 25 = .ok (.istore_n 1, 1) := by decide +kernel
theorem dX11_alike_26 : decode cX11_alike 26 = .ok (.iinc 2 1, 3) := by decide +kernel
theorem dX11_alike_29 : decode cX11_alike 29 = .ok (.goto (-25), 3) := by decide +kernel
theorem dX11_alike_32 : decode cX11_alike 32 = .ok (.iload_n 1, 1) := by decide +kernel
theorem dX11_alike_33 : decode cX11_alike 33 = .ok (.ireturn, 1) := by decide +kernel
theorem dX11_aim_0 : decode cX11_aim 0 = .ok (.iload_n 1, 1) := by decide +kernel
theorem dX11_aim_1 : decode cX11_aim 1 = .ok (.iconst (-1), 1) := by decide +kernel
theorem dX11_aim_2 : decode cX11_aim 2 = .ok (.if_icmp .ne 10, 3) := by decide +kernel
theorem dX11_aim_5 : decode cX11_aim 5 = .ok (.aload_n 0, 1) := by decide +kernel
theorem dX11_aim_6 : decode cX11_aim 6 = .ok (.iconst 0, 1) := by decide +kernel
theorem dX11_aim_7 : decode cX11_aim 7 = .ok (.putfield 139, 3) := by decide +kernel
theorem dX11_aim_10 : decode cX11_aim 10 = .ok (.iconst 0, 1) := by decide +kernel
theorem dX11_aim_11 : decode cX11_aim 11 = .ok (.ireturn, 1) := by decide +kernel
theorem dX11_aim_12 : decode cX11_aim 12 = .ok (.aload_n 0, 1) := by decide +kernel
theorem dX11_aim_13 : decode cX11_aim 13 = .ok (.iload_n 1, 1) := by decide +kernel
theorem dX11_aim_14 : decode cX11_aim 14 = .ok (.invokevirtual 341, 3) := by decide +kernel
theorem dX11_aim_17 : decode cX11_aim 17 = .ok (.ifCond .ne 5, 3) := by decide +kernel
theorem dX11_aim_20 : decode cX11_aim 20 = .ok (.iconst (-1), 1) := by decide +kernel
theorem dX11_aim_21 : decode cX11_aim 21 = .ok (.ireturn, 1) := by decide +kernel
theorem dX11_aim_22 : decode cX11_aim 22 = .ok (.iconst 0, 1) := by decide +kernel
theorem dX11_aim_23 : decode cX11_aim 23 = .ok (.istore_n 2, 1) := by decide +kernel
theorem dX11_aim_24 : decode cX11_aim 24 = .ok (.iload_n 2, 1) := by decide +kernel
theorem dX11_aim_25 : decode cX11_aim 25 = .ok (.aload_n 0, 1) := by decide +kernel
theorem dX11_aim_26 : decode cX11_aim 26 = .ok (.getfield 139, 3) := by decide +kernel
theorem dX11_aim_29 : decode cX11_aim 29 = .ok (.if_icmp .ge 22, 3) := by decide +kernel
theorem dX11_aim_32 : decode cX11_aim 32 = .ok (.aload_n 0, 1) := by decide +kernel
theorem dX11_aim_33 : decode cX11_aim 33 = .ok (.getfield 142, 3) := by decide +kernel
theorem dX11_aim_36 : decode cX11_aim 36 = .ok (.iload_n 2, 1) := by decide +kernel
theorem dX11_aim_37 : decode cX11_aim 37 = .ok (.iaload, 1) := by decide +kernel
theorem dX11_aim_38 : decode cX11_aim 38 = .ok (.iload_n 1, 1) := by decide +kernel
theorem dX11_aim_39 : decode cX11_aim 39 = .ok (.if_icmp .ne 6, 3) := by decide +kernel
theorem dX11_aim_42 : decode cX11_aim 42 = .ok (.bipush (-2), 2) := by decide +kernel
theorem dX11_aim_44 : decode cX11_aim 44 = .ok (.ireturn, 1) := by decide +kernel
theorem dX11_aim_45 : decode cX11_aim 45 = .ok (.iinc 2 1, 3) := by decide +kernel
theorem dX11_aim_48 : decode cX11_aim 48 = .ok (.goto (-24), 3) := by decide +kernel
theorem dX11_aim_51 : decode cX11_aim 51 = .ok (.aload_n 0, 1) := by decide +kernel
theorem dX11_aim_52 : decode cX11_aim 52 = .ok (.getfield 139, 3) := by decide +kernel
theorem dX11_aim_55 : decode cX11_aim 55 = .ok (.iconst 5, 1) := by decide +kernel
theorem dX11_aim_56 : decode cX11_aim 56 = .ok (.if_icmp .ne 6, 3) := by decide +kernel
theorem dX11_aim_59 : decode cX11_aim 59 = .ok (.bipush (-4), 2) := by decide +kernel
theorem dX11_aim_61 : decode cX11_aim 61 = .ok (.ireturn, 1) := by decide +kernel
theorem dX11_aim_62 : decode cX11_aim 62 = .ok (.aload_n 0, 1) := by decide +kernel
theorem dX11_aim_63 : decode cX11_aim 63 = .ok (.getfield 142, 3) := by decide +kernel
theorem dX11_aim_66 : decode cX11_aim 66 = .ok (.aload_n 0, 1) := by decide +kernel
theorem dX11_aim_67 : decode cX11_aim 67 = .ok (.getfield 139, 3) := by decide +kernel
theorem dX11_aim_70 : decode cX11_aim 70 = .ok (.iload_n 1, 1) := by decide +kernel
theorem dX11_aim_71 : decode cX11_aim 71 = .ok (.iastore, 1) := by decide +kernel
theorem dX11_aim_72 : decode cX11_aim 72 = .ok (.aload_n 0, 1) := by decide +kernel
theorem dX11_aim_73 : decode cX11_aim 73 = .ok (.dup, 1) := by decide +kernel
theorem dX11_aim_74 : decode cX11_aim 74 = .ok (.getfield 139, 3) := by decide +kernel
theorem dX11_aim_77 : decode cX11_aim 77 = .ok (.iconst 1, 1) := by decide +kernel
theorem dX11_aim_78 : decode cX11_aim 78 = .ok (.iadd, 1) := by decide +kernel
theorem dX11_aim_79 : decode cX11_aim 79 = .ok (.putfield 139, 3) := by decide +kernel
theorem dX11_aim_82 : decode cX11_aim 82 = .ok (.aload_n 0, 1) := by decide +kernel
theorem dX11_aim_83 : decode cX11_aim 83 = .ok (.getfield 139, 3) := by decide +kernel
theorem dX11_aim_86 : decode cX11_aim 86 = .ok (.ireturn, 1) := by decide +kernel
theorem dX11_laySteps_0 : decode cX11_laySteps 0 = .ok (.iconst 0, 1) := by decide +kernel
theorem dX11_laySteps_1 : decode cX11_laySteps 1 = .ok (.istore_n 2, 1) := by decide +kernel
theorem dX11_laySteps_2 : decode cX11_laySteps 2 = .ok (.iload_n 2, 1) := by decide +kernel
theorem dX11_laySteps_3 : decode cX11_laySteps 3 = .ok (.bipush 25, 2) := by decide +kernel
theorem dX11_laySteps_5 : decode cX11_laySteps 5 = .ok (.if_icmp .ge 17, 3) := by decide +kernel
theorem dX11_laySteps_8 : decode cX11_laySteps 8 = .ok (.aload_n 0, 1) := by decide +kernel
theorem dX11_laySteps_9 : decode cX11_laySteps 9 = .ok (.getfield 145, 3) := by decide +kernel
theorem dX11_laySteps_12 : decode cX11_laySteps 12 = .ok (.iload_n 2, 1) := by decide +kernel
theorem dX11_laySteps_13 : decode cX11_laySteps 13 = .ok (.bipush 99, 2) := by decide +kernel
theorem dX11_laySteps_15 : decode cX11_laySteps 15 = .ok (.iastore, 1) := by decide +kernel
theorem dX11_laySteps_16 : decode cX11_laySteps 16 = .ok (.iinc 2 1, 3) := by decide +kernel
theorem dX11_laySteps_19 : decode cX11_laySteps 19 = .ok (.goto (-17), 3) := by decide +kernel
theorem dX11_laySteps_22 : decode cX11_laySteps 22 = .ok (.aload_n 0, 1) := by decide +kernel
theorem dX11_laySteps_23 : decode cX11_laySteps 23 = .ok (.getfield 145, 3) := by decide +kernel
theorem dX11_laySteps_26 : decode cX11_laySteps 26 = .ok (.iload_n 1, 1) := by decide +kernel
theorem dX11_laySteps_27 : decode cX11_laySteps 27 = .ok (.iconst 0, 1) := by decide +kernel
theorem dX11_laySteps_28 : decode cX11_laySteps 28 = .ok (.iastore, 1) := by decide +kernel
theorem dX11_laySteps_29 : decode cX11_laySteps 29 = .ok (.iconst 1, 1) := by decide +kernel
theorem dX11_laySteps_30 : decode cX11_laySteps 30 = .ok (.istore_n 2, 1) := by decide +kernel
theorem dX11_laySteps_31 : decode cX11_laySteps 31 = .ok (.iload_n 2, 1) := by decide +kernel
theorem dX11_laySteps_32 : decode cX11_laySteps 32 = .ok (.ifCond .eq 144, 3) := by decide +kernel
theorem dX11_laySteps_35 : decode cX11_laySteps 35 = .ok (.iconst 0, 1) := by decide +kernel
theorem dX11_laySteps_36 : decode cX11_laySteps 36 = .ok (.istore_n 2, 1) := by decide +kernel
theorem dX11_laySteps_37 : decode cX11_laySteps 37 = .ok (.iconst 0, 1) := by decide +kernel
theorem dX11_laySteps_38 : decode cX11_laySteps 38 = .ok (.istore_n 3, 1) := by decide +kernel
theorem dX11_laySteps_39 : decode cX11_laySteps 39 = .ok (.iload_n 3, 1) := by decide +kernel
theorem dX11_laySteps_40 : decode cX11_laySteps 40 = .ok (.aload_n 0, 1) := by decide +kernel
theorem dX11_laySteps_41 : decode cX11_laySteps 41 = .ok (.getfield 13, 3) := by decide +kernel
theorem dX11_laySteps_44 : decode cX11_laySteps 44 = .ok (.aload_n 0, 1) := by decide +kernel
theorem dX11_laySteps_45 : decode cX11_laySteps 45 = .ok (.getfield 13, 3) := by decide +kernel
theorem dX11_laySteps_48 : decode cX11_laySteps 48 = .ok (.imul, 1) := by decide +kernel
theorem dX11_laySteps_49 : decode cX11_laySteps 49 = .ok (.if_icmp .ge 124, 3) := by decide +kernel
theorem dX11_laySteps_52 : decode cX11_laySteps 52 = .ok (.aload_n 0, 1) := by decide +kernel
theorem dX11_laySteps_53 : decode cX11_laySteps 53 = .ok (.aload_n 0, 1) := by decide +kernel
theorem dX11_laySteps_54 : decode cX11_laySteps 54 = .ok (.getfield 19, 3) := by decide +kernel
theorem dX11_laySteps_57 : decode cX11_laySteps 57 = .ok (.iload_n 3, 1) := by decide +kernel
theorem dX11_laySteps_58 : decode cX11_laySteps 58 = .ok (.invokevirtual 323, 3) := by decide +kernel
theorem dX11_laySteps_61 : decode cX11_laySteps 61 = .ok (.ifCond .eq 6, 3) := by decide +kernel
theorem dX11_laySteps_64 : decode cX11_laySteps 64 = .ok (.goto 103, 3) := by decide +kernel
theorem dX11_laySteps_67 : decode cX11_laySteps 67 = .ok (.iconst 0, 1) := by decide +kernel
theorem dX11_laySteps_68 : decode cX11_laySteps 68 = .ok (.istore 4, 2) := by decide +kernel
theorem dX11_laySteps_70 : decode cX11_laySteps 70 = .ok (.iload 4, 2) := by decide +kernel
theorem dX11_laySteps_72 : decode cX11_laySteps 72 = .ok (.aload_n 0, 1) := by decide +kernel
theorem dX11_laySteps_73 : decode cX11_laySteps 73 = .ok (.getfield 13, 3) := by decide +kernel
theorem dX11_laySteps_76 : decode cX11_laySteps 76 = .ok (.aload_n 0, 1) := by decide +kernel
theorem dX11_laySteps_77 : decode cX11_laySteps 77 = .ok (.getfield 13, 3) := by decide +kernel
theorem dX11_laySteps_80 : decode cX11_laySteps 80 = .ok (.imul, 1) := by decide +kernel
theorem dX11_laySteps_81 : decode cX11_laySteps 81 = .ok (.if_icmp .ge 86, 3) := by decide +kernel
theorem dX11_laySteps_84 : decode cX11_laySteps 84 = .ok (.aload_n 0, 1) := by decide +kernel
theorem dX11_laySteps_85 : decode cX11_laySteps 85 = .ok (.iload_n 3, 1) := by decide +kernel
theorem dX11_laySteps_86 : decode cX11_laySteps 86 = .ok (.aload_n 0, 1) := by decide +kernel
theorem dX11_laySteps_87 : decode cX11_laySteps 87 = .ok (.getfield 13, 3) := by decide +kernel
theorem dX11_laySteps_90 : decode cX11_laySteps 90 = .ok (.irem, 1) := by decide +kernel
theorem dX11_laySteps_91 : decode cX11_laySteps 91 = .ok (.iload 4, 2) := by decide +kernel
theorem dX11_laySteps_93 : decode cX11_laySteps 93 = .ok (.aload_n 0, 1) := by decide +kernel
theorem dX11_laySteps_94 : decode cX11_laySteps 94 = .ok (.getfield 13, 3) := by decide +kernel
theorem dX11_laySteps_97 : decode cX11_laySteps 97 = .ok (.irem, 1) := by decide +kernel
theorem dX11_laySteps_98 : decode cX11_laySteps 98 = .ok (.invokevirtual 300, 3) := by decide +kernel
theorem dX11_laySteps_101 : decode cX11_laySteps 101 = .ok (.aload_n 0, 1) := by decide +kernel
theorem dX11_laySteps_102 : decode cX11_laySteps 102 = .ok (.iload_n 3, 1) := by decide +kernel
theorem dX11_laySteps_103 : decode cX11_laySteps 103 = .ok (.aload_n 0, 1) := by decide +kernel
theorem dX11_laySteps_104 : decode cX11_laySteps 104 = .ok (.getfield 13, 3) := by decide +kernel
theorem dX11_laySteps_107 : decode cX11_laySteps 107 = .ok (.idiv, 1) := by decide +kernel
theorem dX11_laySteps_108 : decode cX11_laySteps 108 = .ok (.iload 4, 2) := by decide +kernel
theorem dX11_laySteps_110 : decode cX11_laySteps 110 = .ok (.aload_n 0, 1) := by decide +kernel
theorem dX11_laySteps_111 : decode cX11_laySteps 111 = .ok (.getfield 13, 3) := by decide +kernel
theorem dX11_laySteps_114 : decode cX11_laySteps 114 = .ok (.idiv, 1) := by decide +kernel
theorem dX11_laySteps_115 : decode cX11_laySteps 115 = .ok (.invokevirtual 300, 3) := by decide +kernel
theorem dX11_laySteps_118 : decode cX11_laySteps 118 = .ok (.iadd, 1) := by decide +kernel
theorem dX11_laySteps_119 : decode cX11_laySteps 119 = .ok (.iconst 1, 1) := by decide +kernel
theorem dX11_laySteps_120 : decode cX11_laySteps 120 = .ok (.if_icmp .ne 41, 3) := by decide +kernel
theorem dX11_laySteps_123 : decode cX11_laySteps 123 = .ok (.aload_n 0, 1) := by decide +kernel
theorem dX11_laySteps_124 : decode cX11_laySteps 124 = .ok (.getfield 145, 3) := by decide +kernel
theorem dX11_laySteps_127 : decode cX11_laySteps 127 = .ok (.iload 4, 2) := by decide +kernel
theorem dX11_laySteps_129 : decode cX11_laySteps 129 = .ok (.iaload, 1) := by decide +kernel
theorem dX11_laySteps_130 : decode cX11_laySteps 130 = .ok (.iconst 1, 1) := by decide +kernel
theorem dX11_laySteps_131 : decode cX11_laySteps 131 = .ok (.iadd, 1) := by decide +kernel
theorem dX11_laySteps_132 : decode cX11_laySteps 132 = .ok (.aload_n 0, 1) := by decide +kernel
theorem dX11_laySteps_133 : decode cX11_laySteps 133 = .ok (.getfield 145, 3) := by decide +kernel
theorem dX11_laySteps_136 : decode cX11_laySteps 136 = .ok (.iload_n 3, 1) := by decide +kernel
theorem dX11_laySteps_137 : decode cX11_laySteps 137 = .ok (.iaload, 1) := by decide +kernel
theorem dX11_laySteps_138 : decode cX11_laySteps 138 = .ok (.if_icmp .lt 6, 3) := by decide +kernel
theorem dX11_laySteps_141 : decode cX11_laySteps 141 = .ok (.goto 20, 3) := by decide +kernel
theorem dX11_laySteps_144 : decode cX11_laySteps 144 = .ok (.aload_n 0, 1) := by decide +kernel
theorem dX11_laySteps_145 : decode cX11_laySteps 145 = .ok (.getfield 145, 3) := by decide +kernel
theorem dX11_laySteps_148 : decode cX11_laySteps 148 = .ok (.iload_n 3, 1) := by decide +kernel
theorem dX11_laySteps_149 : decode cX11_laySteps 149 = .ok (.aload_n 0, 1) := by decide +kernel
theorem dX11_laySteps_150 : decode cX11_laySteps 150 = .ok (.getfield 145, 3) := by decide +kernel
theorem dX11_laySteps_153 : decode cX11_laySteps 153 = .ok (.iload 4, 2) := by decide +kernel
theorem dX11_laySteps_155 : decode cX11_laySteps 155 = .ok (.iaload, 1) := by decide +kernel
theorem dX11_laySteps_156 : decode cX11_laySteps 156 = .ok (.iconst 1, 1) := by decide +kernel
theorem dX11_laySteps_157 : decode cX11_laySteps 157 = .ok (.iadd, 1) := by decide +kernel
theorem dX11_laySteps_158 : decode cX11_laySteps 158 = .ok (.iastore, 1) := by decide +kernel
theorem dX11_laySteps_159 : decode cX11_laySteps 159 = .ok (.iconst 1, 1) := by decide +kernel
theorem dX11_laySteps_160 : decode cX11_laySteps 160 = .ok (.istore_n 2, 1) := by decide +kernel
theorem dX11_laySteps_161 : decode cX11_laySteps 161 = .ok (.iinc 4 1, 3) := by decide +kernel
theorem dX11_laySteps_164 : decode cX11_laySteps 164 = .ok (.goto (-94), 3) := by decide +kernel
theorem dX11_laySteps_167 : decode cX11_laySteps 167 = .ok (.iinc 3 1, 3) := by decide +kernel
theorem dX11_laySteps_170 : decode cX11_laySteps 170 = .ok (.goto (-131), 3) := by decide +kernel
theorem dX11_laySteps_173 : decode cX11_laySteps 173 = .ok (.goto (-142), 3) := by decide +kernel
theorem dX11_laySteps_176 : decode cX11_laySteps 176 = .ok (.return_, 1) := by decide +kernel
theorem dX11_layOrder_0 : decode cX11_layOrder 0 = .ok (.iconst 1, 1) := by decide +kernel
theorem dX11_layOrder_1 : decode cX11_layOrder 1 = .ok (.istore_n 3, 1) := by decide +kernel
theorem dX11_layOrder_2 : decode cX11_layOrder 2 = .ok (.iconst 2, 1) := by decide +kernel
theorem dX11_layOrder_3 : decode cX11_layOrder 3 = .ok (.istore 4, 2) := by decide +kernel
theorem dX11_layOrder_5 : decode cX11_layOrder 5 = .ok (.iload 4, 2) := by decide +kernel
theorem dX11_layOrder_7 : decode cX11_layOrder 7 = .ok (.iload_n 1, 1) := by decide +kernel
theorem dX11_layOrder_8 : decode cX11_layOrder 8 = .ok (.if_icmp .gt 14, 3) := by decide +kernel
theorem dX11_layOrder_11 : decode cX11_layOrder 11 = .ok (.iload_n 3, 1) := by decide +kernel
theorem dX11_layOrder_12 : decode cX11_layOrder 12 = .ok (.iload 4, 2) := by decide +kernel
theorem dX11_layOrder_14 : decode cX11_layOrder 14 = .ok (.imul, 1) := by decide +kernel
theorem dX11_layOrder_15 : decode cX11_layOrder 15 = .ok (.istore_n 3, 1) := by decide +kernel
theorem dX11_layOrder_16 : decode cX11_layOrder 16 = .ok (.iinc 4 1, 3) := by decide +kernel
theorem dX11_layOrder_19 : decode cX11_layOrder 19 = .ok (.goto (-14), 3) := by decide +kernel
theorem dX11_layOrder_22 : decode cX11_layOrder 22 = .ok (.iload_n 2, 1) := by decide +kernel
theorem dX11_layOrder_23 : decode cX11_layOrder 23 = .ok (.iload_n 3, 1) := by decide +kernel
theorem dX11_layOrder_24 : decode cX11_layOrder 24 = .ok (.if_icmp .lt 5, 3) := by decide +kernel
theorem dX11_layOrder_27 : decode cX11_layOrder 27 = .ok (.iconst 0, 1) := by decide +kernel
theorem dX11_layOrder_28 : decode cX11_layOrder 28 = .ok (.ireturn, 1) := by decide +kernel
theorem dX11_layOrder_29 : decode cX11_layOrder 29 = .ok (.iconst 1, 1) := by decide +kernel
theorem dX11_layOrder_30 : decode cX11_layOrder 30 = .ok (.iload_n 1, 1) := by decide +kernel
theorem dX11_layOrder_31 : decode cX11_layOrder 31 = .ok (.ishl, 1) := by decide +kernel
theorem dX11_layOrder_32 : decode cX11_layOrder 32 = .ok (.iconst 1, 1) := by decide +kernel
theorem dX11_layOrder_33 : decode cX11_layOrder 33 = .ok (.isub, 1) := by decide +kernel
theorem dX11_layOrder_34 : decode cX11_layOrder 34 = .ok (.istore 4, 2) := by decide +kernel
theorem dX11_layOrder_36 : decode cX11_layOrder 36 = .ok (.iload_n 2, 1) := by decide +kernel
theorem dX11_layOrder_37 : decode cX11_layOrder 37 = .ok (.istore 5, 2) := by decide +kernel
theorem dX11_layOrder_39 : decode cX11_layOrder 39 = .ok (.iconst 0, 1) := by decide +kernel
theorem dX11_layOrder_40 : decode cX11_layOrder 40 = .ok (.istore 6, 2) := by decide +kernel
theorem dX11_layOrder_42 : decode cX11_layOrder 42 = .ok (.iload 6, 2) := by decide +kernel
theorem dX11_layOrder_44 : decode cX11_layOrder 44 = .ok (.iload_n 1, 1) := by decide +kernel
theorem dX11_layOrder_45 : decode cX11_layOrder 45 = .ok (.if_icmp .ge 94, 3) := by decide +kernel
theorem dX11_layOrder_48 : decode cX11_layOrder 48 = .ok (.iload_n 3, 1) := by decide +kernel
theorem dX11_layOrder_49 : decode cX11_layOrder 49 = .ok (.iload_n 1, 1) := by decide +kernel
theorem dX11_layOrder_50 : decode cX11_layOrder 50 = .ok (.iload 6, 2) := by decide +kernel
theorem dX11_layOrder_52 : decode cX11_layOrder 52 = .ok (.isub, 1) := by decide +kernel
theorem dX11_layOrder_53 : decode cX11_layOrder 53 = .ok (.idiv, 1) := by decide +kernel
theorem dX11_layOrder_54 : decode cX11_layOrder 54 = .ok (.istore_n 3, 1) := by decide +kernel
theorem dX11_layOrder_55 : decode cX11_layOrder 55 = .ok (.iload 5, 2) := by decide +kernel
theorem dX11_layOrder_57 : decode cX11_layOrder 57 = .ok (.iload_n 3, 1) := by decide +kernel
theorem dX11_layOrder_58 : decode cX11_layOrder 58 = .ok (.idiv, 1) := by decide +kernel
theorem dX11_layOrder_59 : decode cX11_layOrder 59 = .ok (.istore 7, 2) := by decide +kernel
theorem dX11_layOrder_61 : decode cX11_layOrder 61 = .ok (.iload 5, 2) := by decide +kernel
theorem dX11_layOrder_63 : decode cX11_layOrder 63 = .ok (.iload_n 3, 1) := by decide +kernel
theorem dX11_layOrder_64 : decode cX11_layOrder 64 = .ok (.irem, 1) := by decide +kernel
theorem dX11_layOrder_65 : decode cX11_layOrder 65 = .ok (.istore 5, 2) := by decide +kernel
theorem dX11_layOrder_67 : decode cX11_layOrder 67 = .ok (.iconst 0, 1) := by decide +kernel
theorem dX11_layOrder_68 : decode cX11_layOrder 68 = .ok (.istore 8, 2) := by decide +kernel
theorem dX11_layOrder_70 : decode cX11_layOrder 70 = .ok (.aload_n 0, 1) := by decide +kernel
theorem dX11_layOrder_71 : decode cX11_layOrder 71 = .ok (.iload 4, 2) := by decide +kernel
theorem dX11_layOrder_73 : decode cX11_layOrder 73 = .ok (.iload 8, 2) := by decide +kernel
theorem dX11_layOrder_75 : decode cX11_layOrder 75 = .ok (.invokevirtual 323, 3) := by decide +kernel
theorem dX11_layOrder_78 : decode cX11_layOrder 78 = .ok (.ifCond .eq 8, 3) := by decide +kernel
theorem dX11_layOrder_81 : decode cX11_layOrder 81 = .ok (.iload 7, 2) := by decide +kernel
theorem dX11_layOrder_83 : decode cX11_layOrder 83 = .ok (.ifCond .le 30, 3) := by decide +kernel
theorem dX11_layOrder_86 : decode cX11_layOrder 86 = .ok (.iload 7, 2) := by decide +kernel
theorem dX11_layOrder_88 : decode cX11_layOrder 88 = .ok (.aload_n 0, 1) := by decide +kernel
theorem dX11_layOrder_89 : decode cX11_layOrder 89 = .ok (.iload 4, 2) := by decide +kernel
theorem dX11_layOrder_91 : decode cX11_layOrder 91 = .ok (.iload 8, 2) := by decide +kernel
theorem dX11_layOrder_93 : decode cX11_layOrder 93 = .ok (.invokevirtual 323, 3) := by decide +kernel
theorem dX11_layOrder_96 : decode cX11_layOrder 96 = .ok (.ifCond .eq 7, 3) := by decide +kernel
theorem dX11_layOrder_99 : decode cX11_layOrder 99 = .ok (.iconst 1, 1) := by decide +kernel
theorem dX11_layOrder_100 : decode cX11_layOrder 100 = .ok (.goto 4, 3) := by decide +kernel
theorem dX11_layOrder_103 : decode cX11_layOrder 103 = .ok (.iconst 0, 1) := by decide +kernel
theorem dX11_layOrder_104 : decode cX11_layOrder 104 = .ok (.isub, 1) := by decide +kernel
theorem dX11_layOrder_105 : decode cX11_layOrder 105 = .ok (.istore 7, 2) := by decide +kernel
theorem dX11_layOrder_107 : decode cX11_layOrder 107 = .ok (.iinc 8 1, 3) := by decide +kernel
theorem dX11_layOrder_110 : decode cX11_layOrder 110 = .ok (.goto (-40), 3) := by decide +kernel
theorem dX11_layOrder_113 : decode cX11_layOrder 113 = .ok (.aload_n 0, 1) := by decide +kernel
theorem dX11_layOrder_114 : decode cX11_layOrder 114 = .ok (.getfield 151, 3) := by decide +kernel
theorem dX11_layOrder_117 : decode cX11_layOrder 117 = .ok (.iload 6, 2) := by decide +kernel
theorem dX11_layOrder_119 : decode cX11_layOrder 119 = .ok (.iload 8, 2) := by decide +kernel
theorem dX11_layOrder_121 : decode cX11_layOrder 121 = .ok (.iastore, 1) := by decide +kernel
theorem dX11_layOrder_122 : decode cX11_layOrder 122 = .ok (.iload 4, 2) := by decide +kernel
theorem dX11_layOrder_124 : decode cX11_layOrder 124 = .ok (.iconst 1, 1) := by decide +kernel
theorem dX11_layOrder_125 : decode cX11_layOrder 125 = .ok (.iload 8, 2) := by decide +kernel
theorem dX11_layOrder_127 : decode cX11_layOrder 127 = .ok (.ishl, 1) := by decide +kernel
theorem dX11_layOrder_128 : decode cX11_layOrder 128 = .ok (.iconst (-1), 1) := by decide +kernel
theorem dX11_layOrder_129 : decode cX11_layOrder 129 = .ok (.ixor, 1) := by decide +kernel
theorem dX11_layOrder_130 : decode cX11_layOrder 130 = .ok (.iand, 1) := by decide +kernel
theorem dX11_layOrder_131 : decode cX11_layOrder 131 = .ok (.istore 4, 2) := by decide +kernel
theorem dX11_layOrder_133 : decode cX11_layOrder 133 = .ok (.iinc 6 1, 3) := by decide +kernel
theorem dX11_layOrder_136 : decode cX11_layOrder 136 = .ok (.goto (-94), 3) := by decide +kernel
theorem dX11_layOrder_139 : decode cX11_layOrder 139 = .ok (.iconst 1, 1) := by decide +kernel
theorem dX11_layOrder_140 : decode cX11_layOrder 140 = .ok (.ireturn, 1) := by decide +kernel
theorem dX11_reach_0 : decode cX11_reach 0 = .ok (.aload_n 0, 1) := by decide +kernel
theorem dX11_reach_1 : decode cX11_reach 1 = .ok (.aload_n 0, 1) := by decide +kernel
theorem dX11_reach_2 : decode cX11_reach 2 = .ok (.invokevirtual 238, 3) := by decide +kernel
theorem dX11_reach_5 : decode cX11_reach 5 = .ok (.invokevirtual 242, 3) := by decide +kernel
theorem dX11_reach_8 : decode cX11_reach 8 = .ok (.istore_n 1, 1) := by decide +kernel
theorem dX11_reach_9 : decode cX11_reach 9 = .ok (.iload_n 1, 1) := by decide +kernel
theorem dX11_reach_10 : decode cX11_reach 10 = .ok (.iconst 5, 1) := by decide +kernel
theorem dX11_reach_11 : decode cX11_reach 11 = .ok (.if_icmp .le 6, 3) := by decide +kernel
theorem dX11_reach_14 : decode cX11_reach 14 = .ok (.bipush (-9), 2) := by decide +kernel
theorem dX11_reach_16 : decode cX11_reach 16 = .ok (.ireturn, 1) := by decide +kernel
theorem dX11_reach_17 : decode cX11_reach 17 = .ok (.iload_n 1, 1) := by decide +kernel
theorem dX11_reach_18 : decode cX11_reach 18 = .ok (.aload_n 0, 1) := by decide +kernel
theorem dX11_reach_19 : decode cX11_reach 19 = .ok (.getfield 139, 3) := by decide +kernel
theorem dX11_reach_22 : decode cX11_reach 22 = .ok (.if_icmp .eq 6, 3) := by decide +kernel
theorem dX11_reach_25 : decode cX11_reach 25 = .ok (.bipush (-5), 2) := by decide +kernel
theorem dX11_reach_27 : decode cX11_reach 27 = .ok (.ireturn, 1) := by decide +kernel
theorem dX11_reach_28 : decode cX11_reach 28 = .ok (.iconst 0, 1) := by decide +kernel
theorem dX11_reach_29 : decode cX11_reach 29 = .ok (.istore_n 2, 1) := by decide +kernel
theorem dX11_reach_30 : decode cX11_reach 30 = .ok (.iconst 0, 1) := by decide +kernel
theorem dX11_reach_31 : decode cX11_reach 31 = .ok (.istore_n 3, 1) := by decide +kernel
theorem dX11_reach_32 : decode cX11_reach 32 = .ok (.iload_n 3, 1) := by decide +kernel
theorem dX11_reach_33 : decode cX11_reach 33 = .ok (.aload_n 0, 1) := by decide +kernel
theorem dX11_reach_34 : decode cX11_reach 34 = .ok (.getfield 13, 3) := by decide +kernel
theorem dX11_reach_37 : decode cX11_reach 37 = .ok (.aload_n 0, 1) := by decide +kernel
theorem dX11_reach_38 : decode cX11_reach 38 = .ok (.getfield 13, 3) := by decide +kernel
theorem dX11_reach_41 : decode cX11_reach 41 = .ok (.imul, 1) := by decide +kernel
theorem dX11_reach_42 : decode cX11_reach 42 = .ok (.if_icmp .ge 67, 3) := by decide +kernel
theorem dX11_reach_45 : decode cX11_reach 45 = .ok (.aload_n 0, 1) := by decide +kernel
theorem dX11_reach_46 : decode cX11_reach 46 = .ok (.getfield 36, 3) := by decide +kernel
theorem dX11_reach_49 : decode cX11_reach 49 = .ok (.iload_n 3, 1) := by decide +kernel
theorem dX11_reach_50 : decode cX11_reach 50 = .ok (.iaload, 1) := by decide +kernel
theorem dX11_reach_51 : decode cX11_reach 51 = .ok (.ifCond .ge 6, 3) := by decide +kernel
theorem dX11_reach_54 : decode cX11_reach 54 = .ok (.goto 49, 3) := by decide +kernel
theorem dX11_reach_57 : decode cX11_reach 57 = .ok (.aload_n 0, 1) := by decide +kernel
theorem dX11_reach_58 : decode cX11_reach 58 = .ok (.iload_n 3, 1) := by decide +kernel
theorem dX11_reach_59 : decode cX11_reach 59 = .ok (.invokevirtual 405, 3) := by decide +kernel
theorem dX11_reach_62 : decode cX11_reach 62 = .ok (.iconst 0, 1) := by decide +kernel
theorem dX11_reach_63 : decode cX11_reach 63 = .ok (.istore 4, 2) := by decide +kernel
theorem dX11_reach_65 : decode cX11_reach 65 = .ok (.iload 4, 2) := by decide +kernel
theorem dX11_reach_67 : decode cX11_reach 67 = .ok (.iload_n 1, 1) := by decide +kernel
theorem dX11_reach_68 : decode cX11_reach 68 = .ok (.if_icmp .ge 32, 3) := by decide +kernel
theorem dX11_reach_71 : decode cX11_reach 71 = .ok (.aload_n 0, 1) := by decide +kernel
theorem dX11_reach_72 : decode cX11_reach 72 = .ok (.getfield 148, 3) := by decide +kernel
theorem dX11_reach_75 : decode cX11_reach 75 = .ok (.iconst 5, 1) := by decide +kernel
theorem dX11_reach_76 : decode cX11_reach 76 = .ok (.iload_n 2, 1) := by decide +kernel
theorem dX11_reach_77 : decode cX11_reach 77 = .ok (.imul, 1) := by decide +kernel
theorem dX11_reach_78 : decode cX11_reach 78 = .ok (.iload 4, 2) := by decide +kernel
theorem dX11_reach_80 : decode cX11_reach 80 = .ok (.iadd, 1) := by decide +kernel
theorem dX11_reach_81 : decode cX11_reach 81 = .ok (.aload_n 0, 1) := by decide +kernel
theorem dX11_reach_82 : decode cX11_reach 82 = .ok (.getfield 145, 3) := by decide +kernel
theorem dX11_reach_85 : decode cX11_reach 85 = .ok (.aload_n 0, 1) := by decide +kernel
theorem dX11_reach_86 : decode cX11_reach 86 = .ok (.getfield 142, 3) := by decide +kernel
theorem dX11_reach_89 : decode cX11_reach 89 = .ok (.iload 4, 2) := by decide +kernel
theorem dX11_reach_91 : decode cX11_reach 91 = .ok (.iaload, 1) := by decide +kernel
theorem dX11_reach_92 : decode cX11_reach 92 = .ok (.iaload, 1) := by decide +kernel
theorem dX11_reach_93 : decode cX11_reach 93 = .ok (.iastore, 1) := by decide +kernel
theorem dX11_reach_94 : decode cX11_reach 94 = .ok (.iinc 4 1, 3) := by decide +kernel
theorem dX11_reach_97 : decode cX11_reach 97 = .ok (.goto (-32), 3) := by decide +kernel
theorem dX11_reach_100 : decode cX11_reach 100 = .ok (.iinc 2 1, 3) := by decide +kernel
theorem dX11_reach_103 : decode cX11_reach 103 = .ok (.iinc 3 1, 3) := by decide +kernel
theorem dX11_reach_106 : decode cX11_reach 106 = .ok (.goto (-74), 3) := by decide +kernel
theorem dX11_reach_109 : decode cX11_reach 109 = .ok (.bipush 99, 2) := by decide +kernel
theorem dX11_reach_111 : decode cX11_reach 111 = .ok (.istore_n 3, 1) := by decide +kernel
theorem dX11_reach_112 : decode cX11_reach 112 = .ok (.iconst 0, 1) := by decide +kernel
theorem dX11_reach_113 : decode cX11_reach 113 = .ok (.istore 4, 2) := by decide +kernel
theorem dX11_reach_115 : decode cX11_reach 115 = .ok (.aload_n 0, 1) := by decide +kernel
theorem dX11_reach_116 : decode cX11_reach 116 = .ok (.iload_n 1, 1) := by decide +kernel
theorem dX11_reach_117 : decode cX11_reach 117 = .ok (.iload 4, 2) := by decide +kernel
theorem dX11_reach_119 : decode cX11_reach 119 = .ok (.invokevirtual 408, 3) := by decide +kernel
theorem dX11_reach_122 : decode cX11_reach 122 = .ok (.ifCond .eq 62, 3) := by decide +kernel
theorem dX11_reach_125 : decode cX11_reach 125 = .ok (.iconst 0, 1) := by decide +kernel
theorem dX11_reach_126 : decode cX11_reach 126 = .ok (.istore 5, 2) := by decide +kernel
theorem dX11_reach_128 : decode cX11_reach 128 = .ok (.iconst 0, 1) := by decide +kernel
theorem dX11_reach_129 : decode cX11_reach 129 = .ok (.istore 6, 2) := by decide +kernel
theorem dX11_reach_131 : decode cX11_reach 131 = .ok (.iload 6, 2) := by decide +kernel
theorem dX11_reach_133 : decode cX11_reach 133 = .ok (.iload_n 1, 1) := by decide +kernel
theorem dX11_reach_134 : decode cX11_reach 134 = .ok (.if_icmp .ge 31, 3) := by decide +kernel
theorem dX11_reach_137 : decode cX11_reach 137 = .ok (.iload 5, 2) := by decide +kernel
theorem dX11_reach_139 : decode cX11_reach 139 = .ok (.aload_n 0, 1) := by decide +kernel
theorem dX11_reach_140 : decode cX11_reach 140 = .ok (.getfield 148, 3) := by decide +kernel
theorem dX11_reach_143 : decode cX11_reach 143 = .ok (.iconst 5, 1) := by decide +kernel
theorem dX11_reach_144 : decode cX11_reach 144 = .ok (.iload 6, 2) := by decide +kernel
theorem dX11_reach_146 : decode cX11_reach 146 = .ok (.imul, 1) := by decide +kernel
theorem dX11_reach_147 : decode cX11_reach 147 = .ok (.aload_n 0, 1) := by decide +kernel
theorem dX11_reach_148 : decode cX11_reach 148 = .ok (.getfield 151, 3) := by decide +kernel
theorem dX11_reach_151 : decode cX11_reach 151 = .ok (.iload 6, 2) := by decide +kernel
theorem dX11_reach_153 : decode cX11_reach 153 = .ok (.iaload, 1) := by decide +kernel
theorem dX11_reach_154 : decode cX11_reach 154 = .ok (.iadd, 1) := by decide +kernel
theorem dX11_reach_155 : decode cX11_reach 155 = .ok (.iaload, 1) := by decide +kernel
theorem dX11_reach_156 : decode cX11_reach 156 = .ok (.iadd, 1) := by decide +kernel
theorem dX11_reach_157 : decode cX11_reach 157 = .ok (.istore 5, 2) := by decide +kernel
theorem dX11_reach_159 : decode cX11_reach 159 = .ok (.iinc 6 1, 3) := by decide +kernel
theorem dX11_reach_162 : decode cX11_reach 162 = .ok (.goto (-31), 3) := by decide +kernel
theorem dX11_reach_165 : decode cX11_reach 165 = .ok (.iload 5, 2) := by decide +kernel
theorem dX11_reach_167 : decode cX11_reach 167 = .ok (.iload_n 3, 1) := by decide +kernel
theorem dX11_reach_168 : decode cX11_reach 168 = .ok (.if_icmp .ge 8, 3) := by decide +kernel
theorem dX11_reach_171 : decode cX11_reach 171 = .ok (.iload 5, 2) := by decide +kernel
theorem dX11_reach_173 : decode cX11_reach 173 = .ok (.goto 4, 3) := by decide +kernel
theorem dX11_reach_176 : decode cX11_reach 176 = .ok (.iload_n 3, 1) := by decide +kernel
theorem dX11_reach_177 : decode cX11_reach 177 = .ok (.istore_n 3, 1) := by decide +kernel
theorem dX11_reach_178 : decode cX11_reach 178 = .ok (.iinc 4 1, 3) := by decide +kernel
theorem dX11_reach_181 : decode cX11_reach 181 = .ok (.goto (-66), 3) := by decide +kernel
theorem dX11_reach_184 : decode cX11_reach 184 = .ok (.iload_n 3, 1) := by decide +kernel
theorem dX11_reach_185 : decode cX11_reach 185 = .ok (.bipush 99, 2) := by decide +kernel
theorem dX11_reach_187 : decode cX11_reach 187 = .ok (.if_icmp .ne 8, 3) := by decide +kernel
theorem dX11_reach_190 : decode cX11_reach 190 = .ok (.bipush (-5), 2) := by decide +kernel
theorem dX11_reach_192 : decode cX11_reach 192 = .ok (.goto 4, 3) := by decide +kernel
theorem dX11_reach_195 : decode cX11_reach 195 = .ok (.iload_n 3, 1) := by decide +kernel
theorem dX11_reach_196 : decode cX11_reach 196 = .ok (.ireturn, 1) := by decide +kernel
theorem dX11_see_0 : decode cX11_see 0 = .ok (.iload_n 1, 1) := by decide +kernel
theorem dX11_see_1 : decode cX11_see 1 = .ok (.iconst (-1), 1) := by decide +kernel
theorem dX11_see_2 : decode cX11_see 2 = .ok (.if_icmp .ne 10, 3) := by decide +kernel
theorem dX11_see_5 : decode cX11_see 5 = .ok (.aload_n 0, 1) := by decide +kernel
theorem dX11_see_6 : decode cX11_see 6 = .ok (.iconst 0, 1) := by decide +kernel
theorem dX11_see_7 : decode cX11_see 7 = .ok (.putfield 154, 3) := by decide +kernel
theorem dX11_see_10 : decode cX11_see 10 = .ok (.iconst 0, 1) := by decide +kernel
theorem dX11_see_11 : decode cX11_see 11 = .ok (.ireturn, 1) := by decide +kernel
theorem dX11_see_12 : decode cX11_see 12 = .ok (.aload_n 0, 1) := by decide +kernel
theorem dX11_see_13 : decode cX11_see 13 = .ok (.iload_n 1, 1) := by decide +kernel
theorem dX11_see_14 : decode cX11_see 14 = .ok (.invokevirtual 341, 3) := by decide +kernel
theorem dX11_see_17 : decode cX11_see 17 = .ok (.ifCond .ne 5, 3) := by decide +kernel
theorem dX11_see_20 : decode cX11_see 20 = .ok (.iconst (-1), 1) := by decide +kernel
theorem dX11_see_21 : decode cX11_see 21 = .ok (.ireturn, 1) := by decide +kernel
theorem dX11_see_22 : decode cX11_see 22 = .ok (.aload_n 0, 1) := by decide +kernel
theorem dX11_see_23 : decode cX11_see 23 = .ok (.iload_n 2, 1) := by decide +kernel
theorem dX11_see_24 : decode cX11_see 24 = .ok (.iconst 0, 1) := by decide +kernel
theorem dX11_see_25 : decode cX11_see 25 = .ok (.bipush 25, 2) := by decide +kernel
theorem dX11_see_27 : decode cX11_see 27 = .ok (.invokevirtual 230, 3) := by decide +kernel
theorem dX11_see_30 : decode cX11_see 30 = .ok (.ifCond .ne 6, 3) := by decide +kernel
theorem dX11_see_33 : decode cX11_see 33 = .ok (.bipush (-2), 2) := by decide +kernel
theorem dX11_see_35 : decode cX11_see 35 = .ok (.ireturn, 1) := by decide +kernel
theorem dX11_see_36 : decode cX11_see 36 = .ok (.aload_n 0, 1) := by decide +kernel
theorem dX11_see_37 : decode cX11_see 37 = .ok (.getfield 154, 3) := by decide +kernel
theorem dX11_see_40 : decode cX11_see 40 = .ok (.bipush 8, 2) := by decide +kernel
theorem dX11_see_42 : decode cX11_see 42 = .ok (.if_icmp .ne 6, 3) := by decide +kernel
theorem dX11_see_45 : decode cX11_see 45 = .ok (.bipush (-4), 2) := by decide +kernel
theorem dX11_see_47 : decode cX11_see 47 = .ok (.ireturn, 1) := by decide +kernel
theorem dX11_see_48 : decode cX11_see 48 = .ok (.aload_n 0, 1) := by decide +kernel
theorem dX11_see_49 : decode cX11_see 49 = .ok (.getfield 157, 3) := by decide +kernel
theorem dX11_see_52 : decode cX11_see 52 = .ok (.aload_n 0, 1) := by decide +kernel
theorem dX11_see_53 : decode cX11_see 53 = .ok (.getfield 154, 3) := by decide +kernel
theorem dX11_see_56 : decode cX11_see 56 = .ok (.iload_n 1, 1) := by decide +kernel
theorem dX11_see_57 : decode cX11_see 57 = .ok (.iastore, 1) := by decide +kernel
theorem dX11_see_58 : decode cX11_see 58 = .ok (.aload_n 0, 1) := by decide +kernel
theorem dX11_see_59 : decode cX11_see 59 = .ok (.getfield 160, 3) := by decide +kernel
theorem dX11_see_62 : decode cX11_see 62 = .ok (.aload_n 0, 1) := by decide +kernel
theorem dX11_see_63 : decode cX11_see 63 = .ok (.getfield 154, 3) := by decide +kernel
theorem dX11_see_66 : decode cX11_see 66 = .ok (.iload_n 2, 1) := by decide +kernel
theorem dX11_see_67 : decode cX11_see 67 = .ok (.iastore, 1) := by decide +kernel
theorem dX11_see_68 : decode cX11_see 68 = .ok (.aload_n 0, 1) := by decide +kernel
theorem dX11_see_69 : decode cX11_see 69 = .ok (.dup, 1) := by decide +kernel
theorem dX11_see_70 : decode cX11_see 70 = .ok (.getfield 154, 3) := by decide +kernel
theorem dX11_see_73 : decode cX11_see 73 = .ok (.iconst 1, 1) := by decide +kernel
theorem dX11_see_74 : decode cX11_see 74 = .ok (.iadd, 1) := by decide +kernel
theorem dX11_see_75 : decode cX11_see 75 = .ok (.putfield 154, 3) := by decide +kernel
theorem dX11_see_78 : decode cX11_see 78 = .ok (.aload_n 0, 1) := by decide +kernel
theorem dX11_see_79 : decode cX11_see 79 = .ok (.getfield 154, 3) := by decide +kernel
theorem dX11_see_82 : decode cX11_see 82 = .ok (.ireturn, 1) := by decide +kernel
theorem dX11_isSeen_0 : decode cX11_isSeen 0 = .ok (.iconst 0, 1) := by decide +kernel
theorem dX11_isSeen_1 : decode cX11_isSeen 1 = .ok (.istore_n 1, 1) := by decide +kernel
theorem dX11_isSeen_2 : decode cX11_isSeen 2 = .ok (.iload_n 1, 1) := by decide +kernel
theorem dX11_isSeen_3 : decode cX11_isSeen 3 = .ok (.aload_n 0, 1) := by decide +kernel
theorem dX11_isSeen_4 : decode cX11_isSeen 4 = .ok (.getfield 154, 3) := by decide +kernel
theorem dX11_isSeen_7 : decode cX11_isSeen 7 = .ok (.if_icmp .ge 34, 3) := by decide +kernel
theorem dX11_isSeen_10 : decode cX11_isSeen 10 = .ok (.aload_n 0, 1) := by decide +kernel
theorem dX11_isSeen_11 : decode cX11_isSeen 11 = .ok (.aload_n 0, 1) := by decide +kernel
theorem dX11_isSeen_12 : decode cX11_isSeen 12 = .ok (.aload_n 0, 1) := by decide +kernel
theorem dX11_isSeen_13 : decode cX11_isSeen 13 = .ok (.getfield 157, 3) := by decide +kernel
theorem dX11_isSeen_16 : decode cX11_isSeen 16 = .ok (.iload_n 1, 1) := by decide +kernel
theorem dX11_isSeen_17 : decode cX11_isSeen 17 = .ok (.iaload, 1) := by decide +kernel
theorem dX11_isSeen_18 : decode cX11_isSeen 18 = .ok (.invokevirtual 347, 3) := by decide +kernel
theorem dX11_isSeen_21 : decode cX11_isSeen 21 = .ok (.invokevirtual 242, 3) := by decide +kernel
theorem dX11_isSeen_24 : decode cX11_isSeen 24 = .ok (.aload_n 0, 1) := by decide +kernel
theorem dX11_isSeen_25 : decode cX11_isSeen 25 = .ok (.getfield 160, 3) := by decide +kernel
theorem dX11_isSeen_28 : decode cX11_isSeen 28 = .ok (.iload_n 1, 1) := by decide +kernel
theorem dX11_isSeen_29 : decode cX11_isSeen 29 = .ok (.iaload, 1) := by decide +kernel
theorem dX11_isSeen_30 : decode cX11_isSeen 30 = .ok (.if_icmp .eq 5, 3) := by decide +kernel
theorem dX11_isSeen_33 : decode cX11_isSeen 33 = .ok (.iconst 0, 1) := by decide +kernel
theorem dX11_isSeen_34 : decode cX11_isSeen 34 = .ok (.ireturn, 1) := by decide +kernel
theorem dX11_isSeen_35 : decode cX11_isSeen 35 = .ok (.iinc 1 1, 3) := by decide +kernel
theorem dX11_isSeen_38 : decode cX11_isSeen 38 = .ok (.goto (-36), 3) := by decide +kernel
theorem dX11_isSeen_41 : decode cX11_isSeen 41 = .ok (.iconst 1, 1) := by decide +kernel
theorem dX11_isSeen_42 : decode cX11_isSeen 42 = .ok (.ireturn, 1) := by decide +kernel
theorem dX11_rubbed_0 : decode cX11_rubbed 0 = .ok (.aload_n 0, 1) := by decide +kernel
theorem dX11_rubbed_1 : decode cX11_rubbed 1 = .ok (.iload_n 1, 1) := by decide +kernel
theorem dX11_rubbed_2 : decode cX11_rubbed 2 = .ok (.invokevirtual 234, 3) := by decide +kernel
theorem dX11_rubbed_5 : decode cX11_rubbed 5 = .ok (.ifCond .ne 5, 3) := by decide +kernel
theorem dX11_rubbed_8 : decode cX11_rubbed 8 = .ok (.iconst (-1), 1) := by decide +kernel
theorem dX11_rubbed_9 : decode cX11_rubbed 9 = .ok (.ireturn, 1) := by decide +kernel
theorem dX11_rubbed_10 : decode cX11_rubbed 10 = .ok (.iconst 0, 1) := by decide +kernel
theorem dX11_rubbed_11 : decode cX11_rubbed 11 = .ok (.istore_n 2, 1) := by decide +kernel
theorem dX11_rubbed_12 : decode cX11_rubbed 12 = .ok (.iconst 0, 1) := by decide +kernel
theorem dX11_rubbed_13 : decode cX11_rubbed 13 = .ok (.istore_n 3, 1) := by decide +kernel
theorem dX11_rubbed_14 : decode cX11_rubbed 14 = .ok (.iload_n 3, 1) := by decide +kernel
theorem dX11_rubbed_15 : decode cX11_rubbed 15 = .ok (.aload_n 0, 1) := by decide +kernel
theorem dX11_rubbed_16 : decode cX11_rubbed 16 = .ok (.getfield 13, 3) := by decide +kernel
theorem dX11_rubbed_19 : decode cX11_rubbed 19 = .ok (.aload_n 0, 1) := by decide +kernel
theorem dX11_rubbed_20 : decode cX11_rubbed 20 = .ok (.getfield 13, 3) := by decide +kernel
theorem dX11_rubbed_23 : decode cX11_rubbed 23 = .ok (.imul, 1) := by decide +kernel
theorem dX11_rubbed_24 : decode cX11_rubbed 24 = .ok (.if_icmp .ge 51, 3) := by decide +kernel
theorem dX11_rubbed_27 : decode cX11_rubbed 27 = .ok (.aload_n 0, 1) := by decide +kernel
theorem dX11_rubbed_28 : decode cX11_rubbed 28 = .ok (.iload_n 3, 1) := by decide +kernel
theorem dX11_rubbed_29 : decode cX11_rubbed 29 = .ok (.invokevirtual 356, 3) := by decide +kernel
theorem dX11_rubbed_32 : decode cX11_rubbed 32 = .ok (.ifCond .ne 6, 3) := by decide +kernel
theorem dX11_rubbed_35 : decode cX11_rubbed 35 = .ok (.goto 34, 3) := by decide +kernel
theorem dX11_rubbed_38 : decode cX11_rubbed 38 = .ok (.aload_n 0, 1) := by decide +kernel
theorem dX11_rubbed_39 : decode cX11_rubbed 39 = .ok (.getfield 36, 3) := by decide +kernel
theorem dX11_rubbed_42 : decode cX11_rubbed 42 = .ok (.iload_n 3, 1) := by decide +kernel
theorem dX11_rubbed_43 : decode cX11_rubbed 43 = .ok (.iload_n 1, 1) := by decide +kernel
theorem dX11_rubbed_44 : decode cX11_rubbed 44 = .ok (.iastore, 1) := by decide +kernel
theorem dX11_rubbed_45 : decode cX11_rubbed 45 = .ok (.iload_n 2, 1) := by decide +kernel
theorem dX11_rubbed_46 : decode cX11_rubbed 46 = .ok (.aload_n 0, 1) := by decide +kernel
theorem dX11_rubbed_47 : decode cX11_rubbed 47 = .ok (.invokevirtual 411, 3) := by decide +kernel
theorem dX11_rubbed_50 : decode cX11_rubbed 50 = .ok (.ifCond .eq 9, 3) := by decide +kernel
theorem dX11_rubbed_53 : decode cX11_rubbed 53 = .ok (.iconst 1, 1) := by decide +kernel
theorem dX11_rubbed_54 : decode cX11_rubbed 54 = .ok (.iload_n 3, 1) := by decide +kernel
theorem dX11_rubbed_55 : decode cX11_rubbed 55 = .ok (.ishl, 1) := by decide +kernel
theorem dX11_rubbed_56 : decode cX11_rubbed 56 = .ok (.goto 4, 3) := by decide +kernel
theorem dX11_rubbed_59 : decode cX11_rubbed 59 = .ok (.iconst 0, 1) := by decide +kernel
theorem dX11_rubbed_60 : decode cX11_rubbed 60 = .ok (.ior, 1) := by decide +kernel
theorem dX11_rubbed_61 : decode cX11_rubbed 61 = .ok (.istore_n 2, 1) := by decide +kernel
theorem dX11_rubbed_62 : decode cX11_rubbed 62 = .ok (.aload_n 0, 1) := by decide +kernel
theorem dX11_rubbed_63 : decode cX11_rubbed 63 = .ok (.getfield 36, 3) := by decide +kernel
theorem dX11_rubbed_66 : decode cX11_rubbed 66 = .ok (.iload_n 3, 1) := by decide +kernel
theorem dX11_rubbed_67 : decode cX11_rubbed 67 = .ok (.iconst (-1), 1) := by decide +kernel
theorem dX11_rubbed_68 : decode cX11_rubbed 68 = .ok (.iastore, 1) := by decide +kernel
theorem dX11_rubbed_69 : decode cX11_rubbed 69 = .ok (.iinc 3 1, 3) := by decide +kernel
theorem dX11_rubbed_72 : decode cX11_rubbed 72 = .ok (.goto (-58), 3) := by decide +kernel
theorem dX11_rubbed_75 : decode cX11_rubbed 75 = .ok (.iload_n 2, 1) := by decide +kernel
theorem dX11_rubbed_76 : decode cX11_rubbed 76 = .ok (.ireturn, 1) := by decide +kernel
theorem dX11_divisor_0 : decode cX11_divisor 0 = .ok (.iload_n 1, 1) := by decide +kernel
theorem dX11_divisor_1 : decode cX11_divisor 1 = .ok (.istore_n 3, 1) := by decide +kernel
theorem dX11_divisor_2 : decode cX11_divisor 2 = .ok (.iload_n 2, 1) := by decide +kernel
theorem dX11_divisor_3 : decode cX11_divisor 3 = .ok (.istore 4, 2) := by decide +kernel
theorem dX11_divisor_5 : decode cX11_divisor 5 = .ok (.iload 4, 2) := by decide +kernel
theorem dX11_divisor_7 : decode cX11_divisor 7 = .ok (.ifCond .eq 19, 3) := by decide +kernel
theorem dX11_divisor_10 : decode cX11_divisor 10 = .ok (.iload_n 3, 1) := by decide +kernel
theorem dX11_divisor_11 : decode cX11_divisor 11 = .ok (.iload 4, 2) := by decide +kernel
theorem dX11_divisor_13 : decode cX11_divisor 13 = .ok (.irem, 1) := by decide +kernel
theorem dX11_divisor_14 : decode cX11_divisor 14 = .ok (.istore 5, 2) := by decide +kernel
theorem dX11_divisor_16 : decode cX11_divisor 16 = .ok (.iload 4, 2) := by decide +kernel
theorem dX11_divisor_18 : decode cX11_divisor 18 = .ok (.istore_n 3, 1) := by decide +kernel
theorem dX11_divisor_19 : decode cX11_divisor 19 = .ok (.iload 5, 2) := by decide +kernel
theorem dX11_divisor_21 : decode cX11_divisor 21 = .ok (.istore 4, 2) := by decide +kernel
theorem dX11_divisor_23 : decode cX11_divisor 23 = .ok (.goto (-18), 3) := by decide +kernel
theorem dX11_divisor_26 : decode cX11_divisor 26 = .ok (.iload_n 3, 1) := by decide +kernel
theorem dX11_divisor_27 : decode cX11_divisor 27 = .ok (.ireturn, 1) := by decide +kernel
theorem dX11_fraction_0 : decode cX11_fraction 0 = .ok (.aload_n 0, 1) := by decide +kernel
theorem dX11_fraction_1 : decode cX11_fraction 1 = .ok (.iload_n 1, 1) := by decide +kernel
theorem dX11_fraction_2 : decode cX11_fraction 2 = .ok (.iload_n 2, 1) := by decide +kernel
theorem dX11_fraction_3 : decode cX11_fraction 3 = .ok (.invokevirtual 414, 3) := by decide +kernel
theorem dX11_fraction_6 : decode cX11_fraction 6 = .ok (.istore 4, 2) := by decide +kernel
theorem dX11_fraction_8 : decode cX11_fraction 8 = .ok (.iload_n 3, 1) := by decide +kernel
theorem dX11_fraction_9 : decode cX11_fraction 9 = .ok (.ifCond .ne 11, 3) := by decide +kernel
theorem dX11_fraction_12 : decode cX11_fraction 12 = .ok (.iload_n 1, 1) := by decide +kernel
theorem dX11_fraction_13 : decode cX11_fraction 13 = .ok (.iload 4, 2) := by decide +kernel
theorem dX11_fraction_15 : decode cX11_fraction 15 = .ok (.idiv, 1) := by decide +kernel
theorem dX11_fraction_16 : decode cX11_fraction 16 = .ok (.i2l, 1) := by decide +kernel
theorem dX11_fraction_17 : decode cX11_fraction 17 = .ok (.goto 8, 3) := by decide +kernel
theorem dX11_fraction_20 : decode cX11_fraction 20 = .ok (.iload_n 2, 1) := by decide +kernel
theorem dX11_fraction_21 : decode cX11_fraction 21 = .ok (.iload 4, 2) := by decide +kernel
theorem dX11_fraction_23 : decode cX11_fraction 23 = .ok (.idiv, 1) := by decide +kernel
theorem dX11_fraction_24 : decode cX11_fraction 24 = .ok (.i2l, 1) := by decide +kernel
theorem dX11_fraction_25 : decode cX11_fraction 25 = .ok (.lreturn, 1) := by decide +kernel
theorem dX11_odds_0 : decode cX11_odds 0 = .ok (.aload_n 0, 1) := by decide +kernel
theorem dX11_odds_1 : decode cX11_odds 1 = .ok (.iload_n 1, 1) := by decide +kernel
theorem dX11_odds_2 : decode cX11_odds 2 = .ok (.invokevirtual 234, 3) := by decide +kernel
theorem dX11_odds_5 : decode cX11_odds 5 = .ok (.ifCond .eq 13, 3) := by decide +kernel
theorem dX11_odds_8 : decode cX11_odds 8 = .ok (.aload_n 0, 1) := by decide +kernel
theorem dX11_odds_9 : decode cX11_odds 9 = .ok (.iload_n 2, 1) := by decide +kernel
theorem dX11_odds_10 : decode cX11_odds 10 = .ok (.iconst 0, 1) := by decide +kernel
theorem dX11_odds_11 : decode cX11_odds 11 = .ok (.iconst 1, 1) := by decide +kernel
theorem dX11_odds_12 : decode cX11_odds 12 = .ok (.invokevirtual 230, 3) := by decide +kernel
theorem dX11_odds_15 : decode cX11_odds 15 = .ok (.ifCond .ne 7, 3) := by decide +kernel
theorem dX11_odds_18 : decode cX11_odds 18 = .ok (.ldc2_w 417, 3) := by decide +kernel
theorem dX11_odds_21 : decode cX11_odds 21 = .ok (.lreturn, 1) := by decide +kernel
theorem dX11_odds_22 : decode cX11_odds 22 = .ok (.iconst 0, 1) := by decide +kernel
theorem dX11_odds_23 : decode cX11_odds 23 = .ok (.istore_n 3, 1) := by decide +kernel
theorem dX11_odds_24 : decode cX11_odds 24 = .ok (.iconst 0, 1) := by decide +kernel
theorem dX11_odds_25 : decode cX11_odds 25 = .ok (.istore 4, 2) := by decide +kernel
theorem dX11_odds_27 : decode cX11_odds 27 = .ok (.iload 4, 2) := by decide +kernel
theorem dX11_odds_29 : decode cX11_odds 29 = .ok (.aload_n 0, 1) := by decide +kernel
theorem dX11_odds_30 : decode cX11_odds 30 = .ok (.getfield 13, 3) := by decide +kernel
theorem dX11_odds_33 : decode cX11_odds 33 = .ok (.aload_n 0, 1) := by decide +kernel
theorem dX11_odds_34 : decode cX11_odds 34 = .ok (.getfield 13, 3) := by decide +kernel
theorem dX11_odds_37 : decode cX11_odds 37 = .ok (.imul, 1) := by decide +kernel
theorem dX11_odds_38 : decode cX11_odds 38 = .ok (.if_icmp .ge 26, 3) := by decide +kernel
theorem dX11_odds_41 : decode cX11_odds 41 = .ok (.iload_n 3, 1) := by decide +kernel
theorem dX11_odds_42 : decode cX11_odds 42 = .ok (.aload_n 0, 1) := by decide +kernel
theorem dX11_odds_43 : decode cX11_odds 43 = .ok (.iload 4, 2) := by decide +kernel
theorem dX11_odds_45 : decode cX11_odds 45 = .ok (.invokevirtual 356, 3) := by decide +kernel
theorem dX11_odds_48 : decode cX11_odds 48 = .ok (.ifCond .eq 7, 3) := by decide +kernel
theorem dX11_odds_51 : decode cX11_odds 51 = .ok (.iconst 1, 1) := by decide +kernel
theorem dX11_odds_52 : decode cX11_odds 52 = .ok (.goto 4, 3) := by decide +kernel
theorem dX11_odds_55 : decode cX11_odds 55 = .ok (.iconst 0, 1) := by decide +kernel
theorem dX11_odds_56 : decode cX11_odds 56 = .ok (.iadd, 1) := by decide +kernel
theorem dX11_odds_57 : decode cX11_odds 57 = .ok (.istore_n 3, 1) := by decide +kernel
theorem dX11_odds_58 : decode cX11_odds 58 = .ok (.iinc 4 1, 3) := by decide +kernel
theorem dX11_odds_61 : decode cX11_odds 61 = .ok (.goto (-34), 3) := by decide +kernel
theorem dX11_odds_64 : decode cX11_odds 64 = .ok (.iload_n 3, 1) := by decide +kernel
theorem dX11_odds_65 : decode cX11_odds 65 = .ok (.ifCond .ne 9, 3) := by decide +kernel
theorem dX11_odds_68 : decode cX11_odds 68 = .ok (.ldc2_w 417, 3) := by decide +kernel
theorem dX11_odds_71 : decode cX11_odds 71 = .ok (.goto 18, 3) := by decide +kernel
theorem dX11_odds_74 : decode cX11_odds 74 = .ok (.aload_n 0, 1) := by decide +kernel
theorem dX11_odds_75 : decode cX11_odds 75 = .ok (.aload_n 0, 1) := by decide +kernel
theorem dX11_odds_76 : decode cX11_odds 76 = .ok (.aload_n 0, 1) := by decide +kernel
theorem dX11_odds_77 : decode cX11_odds 77 = .ok (.iload_n 1, 1) := by decide +kernel
theorem dX11_odds_78 : decode cX11_odds 78 = .ok (.invokevirtual 387, 3) := by decide +kernel
theorem dX11_odds_81 : decode cX11_odds 81 = .ok (.invokevirtual 242, 3) := by decide +kernel
theorem dX11_odds_84 : decode cX11_odds 84 = .ok (.iload_n 3, 1) := by decide +kernel
theorem dX11_odds_85 : decode cX11_odds 85 = .ok (.iload_n 2, 1) := by decide +kernel
theorem dX11_odds_86 : decode cX11_odds 86 = .ok (.invokevirtual 419, 3) := by decide +kernel
theorem dX11_odds_89 : decode cX11_odds 89 = .ok (.lreturn, 1) := by decide +kernel
theorem dX11_mean_0 : decode cX11_mean 0 = .ok (.aload_n 0, 1) := by decide +kernel
theorem dX11_mean_1 : decode cX11_mean 1 = .ok (.aload_n 0, 1) := by decide +kernel
theorem dX11_mean_2 : decode cX11_mean 2 = .ok (.invokevirtual 238, 3) := by decide +kernel
theorem dX11_mean_5 : decode cX11_mean 5 = .ok (.invokevirtual 242, 3) := by decide +kernel
theorem dX11_mean_8 : decode cX11_mean 8 = .ok (.istore_n 2, 1) := by decide +kernel
theorem dX11_mean_9 : decode cX11_mean 9 = .ok (.aload_n 0, 1) := by decide +kernel
theorem dX11_mean_10 : decode cX11_mean 10 = .ok (.iload_n 1, 1) := by decide +kernel
theorem dX11_mean_11 : decode cX11_mean 11 = .ok (.iconst 0, 1) := by decide +kernel
theorem dX11_mean_12 : decode cX11_mean 12 = .ok (.iconst 1, 1) := by decide +kernel
theorem dX11_mean_13 : decode cX11_mean 13 = .ok (.invokevirtual 230, 3) := by decide +kernel
theorem dX11_mean_16 : decode cX11_mean 16 = .ok (.ifCond .eq 7, 3) := by decide +kernel
theorem dX11_mean_19 : decode cX11_mean 19 = .ok (.iload_n 2, 1) := by decide +kernel
theorem dX11_mean_20 : decode cX11_mean 20 = .ok (.ifCond .ne 7, 3) := by decide +kernel
theorem dX11_mean_23 : decode cX11_mean 23 = .ok (.ldc2_w 417, 3) := by decide +kernel
theorem dX11_mean_26 : decode cX11_mean 26 = .ok (.lreturn, 1) := by decide +kernel
theorem dX11_mean_27 : decode cX11_mean 27 = .ok (.iconst 0, 1) := by decide +kernel
theorem dX11_mean_28 : decode cX11_mean 28 = .ok (.istore_n 3, 1) := by decide +kernel
theorem dX11_mean_29 : decode cX11_mean 29 = .ok (.iconst 0, 1) := by decide +kernel
theorem dX11_mean_30 : decode cX11_mean 30 = .ok (.istore 4, 2) := by decide +kernel
theorem dX11_mean_32 : decode cX11_mean 32 = .ok (.iload 4, 2) := by decide +kernel
theorem dX11_mean_34 : decode cX11_mean 34 = .ok (.aload_n 0, 1) := by decide +kernel
theorem dX11_mean_35 : decode cX11_mean 35 = .ok (.getfield 13, 3) := by decide +kernel
theorem dX11_mean_38 : decode cX11_mean 38 = .ok (.aload_n 0, 1) := by decide +kernel
theorem dX11_mean_39 : decode cX11_mean 39 = .ok (.getfield 13, 3) := by decide +kernel
theorem dX11_mean_42 : decode cX11_mean 42 = .ok (.imul, 1) := by decide +kernel
theorem dX11_mean_43 : decode cX11_mean 43 = .ok (.if_icmp .ge 43, 3) := by decide +kernel
theorem dX11_mean_46 : decode cX11_mean 46 = .ok (.iload_n 3, 1) := by decide +kernel
theorem dX11_mean_47 : decode cX11_mean 47 = .ok (.aload_n 0, 1) := by decide +kernel
theorem dX11_mean_48 : decode cX11_mean 48 = .ok (.getfield 36, 3) := by decide +kernel
theorem dX11_mean_51 : decode cX11_mean 51 = .ok (.iload 4, 2) := by decide +kernel
theorem dX11_mean_53 : decode cX11_mean 53 = .ok (.iaload, 1) := by decide +kernel
theorem dX11_mean_54 : decode cX11_mean 54 = .ok (.ifCond .ge 7, 3) := by decide +kernel
theorem dX11_mean_57 : decode cX11_mean 57 = .ok (.iconst 0, 1) := by decide +kernel
theorem dX11_mean_58 : decode cX11_mean 58 = .ok (.goto 20, 3) := by decide +kernel
theorem dX11_mean_61 : decode cX11_mean 61 = .ok (.aload_n 0, 1) := by decide +kernel
theorem dX11_mean_62 : decode cX11_mean 62 = .ok (.aload_n 0, 1) := by decide +kernel
theorem dX11_mean_63 : decode cX11_mean 63 = .ok (.aload_n 0, 1) := by decide +kernel
theorem dX11_mean_64 : decode cX11_mean 64 = .ok (.getfield 36, 3) := by decide +kernel
theorem dX11_mean_67 : decode cX11_mean 67 = .ok (.iload 4, 2) := by decide +kernel
theorem dX11_mean_69 : decode cX11_mean 69 = .ok (.iaload, 1) := by decide +kernel
theorem dX11_mean_70 : decode cX11_mean 70 = .ok (.iload 4, 2) := by decide +kernel
theorem dX11_mean_72 : decode cX11_mean 72 = .ok (.invokevirtual 344, 3) := by decide +kernel
theorem dX11_mean_75 : decode cX11_mean 75 = .ok (.invokevirtual 242, 3) := by decide +kernel
theorem dX11_mean_78 : decode cX11_mean 78 = .ok (.iadd, 1) := by decide +kernel
theorem dX11_mean_79 : decode cX11_mean 79 = .ok (.istore_n 3, 1) := by decide +kernel
theorem dX11_mean_80 : decode cX11_mean 80 = .ok (.iinc 4 1, 3) := by decide +kernel
theorem dX11_mean_83 : decode cX11_mean 83 = .ok (.goto (-51), 3) := by decide +kernel
theorem dX11_mean_86 : decode cX11_mean 86 = .ok (.aload_n 0, 1) := by decide +kernel
theorem dX11_mean_87 : decode cX11_mean 87 = .ok (.iload_n 3, 1) := by decide +kernel
theorem dX11_mean_88 : decode cX11_mean 88 = .ok (.iload_n 2, 1) := by decide +kernel
theorem dX11_mean_89 : decode cX11_mean 89 = .ok (.iload_n 1, 1) := by decide +kernel
theorem dX11_mean_90 : decode cX11_mean 90 = .ok (.invokevirtual 419, 3) := by decide +kernel
theorem dX11_mean_93 : decode cX11_mean 93 = .ok (.lreturn, 1) := by decide +kernel
theorem dX11_book_0 : decode cX11_book 0 = .ok (.iload_n 1, 1) := by decide +kernel
theorem dX11_book_1 : decode cX11_book 1 = .ok (.iconst (-1), 1) := by decide +kernel
theorem dX11_book_2 : decode cX11_book 2 = .ok (.if_icmp .ne 10, 3) := by decide +kernel
theorem dX11_book_5 : decode cX11_book 5 = .ok (.aload_n 0, 1) := by decide +kernel
theorem dX11_book_6 : decode cX11_book 6 = .ok (.iconst 0, 1) := by decide +kernel
theorem dX11_book_7 : decode cX11_book 7 = .ok (.putfield 163, 3) := by decide +kernel
theorem dX11_book_10 : decode cX11_book 10 = .ok (.iconst 0, 1) := by decide +kernel
theorem dX11_book_11 : decode cX11_book 11 = .ok (.ireturn, 1) := by decide +kernel
theorem dX11_book_12 : decode cX11_book 12 = .ok (.aload_n 0, 1) := by decide +kernel
theorem dX11_book_13 : decode cX11_book 13 = .ok (.iload_n 1, 1) := by decide +kernel
theorem dX11_book_14 : decode cX11_book 14 = .ok (.invokevirtual 341, 3) := by decide +kernel
theorem dX11_book_17 : decode cX11_book 17 = .ok (.ifCond .ne 5, 3) := by decide +kernel
theorem dX11_book_20 : decode cX11_book 20 = .ok (.iconst (-1), 1) := by decide +kernel
theorem dX11_book_21 : decode cX11_book 21 = .ok (.ireturn, 1) := by decide +kernel
theorem dX11_book_22 : decode cX11_book 22 = .ok (.aload_n 0, 1) := by decide +kernel
theorem dX11_book_23 : decode cX11_book 23 = .ok (.getfield 163, 3) := by decide +kernel
theorem dX11_book_26 : decode cX11_book 26 = .ok (.bipush 12, 2) := by decide +kernel
theorem dX11_book_28 : decode cX11_book 28 = .ok (.if_icmp .ne 6, 3) := by decide +kernel
theorem dX11_book_31 : decode cX11_book 31 = .ok (.bipush (-4), 2) := by decide +kernel
theorem dX11_book_33 : decode cX11_book 33 = .ok (.ireturn, 1) := by decide +kernel
theorem dX11_book_34 : decode cX11_book 34 = .ok (.aload_n 0, 1) := by decide +kernel
theorem dX11_book_35 : decode cX11_book 35 = .ok (.getfield 166, 3) := by decide +kernel
theorem dX11_book_38 : decode cX11_book 38 = .ok (.aload_n 0, 1) := by decide +kernel
theorem dX11_book_39 : decode cX11_book 39 = .ok (.getfield 163, 3) := by decide +kernel
theorem dX11_book_42 : decode cX11_book 42 = .ok (.iload_n 1, 1) := by decide +kernel
theorem dX11_book_43 : decode cX11_book 43 = .ok (.iastore, 1) := by decide +kernel
theorem dX11_book_44 : decode cX11_book 44 = .ok (.aload_n 0, 1) := by decide +kernel
theorem dX11_book_45 : decode cX11_book 45 = .ok (.dup, 1) := by decide +kernel
theorem dX11_book_46 : decode cX11_book 46 = .ok (.getfield 163, 3) := by decide +kernel
theorem dX11_book_49 : decode cX11_book 49 = .ok (.iconst 1, 1) := by decide +kernel
theorem dX11_book_50 : decode cX11_book 50 = .ok (.iadd, 1) := by decide +kernel
theorem dX11_book_51 : decode cX11_book 51 = .ok (.putfield 163, 3) := by decide +kernel
theorem dX11_book_54 : decode cX11_book 54 = .ok (.aload_n 0, 1) := by decide +kernel
theorem dX11_book_55 : decode cX11_book 55 = .ok (.getfield 163, 3) := by decide +kernel
theorem dX11_book_58 : decode cX11_book 58 = .ok (.ireturn, 1) := by decide +kernel
theorem dX11_looked_0 : decode cX11_looked 0 = .ok (.iconst 0, 1) := by decide +kernel
theorem dX11_looked_1 : decode cX11_looked 1 = .ok (.istore_n 1, 1) := by decide +kernel
theorem dX11_looked_2 : decode cX11_looked 2 = .ok (.iload_n 1, 1) := by decide +kernel
theorem dX11_looked_3 : decode cX11_looked 3 = .ok (.aload_n 0, 1) := by decide +kernel
theorem dX11_looked_4 : decode cX11_looked 4 = .ok (.getfield 163, 3) := by decide +kernel
theorem dX11_looked_7 : decode cX11_looked 7 = .ok (.if_icmp .ge 25, 3) := by decide +kernel
theorem dX11_looked_10 : decode cX11_looked 10 = .ok (.aload_n 0, 1) := by decide +kernel
theorem dX11_looked_11 : decode cX11_looked 11 = .ok (.getfield 36, 3) := by decide +kernel
theorem dX11_looked_14 : decode cX11_looked 14 = .ok (.aload_n 0, 1) := by decide +kernel
theorem dX11_looked_15 : decode cX11_looked 15 = .ok (.getfield 166, 3) := by decide +kernel
theorem dX11_looked_18 : decode cX11_looked 18 = .ok (.iload_n 1, 1) := by decide +kernel
theorem dX11_looked_19 : decode cX11_looked 19 = .ok (.iaload, 1) := by decide +kernel
theorem dX11_looked_20 : decode cX11_looked 20 = .ok (.iaload, 1) := by decide +kernel
theorem dX11_looked_21 : decode cX11_looked 21 = .ok (.ifCond .ge 5, 3) := by decide +kernel
theorem dX11_looked_24 : decode cX11_looked 24 = .ok (.iload_n 1, 1) := by decide +kernel
theorem dX11_looked_25 : decode cX11_looked 25 = .ok (.ireturn, 1) := by decide +kernel
theorem dX11_looked_26 : decode cX11_looked 26 = .ok (.iinc 1 1, 3) := by decide +kernel
theorem dX11_looked_29 : decode cX11_looked 29 = .ok (.goto (-27), 3) := by decide +kernel
theorem dX11_looked_32 : decode cX11_looked 32 = .ok (.bipush (-5), 2) := by decide +kernel
theorem dX11_looked_34 : decode cX11_looked 34 = .ok (.ireturn, 1) := by decide +kernel
theorem dX11_judge_0 : decode cX11_judge 0 = .ok (.aload_n 0, 1) := by decide +kernel
theorem dX11_judge_1 : decode cX11_judge 1 = .ok (.iload_n 1, 1) := by decide +kernel
theorem dX11_judge_2 : decode cX11_judge 2 = .ok (.invokevirtual 423, 3) := by decide +kernel
theorem dX11_judge_5 : decode cX11_judge 5 = .ok (.ifCond .ne 5, 3) := by decide +kernel
theorem dX11_judge_8 : decode cX11_judge 8 = .ok (.iconst (-1), 1) := by decide +kernel
theorem dX11_judge_9 : decode cX11_judge 9 = .ok (.ireturn, 1) := by decide +kernel
theorem dX11_judge_10 : decode cX11_judge 10 = .ok (.aload_n 0, 1) := by decide +kernel
theorem dX11_judge_11 : decode cX11_judge 11 = .ok (.getfield 217, 3) := by decide +kernel
theorem dX11_judge_14 : decode cX11_judge 14 = .ok (.iload_n 1, 1) := by decide +kernel
theorem dX11_judge_15 : decode cX11_judge 15 = .ok (.iaload, 1) := by decide +kernel
theorem dX11_judge_16 : decode cX11_judge 16 = .ok (.ifCond .lt 16, 3) := by decide +kernel
theorem dX11_judge_19 : decode cX11_judge 19 = .ok (.aload_n 0, 1) := by decide +kernel
theorem dX11_judge_20 : decode cX11_judge 20 = .ok (.getfield 217, 3) := by decide +kernel
theorem dX11_judge_23 : decode cX11_judge 23 = .ok (.iload_n 1, 1) := by decide +kernel
theorem dX11_judge_24 : decode cX11_judge 24 = .ok (.iaload, 1) := by decide +kernel
theorem dX11_judge_25 : decode cX11_judge 25 = .ok (.iconst 4, 1) := by decide +kernel
theorem dX11_judge_26 : decode cX11_judge 26 = .ok (.if_icmp .eq 6, 3) := by decide +kernel
theorem dX11_judge_29 : decode cX11_judge 29 = .ok (.bipush (-12), 2) := by decide +kernel
theorem dX11_judge_31 : decode cX11_judge 31 = .ok (.ireturn, 1) := by decide +kernel
theorem dX11_judge_32 : decode cX11_judge 32 = .ok (.iconst 0, 1) := by decide +kernel
theorem dX11_judge_33 : decode cX11_judge 33 = .ok (.istore_n 3, 1) := by decide +kernel
theorem dX11_judge_34 : decode cX11_judge 34 = .ok (.iload_n 3, 1) := by decide +kernel
theorem dX11_judge_35 : decode cX11_judge 35 = .ok (.aload_n 0, 1) := by decide +kernel
theorem dX11_judge_36 : decode cX11_judge 36 = .ok (.getfield 13, 3) := by decide +kernel
theorem dX11_judge_39 : decode cX11_judge 39 = .ok (.aload_n 0, 1) := by decide +kernel
theorem dX11_judge_40 : decode cX11_judge 40 = .ok (.getfield 13, 3) := by decide +kernel
theorem dX11_judge_43 : decode cX11_judge 43 = .ok (.imul, 1) := by decide +kernel
theorem dX11_judge_44 : decode cX11_judge 44 = .ok (.if_icmp .ge 74, 3) := by decide +kernel
theorem dX11_judge_47 : decode cX11_judge 47 = .ok (.aload_n 0, 1) := by decide +kernel
theorem dX11_judge_48 : decode cX11_judge 48 = .ok (.getfield 217, 3) := by decide +kernel
theorem dX11_judge_51 : decode cX11_judge 51 = .ok (.iload_n 1, 1) := by decide +kernel
theorem dX11_judge_52 : decode cX11_judge 52 = .ok (.iaload, 1) := by decide +kernel
theorem dX11_judge_53 : decode cX11_judge 53 = .ok (.ifCond .lt 21, 3) := by decide +kernel
theorem dX11_judge_56 : decode cX11_judge 56 = .ok (.iload_n 2, 1) := by decide +kernel
theorem dX11_judge_57 : decode cX11_judge 57 = .ok (.ifCond .lt 17, 3) := by decide +kernel
theorem dX11_judge_60 : decode cX11_judge 60 = .ok (.iload_n 2, 1) := by decide +kernel
theorem dX11_judge_61 : decode cX11_judge 61 = .ok (.aload_n 0, 1) := by decide +kernel
theorem dX11_judge_62 : decode cX11_judge 62 = .ok (.getfield 220, 3) := by decide +kernel
theorem dX11_judge_65 : decode cX11_judge 65 = .ok (.iload_n 1, 1) := by decide +kernel
theorem dX11_judge_66 : decode cX11_judge 66 = .ok (.iaload, 1) := by decide +kernel
theorem dX11_judge_67 : decode cX11_judge 67 = .ok (.iload_n 3, 1) := by decide +kernel
theorem dX11_judge_68 : decode cX11_judge 68 = .ok (.isub, 1) := by decide +kernel
theorem dX11_judge_69 : decode cX11_judge 69 = .ok (.iconst 1, 1) := by decide +kernel
theorem dX11_judge_70 : decode cX11_judge 70 = .ok (.isub, 1) := by decide +kernel
theorem dX11_judge_71 : decode cX11_judge 71 = .ok (.if_icmp .le 8, 3) := by decide +kernel
theorem dX11_judge_74 : decode cX11_judge 74 = .ok (.bipush 100, 2) := by decide +kernel
theorem dX11_judge_76 : decode cX11_judge 76 = .ok (.iload_n 3, 1) := by decide +kernel
theorem dX11_judge_77 : decode cX11_judge 77 = .ok (.iadd, 1) := by decide +kernel
theorem dX11_judge_78 : decode cX11_judge 78 = .ok (.ireturn, 1) := by decide +kernel
theorem dX11_judge_79 : decode cX11_judge 79 = .ok (.aload_n 0, 1) := by decide +kernel
theorem dX11_judge_80 : decode cX11_judge 80 = .ok (.getfield 223, 3) := by decide +kernel
theorem dX11_judge_83 : decode cX11_judge 83 = .ok (.bipush 60, 2) := by decide +kernel
theorem dX11_judge_85 : decode cX11_judge 85 = .ok (.iload_n 1, 1) := by decide +kernel
theorem dX11_judge_86 : decode cX11_judge 86 = .ok (.imul, 1) := by decide +kernel
theorem dX11_judge_87 : decode cX11_judge 87 = .ok (.iload_n 2, 1) := by decide +kernel
theorem dX11_judge_88 : decode cX11_judge 88 = .ok (.iadd, 1) := by decide +kernel
theorem dX11_judge_89 : decode cX11_judge 89 = .ok (.iload_n 3, 1) := by decide +kernel
theorem dX11_judge_90 : decode cX11_judge 90 = .ok (.iadd, 1) := by decide +kernel
theorem dX11_judge_91 : decode cX11_judge 91 = .ok (.laload, 1) := by decide +kernel
theorem dX11_judge_92 : decode cX11_judge 92 = .ok (.aload_n 0, 1) := by decide +kernel
theorem dX11_judge_93 : decode cX11_judge 93 = .ok (.getfield 36, 3) := by decide +kernel
theorem dX11_judge_96 : decode cX11_judge 96 = .ok (.iload_n 3, 1) := by decide +kernel
theorem dX11_judge_97 : decode cX11_judge 97 = .ok (.iaload, 1) := by decide +kernel
theorem dX11_judge_98 : decode cX11_judge 98 = .ok (.ifCond .ge 7, 3) := by decide +kernel
theorem dX11_judge_101 : decode cX11_judge 101 = .ok (.lconst 0, 1) := by decide +kernel
theorem dX11_judge_102 : decode cX11_judge 102 = .ok (.goto 4, 3) := by decide +kernel
theorem dX11_judge_105 : decode cX11_judge 105 = .ok (.lconst 1, 1) := by decide +kernel
theorem dX11_judge_106 : decode cX11_judge 106 = .ok (.lcmp, 1) := by decide +kernel
theorem dX11_judge_107 : decode cX11_judge 107 = .ok (.ifCond .eq 5, 3) := by decide +kernel
theorem dX11_judge_110 : decode cX11_judge 110 = .ok (.iload_n 3, 1) := by decide +kernel
theorem dX11_judge_111 : decode cX11_judge 111 = .ok (.ireturn, 1) := by decide +kernel
theorem dX11_judge_112 : decode cX11_judge 112 = .ok (.iinc 3 1, 3) := by decide +kernel
theorem dX11_judge_115 : decode cX11_judge 115 = .ok (.goto (-81), 3) := by decide +kernel
theorem dX11_judge_118 : decode cX11_judge 118 = .ok (.bipush (-5), 2) := by decide +kernel
theorem dX11_judge_120 : decode cX11_judge 120 = .ok (.ireturn, 1) := by decide +kernel
theorem dX11_image_0 : decode cX11_image 0 = .ok (.aload_n 0, 1) := by decide +kernel
theorem dX11_image_1 : decode cX11_image 1 = .ok (.iconst 1, 1) := by decide +kernel
theorem dX11_image_2 : decode cX11_image 2 = .ok (.putfield 169, 3) := by decide +kernel
theorem dX11_image_5 : decode cX11_image 5 = .ok (.aload_n 0, 1) := by decide +kernel
theorem dX11_image_6 : decode cX11_image 6 = .ok (.aload_n 0, 1) := by decide +kernel
theorem dX11_image_7 : decode cX11_image 7 = .ok (.getfield 42, 3) := by decide +kernel
theorem dX11_image_10 : decode cX11_image 10 = .ok (.putfield 172, 3) := by decide +kernel
theorem dX11_image_13 : decode cX11_image 13 = .ok (.aload_n 0, 1) := by decide +kernel
theorem dX11_image_14 : decode cX11_image 14 = .ok (.aload_n 0, 1) := by decide +kernel
theorem dX11_image_15 : decode cX11_image 15 = .ok (.getfield 7, 3) := by decide +kernel
theorem dX11_image_18 : decode cX11_image 18 = .ok (.putfield 175, 3) := by decide +kernel
theorem dX11_image_21 : decode cX11_image 21 = .ok (.aload_n 0, 1) := by decide +kernel
theorem dX11_image_22 : decode cX11_image 22 = .ok (.aload_n 0, 1) := by decide +kernel
theorem dX11_image_23 : decode cX11_image 23 = .ok (.getfield 139, 3) := by decide +kernel
theorem dX11_image_26 : decode cX11_image 26 = .ok (.putfield 178, 3) := by decide +kernel
theorem dX11_image_29 : decode cX11_image 29 = .ok (.aload_n 0, 1) := by decide +kernel
theorem dX11_image_30 : decode cX11_image 30 = .ok (.aload_n 0, 1) := by decide +kernel
theorem dX11_image_31 : decode cX11_image 31 = .ok (.getfield 154, 3) := by decide +kernel
theorem dX11_image_34 : decode cX11_image 34 = .ok (.putfield 181, 3) := by decide +kernel
theorem dX11_image_37 : decode cX11_image 37 = .ok (.aload_n 0, 1) := by decide +kernel
theorem dX11_image_38 : decode cX11_image 38 = .ok (.aload_n 0, 1) := by decide +kernel
theorem dX11_image_39 : decode cX11_image 39 = .ok (.getfield 163, 3) := by decide +kernel
theorem dX11_image_42 : decode cX11_image 42 = .ok (.putfield 184, 3) := by decide +kernel
theorem dX11_image_45 : decode cX11_image 45 = .ok (.iconst 0, 1) := by decide +kernel
theorem dX11_image_46 : decode cX11_image 46 = .ok (.istore_n 1, 1) := by decide +kernel
theorem dX11_image_47 : decode cX11_image 47 = .ok (.iload_n 1, 1) := by decide +kernel
theorem dX11_image_48 : decode cX11_image 48 = .ok (.bipush 6, 2) := by decide +kernel
theorem dX11_image_50 : decode cX11_image 50 = .ok (.if_icmp .ge 33, 3) := by decide +kernel
theorem dX11_image_53 : decode cX11_image 53 = .ok (.aload_n 0, 1) := by decide +kernel
theorem dX11_image_54 : decode cX11_image 54 = .ok (.getfield 187, 3) := by decide +kernel
theorem dX11_image_57 : decode cX11_image 57 = .ok (.iload_n 1, 1) := by decide +kernel
theorem dX11_image_58 : decode cX11_image 58 = .ok (.aload_n 0, 1) := by decide +kernel
theorem dX11_image_59 : decode cX11_image 59 = .ok (.getfield 26, 3) := by decide +kernel
theorem dX11_image_62 : decode cX11_image 62 = .ok (.iload_n 1, 1) := by decide +kernel
theorem dX11_image_63 : decode cX11_image 63 = .ok (.iaload, 1) := by decide +kernel
theorem dX11_image_64 : decode cX11_image 64 = .ok (.iastore, 1) := by decide +kernel
theorem dX11_image_65 : decode cX11_image 65 = .ok (.aload_n 0, 1) := by decide +kernel
theorem dX11_image_66 : decode cX11_image 66 = .ok (.getfield 190, 3) := by decide +kernel
theorem dX11_image_69 : decode cX11_image 69 = .ok (.iload_n 1, 1) := by decide +kernel
theorem dX11_image_70 : decode cX11_image 70 = .ok (.aload_n 0, 1) := by decide +kernel
theorem dX11_image_71 : decode cX11_image 71 = .ok (.getfield 30, 3) := by decide +kernel
theorem dX11_image_74 : decode cX11_image 74 = .ok (.iload_n 1, 1) := by decide +kernel
theorem dX11_image_75 : decode cX11_image 75 = .ok (.iaload, 1) := by decide +kernel
theorem dX11_image_76 : decode cX11_image 76 = .ok (.iastore, 1) := by decide +kernel
theorem dX11_image_77 : decode cX11_image 77 = .ok (.iinc 1 1, 3) := by decide +kernel
theorem dX11_image_80 : decode cX11_image 80 = .ok (.goto (-33), 3) := by decide +kernel
theorem dX11_image_83 : decode cX11_image 83 = .ok (.iconst 0, 1) := by decide +kernel
theorem dX11_image_84 : decode cX11_image 84 = .ok (.istore_n 1, 1) := by decide +kernel
theorem dX11_image_85 : decode cX11_image 85 = .ok (.iload_n 1, 1) := by decide +kernel
theorem dX11_image_86 : decode cX11_image 86 = .ok (.bipush 48, 2) := by decide +kernel
theorem dX11_image_88 : decode cX11_image 88 = .ok (.if_icmp .ge 21, 3) := by decide +kernel
theorem dX11_image_91 : decode cX11_image 91 = .ok (.aload_n 0, 1) := by decide +kernel
theorem dX11_image_92 : decode cX11_image 92 = .ok (.getfield 193, 3) := by decide +kernel
theorem dX11_image_95 : decode cX11_image 95 = .ok (.iload_n 1, 1) := by decide +kernel
theorem dX11_image_96 : decode cX11_image 96 = .ok (.aload_n 0, 1) := by decide +kernel
theorem dX11_image_97 : decode cX11_image 97 = .ok (.getfield 33, 3) := by decide +kernel
theorem dX11_image_100 : decode cX11_image 100 = .ok (.iload_n 1, 1) := by decide +kernel
theorem dX11_image_101 : decode cX11_image 101 = .ok (.iaload, 1) := by decide +kernel
theorem dX11_image_102 : decode cX11_image 102 = .ok (.iastore, 1) := by decide +kernel
theorem dX11_image_103 : decode cX11_image 103 = .ok (.iinc 1 1, 3) := by decide +kernel
theorem dX11_image_106 : decode cX11_image 106 = .ok (.goto (-21), 3) := by decide +kernel
theorem dX11_image_109 : decode cX11_image 109 = .ok (.iconst 0, 1) := by decide +kernel
theorem dX11_image_110 : decode cX11_image 110 = .ok (.istore_n 1, 1) := by decide +kernel
theorem dX11_image_111 : decode cX11_image 111 = .ok (.iload_n 1, 1) := by decide +kernel
theorem dX11_image_112 : decode cX11_image 112 = .ok (.bipush 25, 2) := by decide +kernel
theorem dX11_image_114 : decode cX11_image 114 = .ok (.if_icmp .ge 21, 3) := by decide +kernel
theorem dX11_image_117 : decode cX11_image 117 = .ok (.aload_n 0, 1) := by decide +kernel
theorem dX11_image_118 : decode cX11_image 118 = .ok (.getfield 196, 3) := by decide +kernel
theorem dX11_image_121 : decode cX11_image 121 = .ok (.iload_n 1, 1) := by decide +kernel
theorem dX11_image_122 : decode cX11_image 122 = .ok (.aload_n 0, 1) := by decide +kernel
theorem dX11_image_123 : decode cX11_image 123 = .ok (.getfield 36, 3) := by decide +kernel
theorem dX11_image_126 : decode cX11_image 126 = .ok (.iload_n 1, 1) := by decide +kernel
theorem dX11_image_127 : decode cX11_image 127 = .ok (.iaload, 1) := by decide +kernel
theorem dX11_image_128 : decode cX11_image 128 = .ok (.iastore, 1) := by decide +kernel
theorem dX11_image_129 : decode cX11_image 129 = .ok (.iinc 1 1, 3) := by decide +kernel
theorem dX11_image_132 : decode cX11_image 132 = .ok (.goto (-21), 3) := by decide +kernel
theorem dX11_image_135 : decode cX11_image 135 = .ok (.iconst 0, 1) := by decide +kernel
theorem dX11_image_136 : decode cX11_image 136 = .ok (.istore_n 1, 1) := by decide +kernel
theorem dX11_image_137 : decode cX11_image 137 = .ok (.iload_n 1, 1) := by decide +kernel
theorem dX11_image_138 : decode cX11_image 138 = .ok (.iconst 5, 1) := by decide +kernel
theorem dX11_image_139 : decode cX11_image 139 = .ok (.if_icmp .ge 21, 3) := by decide +kernel
theorem dX11_image_142 : decode cX11_image 142 = .ok (.aload_n 0, 1) := by decide +kernel
theorem dX11_image_143 : decode cX11_image 143 = .ok (.getfield 199, 3) := by decide +kernel
theorem dX11_image_146 : decode cX11_image 146 = .ok (.iload_n 1, 1) := by decide +kernel
theorem dX11_image_147 : decode cX11_image 147 = .ok (.aload_n 0, 1) := by decide +kernel
theorem dX11_image_148 : decode cX11_image 148 = .ok (.getfield 142, 3) := by decide +kernel
theorem dX11_image_151 : decode cX11_image 151 = .ok (.iload_n 1, 1) := by decide +kernel
theorem dX11_image_152 : decode cX11_image 152 = .ok (.iaload, 1) := by decide +kernel
theorem dX11_image_153 : decode cX11_image 153 = .ok (.iastore, 1) := by decide +kernel
theorem dX11_image_154 : decode cX11_image 154 = .ok (.iinc 1 1, 3) := by decide +kernel
theorem dX11_image_157 : decode cX11_image 157 = .ok (.goto (-20), 3) := by decide +kernel
theorem dX11_image_160 : decode cX11_image 160 = .ok (.iconst 0, 1) := by decide +kernel
theorem dX11_image_161 : decode cX11_image 161 = .ok (.istore_n 1, 1) := by decide +kernel
theorem dX11_image_162 : decode cX11_image 162 = .ok (.iload_n 1, 1) := by decide +kernel
theorem dX11_image_163 : decode cX11_image 163 = .ok (.bipush 8, 2) := by decide +kernel
theorem dX11_image_165 : decode cX11_image 165 = .ok (.if_icmp .ge 33, 3) := by decide +kernel
theorem dX11_image_168 : decode cX11_image 168 = .ok (.aload_n 0, 1) := by decide +kernel
theorem dX11_image_169 : decode cX11_image 169 = .ok (.getfield 202, 3) := by decide +kernel
theorem dX11_image_172 : decode cX11_image 172 = .ok (.iload_n 1, 1) := by decide +kernel
theorem dX11_image_173 : decode cX11_image 173 = .ok (.aload_n 0, 1) := by decide +kernel
theorem dX11_image_174 : decode cX11_image 174 = .ok (.getfield 157, 3) := by decide +kernel
theorem dX11_image_177 : decode cX11_image 177 = .ok (.iload_n 1, 1) := by decide +kernel
theorem dX11_image_178 : decode cX11_image 178 = .ok (.iaload, 1) := by decide +kernel
theorem dX11_image_179 : decode cX11_image 179 = .ok (.iastore, 1) := by decide +kernel
theorem dX11_image_180 : decode cX11_image 180 = .ok (.aload_n 0, 1) := by decide +kernel
theorem dX11_image_181 : decode cX11_image 181 = .ok (.getfield 205, 3) := by decide +kernel
theorem dX11_image_184 : decode cX11_image 184 = .ok (.iload_n 1, 1) := by decide +kernel
theorem dX11_image_185 : decode cX11_image 185 = .ok (.aload_n 0, 1) := by decide +kernel
theorem dX11_image_186 : decode cX11_image 186 = .ok (.getfield 160, 3) := by decide +kernel
theorem dX11_image_189 : decode cX11_image 189 = .ok (.iload_n 1, 1) := by decide +kernel
theorem dX11_image_190 : decode cX11_image 190 = .ok (.iaload, 1) := by decide +kernel
theorem dX11_image_191 : decode cX11_image 191 = .ok (.iastore, 1) := by decide +kernel
theorem dX11_image_192 : decode cX11_image 192 = .ok (.iinc 1 1, 3) := by decide +kernel
theorem dX11_image_195 : decode cX11_image 195 = .ok (.goto (-33), 3) := by decide +kernel
theorem dX11_image_198 : decode cX11_image 198 = .ok (.iconst 0, 1) := by decide +kernel
theorem dX11_image_199 : decode cX11_image 199 = .ok (.istore_n 1, 1) := by decide +kernel
theorem dX11_image_200 : decode cX11_image 200 = .ok (.iload_n 1, 1) := by decide +kernel
theorem dX11_image_201 : decode cX11_image 201 = .ok (.bipush 12, 2) := by decide +kernel
theorem dX11_image_203 : decode cX11_image 203 = .ok (.if_icmp .ge 21, 3) := by decide +kernel
theorem dX11_image_206 : decode cX11_image 206 = .ok (.aload_n 0, 1) := by decide +kernel
theorem dX11_image_207 : decode cX11_image 207 = .ok (.getfield 208, 3) := by decide +kernel
theorem dX11_image_210 : decode cX11_image 210 = .ok (.iload_n 1, 1) := by decide +kernel
theorem dX11_image_211 : decode cX11_image 211 = .ok (.aload_n 0, 1) := by decide +kernel
theorem dX11_image_212 : decode cX11_image 212 = .ok (.getfield 166, 3) := by decide +kernel
theorem dX11_image_215 : decode cX11_image 215 = .ok (.iload_n 1, 1) := by decide +kernel
theorem dX11_image_216 : decode cX11_image 216 = .ok (.iaload, 1) := by decide +kernel
theorem dX11_image_217 : decode cX11_image 217 = .ok (.iastore, 1) := by decide +kernel
theorem dX11_image_218 : decode cX11_image 218 = .ok (.iinc 1 1, 3) := by decide +kernel
theorem dX11_image_221 : decode cX11_image 221 = .ok (.goto (-21), 3) := by decide +kernel
theorem dX11_image_224 : decode cX11_image 224 = .ok (.aload_n 0, 1) := by decide +kernel
theorem dX11_image_225 : decode cX11_image 225 = .ok (.getfield 7, 3) := by decide +kernel
theorem dX11_image_228 : decode cX11_image 228 = .ok (.ireturn, 1) := by decide +kernel
theorem dX11_undo_0 : decode cX11_undo 0 = .ok (.aload_n 0, 1) := by decide +kernel
theorem dX11_undo_1 : decode cX11_undo 1 = .ok (.getfield 169, 3) := by decide +kernel
theorem dX11_undo_4 : decode cX11_undo 4 = .ok (.ifCond .ne 6, 3) := by decide +kernel
theorem dX11_undo_7 : decode cX11_undo 7 = .ok (.bipush (-3), 2) := by decide +kernel
theorem dX11_undo_9 : decode cX11_undo 9 = .ok (.ireturn, 1) := by decide +kernel
theorem dX11_undo_10 : decode cX11_undo 10 = .ok (.aload_n 0, 1) := by decide +kernel
theorem dX11_undo_11 : decode cX11_undo 11 = .ok (.aload_n 0, 1) := by decide +kernel
theorem dX11_undo_12 : decode cX11_undo 12 = .ok (.getfield 172, 3) := by decide +kernel
theorem dX11_undo_15 : decode cX11_undo 15 = .ok (.putfield 42, 3) := by decide +kernel
theorem dX11_undo_18 : decode cX11_undo 18 = .ok (.aload_n 0, 1) := by decide +kernel
theorem dX11_undo_19 : decode cX11_undo 19 = .ok (.aload_n 0, 1) := by decide +kernel
theorem dX11_undo_20 : decode cX11_undo 20 = .ok (.getfield 175, 3) := by decide +kernel
theorem dX11_undo_23 : decode cX11_undo 23 = .ok (.putfield 7, 3) := by decide +kernel
theorem dX11_undo_26 : decode cX11_undo 26 = .ok (.aload_n 0, 1) := by decide +kernel
theorem dX11_undo_27 : decode cX11_undo 27 = .ok (.aload_n 0, 1) := by decide +kernel
theorem dX11_undo_28 : decode cX11_undo 28 = .ok (.getfield 178, 3) := by decide +kernel
theorem dX11_undo_31 : decode cX11_undo 31 = .ok (.putfield 139, 3) := by decide +kernel
theorem dX11_undo_34 : decode cX11_undo 34 = .ok (.aload_n 0, 1) := by decide +kernel
theorem dX11_undo_35 : decode cX11_undo 35 = .ok (.aload_n 0, 1) := by decide +kernel
theorem dX11_undo_36 : decode cX11_undo 36 = .ok (.getfield 181, 3) := by decide +kernel
theorem dX11_undo_39 : decode cX11_undo 39 = .ok (.putfield 154, 3) := by decide +kernel
theorem dX11_undo_42 : decode cX11_undo 42 = .ok (.aload_n 0, 1) := by decide +kernel
theorem dX11_undo_43 : decode cX11_undo 43 = .ok (.aload_n 0, 1) := by decide +kernel
theorem dX11_undo_44 : decode cX11_undo 44 = .ok (.getfield 184, 3) := by decide +kernel
theorem dX11_undo_47 : decode cX11_undo 47 = .ok (.putfield 163, 3) := by decide +kernel
theorem dX11_undo_50 : decode cX11_undo 50 = .ok (.iconst 0, 1) := by decide +kernel
theorem dX11_undo_51 : decode cX11_undo 51 = .ok (.istore_n 1, 1) := by decide +kernel
theorem dX11_undo_52 : decode cX11_undo 52 = .ok (.iload_n 1, 1) := by decide +kernel
theorem dX11_undo_53 : decode cX11_undo 53 = .ok (.bipush 6, 2) := by decide +kernel
theorem dX11_undo_55 : decode cX11_undo 55 = .ok (.if_icmp .ge 33, 3) := by decide +kernel
theorem dX11_undo_58 : decode cX11_undo 58 = .ok (.aload_n 0, 1) := by decide +kernel
theorem dX11_undo_59 : decode cX11_undo 59 = .ok (.getfield 26, 3) := by decide +kernel
theorem dX11_undo_62 : decode cX11_undo 62 = .ok (.iload_n 1, 1) := by decide +kernel
theorem dX11_undo_63 : decode cX11_undo 63 = .ok (.aload_n 0, 1) := by decide +kernel
theorem dX11_undo_64 : decode cX11_undo 64 = .ok (.getfield 187, 3) := by decide +kernel
theorem dX11_undo_67 : decode cX11_undo 67 = .ok (.iload_n 1, 1) := by decide +kernel
theorem dX11_undo_68 : decode cX11_undo 68 = .ok (.iaload, 1) := by decide +kernel
theorem dX11_undo_69 : decode cX11_undo 69 = .ok (.iastore, 1) := by decide +kernel
theorem dX11_undo_70 : decode cX11_undo 70 = .ok (.aload_n 0, 1) := by decide +kernel
theorem dX11_undo_71 : decode cX11_undo 71 = .ok (.getfield 30, 3) := by decide +kernel
theorem dX11_undo_74 : decode cX11_undo 74 = .ok (.iload_n 1, 1) := by decide +kernel
theorem dX11_undo_75 : decode cX11_undo 75 = .ok (.aload_n 0, 1) := by decide +kernel
theorem dX11_undo_76 : decode cX11_undo 76 = .ok (.getfield 190, 3) := by decide +kernel
theorem dX11_undo_79 : decode cX11_undo 79 = .ok (.iload_n 1, 1) := by decide +kernel
theorem dX11_undo_80 : decode cX11_undo 80 = .ok (.iaload, 1) := by decide +kernel
theorem dX11_undo_81 : decode cX11_undo 81 = .ok (.iastore, 1) := by decide +kernel
theorem dX11_undo_82 : decode cX11_undo 82 = .ok (.iinc 1 1, 3) := by decide +kernel
theorem dX11_undo_85 : decode cX11_undo 85 = .ok (.goto (-33), 3) := by decide +kernel
theorem dX11_undo_88 : decode cX11_undo 88 = .ok (.iconst 0, 1) := by decide +kernel
theorem dX11_undo_89 : decode cX11_undo 89 = .ok (.istore_n 1, 1) := by decide +kernel
theorem dX11_undo_90 : decode cX11_undo 90 = .ok (.iload_n 1, 1) := by decide +kernel
theorem dX11_undo_91 : decode cX11_undo 91 = .ok (.bipush 48, 2) := by decide +kernel
theorem dX11_undo_93 : decode cX11_undo 93 = .ok (.if_icmp .ge 21, 3) := by decide +kernel
theorem dX11_undo_96 : decode cX11_undo 96 = .ok (.aload_n 0, 1) := by decide +kernel
theorem dX11_undo_97 : decode cX11_undo 97 = .ok (.getfield 33, 3) := by decide +kernel
theorem dX11_undo_100 : decode cX11_undo 100 = .ok (.iload_n 1, 1) := by decide +kernel
theorem dX11_undo_101 : decode cX11_undo 101 = .ok (.aload_n 0, 1) := by decide +kernel
theorem dX11_undo_102 : decode cX11_undo 102 = .ok (.getfield 193, 3) := by decide +kernel
theorem dX11_undo_105 : decode cX11_undo 105 = .ok (.iload_n 1, 1) := by decide +kernel
theorem dX11_undo_106 : decode cX11_undo 106 = .ok (.iaload, 1) := by decide +kernel
theorem dX11_undo_107 : decode cX11_undo 107 = .ok (.iastore, 1) := by decide +kernel
theorem dX11_undo_108 : decode cX11_undo 108 = .ok (.iinc 1 1, 3) := by decide +kernel
theorem dX11_undo_111 : decode cX11_undo 111 = .ok (.goto (-21), 3) := by decide +kernel
theorem dX11_undo_114 : decode cX11_undo 114 = .ok (.iconst 0, 1) := by decide +kernel
theorem dX11_undo_115 : decode cX11_undo 115 = .ok (.istore_n 1, 1) := by decide +kernel
theorem dX11_undo_116 : decode cX11_undo 116 = .ok (.iload_n 1, 1) := by decide +kernel
theorem dX11_undo_117 : decode cX11_undo 117 = .ok (.bipush 25, 2) := by decide +kernel
theorem dX11_undo_119 : decode cX11_undo 119 = .ok (.if_icmp .ge 21, 3) := by decide +kernel
theorem dX11_undo_122 : decode cX11_undo 122 = .ok (.aload_n 0, 1) := by decide +kernel
theorem dX11_undo_123 : decode cX11_undo 123 = .ok (.getfield 36, 3) := by decide +kernel
theorem dX11_undo_126 : decode cX11_undo 126 = .ok (.iload_n 1, 1) := by decide +kernel
theorem dX11_undo_127 : decode cX11_undo 127 = .ok (.aload_n 0, 1) := by decide +kernel
theorem dX11_undo_128 : decode cX11_undo 128 = .ok (.getfield 196, 3) := by decide +kernel
theorem dX11_undo_131 : decode cX11_undo 131 = .ok (.iload_n 1, 1) := by decide +kernel
theorem dX11_undo_132 : decode cX11_undo 132 = .ok (.iaload, 1) := by decide +kernel
theorem dX11_undo_133 : decode cX11_undo 133 = .ok (.iastore, 1) := by decide +kernel
theorem dX11_undo_134 : decode cX11_undo 134 = .ok (.iinc 1 1, 3) := by decide +kernel
theorem dX11_undo_137 : decode cX11_undo 137 = .ok (.goto (-21), 3) := by decide +kernel
theorem dX11_undo_140 : decode cX11_undo 140 = .ok (.iconst 0, 1) := by decide +kernel
theorem dX11_undo_141 : decode cX11_undo 141 = .ok (.istore_n 1, 1) := by decide +kernel
theorem dX11_undo_142 : decode cX11_undo 142 = .ok (.iload_n 1, 1) := by decide +kernel
theorem dX11_undo_143 : decode cX11_undo 143 = .ok (.iconst 5, 1) := by decide +kernel
theorem dX11_undo_144 : decode cX11_undo 144 = .ok (.if_icmp .ge 21, 3) := by decide +kernel
theorem dX11_undo_147 : decode cX11_undo 147 = .ok (.aload_n 0, 1) := by decide +kernel
theorem dX11_undo_148 : decode cX11_undo 148 = .ok (.getfield 142, 3) := by decide +kernel
theorem dX11_undo_151 : decode cX11_undo 151 = .ok (.iload_n 1, 1) := by decide +kernel
theorem dX11_undo_152 : decode cX11_undo 152 = .ok (.aload_n 0, 1) := by decide +kernel
theorem dX11_undo_153 : decode cX11_undo 153 = .ok (.getfield 199, 3) := by decide +kernel
theorem dX11_undo_156 : decode cX11_undo 156 = .ok (.iload_n 1, 1) := by decide +kernel
theorem dX11_undo_157 : decode cX11_undo 157 = .ok (.iaload, 1) := by decide +kernel
theorem dX11_undo_158 : decode cX11_undo 158 = .ok (.iastore, 1) := by decide +kernel
theorem dX11_undo_159 : decode cX11_undo 159 = .ok (.iinc 1 1, 3) := by decide +kernel
theorem dX11_undo_162 : decode cX11_undo 162 = .ok (.goto (-20), 3) := by decide +kernel
theorem dX11_undo_165 : decode cX11_undo 165 = .ok (.iconst 0, 1) := by decide +kernel
theorem dX11_undo_166 : decode cX11_undo 166 = .ok (.istore_n 1, 1) := by decide +kernel
theorem dX11_undo_167 : decode cX11_undo 167 = .ok (.iload_n 1, 1) := by decide +kernel
theorem dX11_undo_168 : decode cX11_undo 168 = .ok (.bipush 8, 2) := by decide +kernel
theorem dX11_undo_170 : decode cX11_undo 170 = .ok (.if_icmp .ge 33, 3) := by decide +kernel
theorem dX11_undo_173 : decode cX11_undo 173 = .ok (.aload_n 0, 1) := by decide +kernel
theorem dX11_undo_174 : decode cX11_undo 174 = .ok (.getfield 157, 3) := by decide +kernel
theorem dX11_undo_177 : decode cX11_undo 177 = .ok (.iload_n 1, 1) := by decide +kernel
theorem dX11_undo_178 : decode cX11_undo 178 = .ok (.aload_n 0, 1) := by decide +kernel
theorem dX11_undo_179 : decode cX11_undo 179 = .ok (.getfield 202, 3) := by decide +kernel
theorem dX11_undo_182 : decode cX11_undo 182 = .ok (.iload_n 1, 1) := by decide +kernel
theorem dX11_undo_183 : decode cX11_undo 183 = .ok (.iaload, 1) := by decide +kernel
theorem dX11_undo_184 : decode cX11_undo 184 = .ok (.iastore, 1) := by decide +kernel
theorem dX11_undo_185 : decode cX11_undo 185 = .ok (.aload_n 0, 1) := by decide +kernel
theorem dX11_undo_186 : decode cX11_undo 186 = .ok (.getfield 160, 3) := by decide +kernel
theorem dX11_undo_189 : decode cX11_undo 189 = .ok (.iload_n 1, 1) := by decide +kernel
theorem dX11_undo_190 : decode cX11_undo 190 = .ok (.aload_n 0, 1) := by decide +kernel
theorem dX11_undo_191 : decode cX11_undo 191 = .ok (.getfield 205, 3) := by decide +kernel
theorem dX11_undo_194 : decode cX11_undo 194 = .ok (.iload_n 1, 1) := by decide +kernel
theorem dX11_undo_195 : decode cX11_undo 195 = .ok (.iaload, 1) := by decide +kernel
theorem dX11_undo_196 : decode cX11_undo 196 = .ok (.iastore, 1) := by decide +kernel
theorem dX11_undo_197 : decode cX11_undo 197 = .ok (.iinc 1 1, 3) := by decide +kernel
theorem dX11_undo_200 : decode cX11_undo 200 = .ok (.goto (-33), 3) := by decide +kernel
theorem dX11_undo_203 : decode cX11_undo 203 = .ok (.iconst 0, 1) := by decide +kernel
theorem dX11_undo_204 : decode cX11_undo 204 = .ok (.istore_n 1, 1) := by decide +kernel
theorem dX11_undo_205 : decode cX11_undo 205 = .ok (.iload_n 1, 1) := by decide +kernel
theorem dX11_undo_206 : decode cX11_undo 206 = .ok (.bipush 12, 2) := by decide +kernel
theorem dX11_undo_208 : decode cX11_undo 208 = .ok (.if_icmp .ge 21, 3) := by decide +kernel
theorem dX11_undo_211 : decode cX11_undo 211 = .ok (.aload_n 0, 1) := by decide +kernel
theorem dX11_undo_212 : decode cX11_undo 212 = .ok (.getfield 166, 3) := by decide +kernel
theorem dX11_undo_215 : decode cX11_undo 215 = .ok (.iload_n 1, 1) := by decide +kernel
theorem dX11_undo_216 : decode cX11_undo 216 = .ok (.aload_n 0, 1) := by decide +kernel
theorem dX11_undo_217 : decode cX11_undo 217 = .ok (.getfield 208, 3) := by decide +kernel
theorem dX11_undo_220 : decode cX11_undo 220 = .ok (.iload_n 1, 1) := by decide +kernel
theorem dX11_undo_221 : decode cX11_undo 221 = .ok (.iaload, 1) := by decide +kernel
theorem dX11_undo_222 : decode cX11_undo 222 = .ok (.iastore, 1) := by decide +kernel
theorem dX11_undo_223 : decode cX11_undo 223 = .ok (.iinc 1 1, 3) := by decide +kernel
theorem dX11_undo_226 : decode cX11_undo 226 = .ok (.goto (-21), 3) := by decide +kernel
theorem dX11_undo_229 : decode cX11_undo 229 = .ok (.aload_n 0, 1) := by decide +kernel
theorem dX11_undo_230 : decode cX11_undo 230 = .ok (.invokevirtual 297, 3) := by decide +kernel
theorem dX11_undo_233 : decode cX11_undo 233 = .ok (.aload_n 0, 1) := by decide +kernel
theorem dX11_undo_234 : decode cX11_undo 234 = .ok (.getfield 7, 3) := by decide +kernel
theorem dX11_undo_237 : decode cX11_undo 237 = .ok (.ireturn, 1) := by decide +kernel
theorem dX11_body_0 : decode cX11_body 0 = .ok (.aload_n 0, 1) := by decide +kernel
theorem dX11_body_1 : decode cX11_body 1 = .ok (.getfield 211, 3) := by decide +kernel
theorem dX11_body_4 : decode cX11_body 4 = .ok (.bipush 20, 2) := by decide +kernel
theorem dX11_body_6 : decode cX11_body 6 = .ok (.if_icmp .ge 13, 3) := by decide +kernel
theorem dX11_body_9 : decode cX11_body 9 = .ok (.aload_n 0, 1) := by decide +kernel
theorem dX11_body_10 : decode cX11_body 10 = .ok (.getfield 214, 3) := by decide +kernel
theorem dX11_body_13 : decode cX11_body 13 = .ok (.aload_n 0, 1) := by decide +kernel
theorem dX11_body_14 : decode cX11_body 14 = .ok (.getfield 211, 3) := by decide +kernel
theorem dX11_body_17 : decode cX11_body 17 = .ok (.iload_n 1, 1) := by decide +kernel
theorem dX11_body_18 : decode cX11_body 18 = .ok (.iastore, 1) := by decide +kernel
theorem dX11_body_19 : decode cX11_body 19 = .ok (.aload_n 0, 1) := by decide +kernel
theorem dX11_body_20 : decode cX11_body 20 = .ok (.dup, 1) := by decide +kernel
theorem dX11_body_21 : decode cX11_body 21 = .ok (.getfield 211, 3) := by decide +kernel
theorem dX11_body_24 : decode cX11_body 24 = .ok (.iconst 1, 1) := by decide +kernel
theorem dX11_body_25 : decode cX11_body 25 = .ok (.iadd, 1) := by decide +kernel
theorem dX11_body_26 : decode cX11_body 26 = .ok (.putfield 211, 3) := by decide +kernel
theorem dX11_body_29 : decode cX11_body 29 = .ok (.return_, 1) := by decide +kernel
theorem dX11_manLooks_0 : decode cX11_manLooks 0 = .ok (.aload_n 0, 1) := by decide +kernel
theorem dX11_manLooks_1 : decode cX11_manLooks 1 = .ok (.bipush 10, 2) := by decide +kernel
theorem dX11_manLooks_3 : decode cX11_manLooks 3 = .ok (.invokevirtual 426, 3) := by decide +kernel
theorem dX11_manLooks_6 : decode cX11_manLooks 6 = .ok (.iload_n 2, 1) := by decide +kernel
theorem dX11_manLooks_7 : decode cX11_manLooks 7 = .ok (.iload_n 1, 1) := by decide +kernel
theorem dX11_manLooks_8 : decode cX11_manLooks 8 = .ok (.iadd, 1) := by decide +kernel
theorem dX11_manLooks_9 : decode cX11_manLooks 9 = .ok (.ireturn, 1) := by decide +kernel
theorem dX11_looksAct_0 : decode cX11_looksAct 0 = .ok (.aload_n 0, 1) := by decide +kernel
theorem dX11_looksAct_1 : decode cX11_looksAct 1 = .ok (.getfield 26, 3) := by decide +kernel
theorem dX11_looksAct_4 : decode cX11_looksAct 4 = .ok (.iload_n 1, 1) := by decide +kernel
theorem dX11_looksAct_5 : decode cX11_looksAct 5 = .ok (.iaload, 1) := by decide +kernel
theorem dX11_looksAct_6 : decode cX11_looksAct 6 = .ok (.tableswitch 83 2 6 #[34, 83, 49, 34, 63], 34) := by decide +kernel
theorem dX11_looksAct_40 : decode cX11_looksAct 40 = .ok (.aload_n 0, 1) := by decide +kernel
theorem dX11_looksAct_41 : decode cX11_looksAct 41 = .ok (.bipush 30, 2) := by decide +kernel
theorem dX11_looksAct_43 : decode cX11_looksAct 43 = .ok (.invokevirtual 426, 3) := by decide +kernel
theorem dX11_looksAct_46 : decode cX11_looksAct 46 = .ok (.aload_n 0, 1) := by decide +kernel
theorem dX11_looksAct_47 : decode cX11_looksAct 47 = .ok (.iload_n 1, 1) := by decide +kernel
theorem dX11_looksAct_48 : decode cX11_looksAct 48 = .ok (.iload_n 2, 1) := by decide +kernel
theorem dX11_looksAct_49 : decode cX11_looksAct 49 = .ok (.iconst 3, 1) := by decide +kernel
theorem dX11_looksAct_50 : decode cX11_looksAct 50 = .ok (.imul, 1) := by decide +kernel
theorem dX11_looksAct_51 : decode cX11_looksAct 51 = .ok (.invokevirtual 429, 3) := by decide +kernel
theorem dX11_looksAct_54 : decode cX11_looksAct 54 = .ok (.ireturn, 1) := by decide +kernel
theorem dX11_looksAct_55 : decode cX11_looksAct 55 = .ok (.aload_n 0, 1) := by decide +kernel
theorem dX11_looksAct_56 : decode cX11_looksAct 56 = .ok (.bipush 50, 2) := by decide +kernel
theorem dX11_looksAct_58 : decode cX11_looksAct 58 = .ok (.invokevirtual 426, 3) := by decide +kernel
theorem dX11_looksAct_61 : decode cX11_looksAct 61 = .ok (.aload_n 0, 1) := by decide +kernel
theorem dX11_looksAct_62 : decode cX11_looksAct 62 = .ok (.iload_n 1, 1) := by decide +kernel
theorem dX11_looksAct_63 : decode cX11_looksAct 63 = .ok (.iload_n 2, 1) := by decide +kernel
theorem dX11_looksAct_64 : decode cX11_looksAct 64 = .ok (.invokevirtual 429, 3) := by decide +kernel
theorem dX11_looksAct_67 : decode cX11_looksAct 67 = .ok (.ineg, 1) := by decide +kernel
theorem dX11_looksAct_68 : decode cX11_looksAct 68 = .ok (.ireturn, 1) := by decide +kernel
theorem dX11_looksAct_69 : decode cX11_looksAct 69 = .ok (.aload_n 0, 1) := by decide +kernel
theorem dX11_looksAct_70 : decode cX11_looksAct 70 = .ok (.bipush 71, 2) := by decide +kernel
theorem dX11_looksAct_72 : decode cX11_looksAct 72 = .ok (.invokevirtual 426, 3) := by decide +kernel
theorem dX11_looksAct_75 : decode cX11_looksAct 75 = .ok (.aload_n 0, 1) := by decide +kernel
theorem dX11_looksAct_76 : decode cX11_looksAct 76 = .ok (.iload_n 1, 1) := by decide +kernel
theorem dX11_looksAct_77 : decode cX11_looksAct 77 = .ok (.iload_n 2, 1) := by decide +kernel
theorem dX11_looksAct_78 : decode cX11_looksAct 78 = .ok (.invokevirtual 429, 3) := by decide +kernel
theorem dX11_looksAct_81 : decode cX11_looksAct 81 = .ok (.aload_n 0, 1) := by decide +kernel
theorem dX11_looksAct_82 : decode cX11_looksAct 82 = .ok (.getfield 30, 3) := by decide +kernel
theorem dX11_looksAct_85 : decode cX11_looksAct 85 = .ok (.iload_n 1, 1) := by decide +kernel
theorem dX11_looksAct_86 : decode cX11_looksAct 86 = .ok (.iaload, 1) := by decide +kernel
theorem dX11_looksAct_87 : decode cX11_looksAct 87 = .ok (.ixor, 1) := by decide +kernel
theorem dX11_looksAct_88 : decode cX11_looksAct 88 = .ok (.ireturn, 1) := by decide +kernel
theorem dX11_looksAct_89 : decode cX11_looksAct 89 = .ok (.aload_n 0, 1) := by decide +kernel
theorem dX11_looksAct_90 : decode cX11_looksAct 90 = .ok (.iload_n 1, 1) := by decide +kernel
theorem dX11_looksAct_91 : decode cX11_looksAct 91 = .ok (.iload_n 2, 1) := by decide +kernel
theorem dX11_looksAct_92 : decode cX11_looksAct 92 = .ok (.invokevirtual 429, 3) := by decide +kernel
theorem dX11_looksAct_95 : decode cX11_looksAct 95 = .ok (.ireturn, 1) := by decide +kernel
theorem dX11_manSees_0 : decode cX11_manSees 0 = .ok (.aload_n 0, 1) := by decide +kernel
theorem dX11_manSees_1 : decode cX11_manSees 1 = .ok (.bipush 11, 2) := by decide +kernel
theorem dX11_manSees_3 : decode cX11_manSees 3 = .ok (.invokevirtual 426, 3) := by decide +kernel
theorem dX11_manSees_6 : decode cX11_manSees 6 = .ok (.aload_n 0, 1) := by decide +kernel
theorem dX11_manSees_7 : decode cX11_manSees 7 = .ok (.iload_n 1, 1) := by decide +kernel
theorem dX11_manSees_8 : decode cX11_manSees 8 = .ok (.iload_n 2, 1) := by decide +kernel
theorem dX11_manSees_9 : decode cX11_manSees 9 = .ok (.invokevirtual 432, 3) := by decide +kernel
theorem dX11_manSees_12 : decode cX11_manSees 12 = .ok (.aload_n 0, 1) := by decide +kernel
theorem dX11_manSees_13 : decode cX11_manSees 13 = .ok (.getfield 30, 3) := by decide +kernel
theorem dX11_manSees_16 : decode cX11_manSees 16 = .ok (.iload_n 1, 1) := by decide +kernel
theorem dX11_manSees_17 : decode cX11_manSees 17 = .ok (.iaload, 1) := by decide +kernel
theorem dX11_manSees_18 : decode cX11_manSees 18 = .ok (.isub, 1) := by decide +kernel
theorem dX11_manSees_19 : decode cX11_manSees 19 = .ok (.ireturn, 1) := by decide +kernel
theorem dX11_rookSees_0 : decode cX11_rookSees 0 = .ok (.aload_n 0, 1) := by decide +kernel
theorem dX11_rookSees_1 : decode cX11_rookSees 1 = .ok (.bipush 20, 2) := by decide +kernel
theorem dX11_rookSees_3 : decode cX11_rookSees 3 = .ok (.invokevirtual 426, 3) := by decide +kernel
theorem dX11_rookSees_6 : decode cX11_rookSees 6 = .ok (.aload_n 0, 1) := by decide +kernel
theorem dX11_rookSees_7 : decode cX11_rookSees 7 = .ok (.iload_n 1, 1) := by decide +kernel
theorem dX11_rookSees_8 : decode cX11_rookSees 8 = .ok (.iload_n 2, 1) := by decide +kernel
theorem dX11_rookSees_9 : decode cX11_rookSees 9 = .ok (.invokevirtual 435, 3) := by decide +kernel
theorem dX11_rookSees_12 : decode cX11_rookSees 12 = .ok (.bipush 6, 2) := by decide +kernel
theorem dX11_rookSees_14 : decode cX11_rookSees 14 = .ok (.ixor, 1) := by decide +kernel
theorem dX11_rookSees_15 : decode cX11_rookSees 15 = .ok (.ireturn, 1) := by decide +kernel
theorem dX11_seesAct_0 : decode cX11_seesAct 0 = .ok (.aload_n 0, 1) := by decide +kernel
theorem dX11_seesAct_1 : decode cX11_seesAct 1 = .ok (.getfield 26, 3) := by decide +kernel
theorem dX11_seesAct_4 : decode cX11_seesAct 4 = .ok (.iload_n 1, 1) := by decide +kernel
theorem dX11_seesAct_5 : decode cX11_seesAct 5 = .ok (.iaload, 1) := by decide +kernel
theorem dX11_seesAct_6 : decode cX11_seesAct 6 = .ok (.lookupswitch 78 #[(1, 34), (4, 41), (6, 56)], 34) := by decide +kernel
theorem dX11_seesAct_40 : decode cX11_seesAct 40 = .ok (.aload_n 0, 1) := by decide +kernel
theorem dX11_seesAct_41 : decode cX11_seesAct 41 = .ok (.iload_n 1, 1) := by decide +kernel
theorem dX11_seesAct_42 : decode cX11_seesAct 42 = .ok (.iload_n 2, 1) := by decide +kernel
theorem dX11_seesAct_43 : decode cX11_seesAct 43 = .ok (.invokevirtual 438, 3) := by decide +kernel
theorem dX11_seesAct_46 : decode cX11_seesAct 46 = .ok (.ireturn, 1) := by decide +kernel
theorem dX11_seesAct_47 : decode cX11_seesAct 47 = .ok (.aload_n 0, 1) := by decide +kernel
theorem dX11_seesAct_48 : decode cX11_seesAct 48 = .ok (.bipush 51, 2) := by decide +kernel
theorem dX11_seesAct_50 : decode cX11_seesAct 50 = .ok (.invokevirtual 426, 3) := by decide +kernel
theorem dX11_seesAct_53 : decode cX11_seesAct 53 = .ok (.aload_n 0, 1) := by decide +kernel
theorem dX11_seesAct_54 : decode cX11_seesAct 54 = .ok (.iload_n 1, 1) := by decide +kernel
theorem dX11_seesAct_55 : decode cX11_seesAct 55 = .ok (.iload_n 2, 1) := by decide +kernel
theorem dX11_seesAct_56 : decode cX11_seesAct 56 = .ok (.iconst 1, 1) := by decide +kernel
theorem dX11_seesAct_57 : decode cX11_seesAct 57 = .ok (.iadd, 1) := by decide +kernel
theorem dX11_seesAct_58 : decode cX11_seesAct 58 = .ok (.invokevirtual 438, 3) := by decide +kernel
theorem dX11_seesAct_61 : decode cX11_seesAct 61 = .ok (.ireturn, 1) := by decide +kernel
theorem dX11_seesAct_62 : decode cX11_seesAct 62 = .ok (.aload_n 0, 1) := by decide +kernel
theorem dX11_seesAct_63 : decode cX11_seesAct 63 = .ok (.bipush 70, 2) := by decide +kernel
theorem dX11_seesAct_65 : decode cX11_seesAct 65 = .ok (.invokevirtual 426, 3) := by decide +kernel
theorem dX11_seesAct_68 : decode cX11_seesAct 68 = .ok (.aload_n 0, 1) := by decide +kernel
theorem dX11_seesAct_69 : decode cX11_seesAct 69 = .ok (.iload_n 1, 1) := by decide +kernel
theorem dX11_seesAct_70 : decode cX11_seesAct 70 = .ok (.iload_n 2, 1) := by decide +kernel
theorem dX11_seesAct_71 : decode cX11_seesAct 71 = .ok (.invokevirtual 435, 3) := by decide +kernel
theorem dX11_seesAct_74 : decode cX11_seesAct 74 = .ok (.istore_n 3, 1) := by decide +kernel
theorem dX11_seesAct_75 : decode cX11_seesAct 75 = .ok (.iload_n 3, 1) := by decide +kernel
theorem dX11_seesAct_76 : decode cX11_seesAct 76 = .ok (.aload_n 0, 1) := by decide +kernel
theorem dX11_seesAct_77 : decode cX11_seesAct 77 = .ok (.iload_n 1, 1) := by decide +kernel
theorem dX11_seesAct_78 : decode cX11_seesAct 78 = .ok (.iconst 2, 1) := by decide +kernel
theorem dX11_seesAct_79 : decode cX11_seesAct 79 = .ok (.invokevirtual 429, 3) := by decide +kernel
theorem dX11_seesAct_82 : decode cX11_seesAct 82 = .ok (.iadd, 1) := by decide +kernel
theorem dX11_seesAct_83 : decode cX11_seesAct 83 = .ok (.ireturn, 1) := by decide +kernel
theorem dX11_seesAct_84 : decode cX11_seesAct 84 = .ok (.aload_n 0, 1) := by decide +kernel
theorem dX11_seesAct_85 : decode cX11_seesAct 85 = .ok (.iload_n 1, 1) := by decide +kernel
theorem dX11_seesAct_86 : decode cX11_seesAct 86 = .ok (.iload_n 2, 1) := by decide +kernel
theorem dX11_seesAct_87 : decode cX11_seesAct 87 = .ok (.invokevirtual 435, 3) := by decide +kernel
theorem dX11_seesAct_90 : decode cX11_seesAct 90 = .ok (.ireturn, 1) := by decide +kernel
theorem dX11_manTells_0 : decode cX11_manTells 0 = .ok (.aload_n 0, 1) := by decide +kernel
theorem dX11_manTells_1 : decode cX11_manTells 1 = .ok (.bipush 12, 2) := by decide +kernel
theorem dX11_manTells_3 : decode cX11_manTells 3 = .ok (.invokevirtual 426, 3) := by decide +kernel
theorem dX11_manTells_6 : decode cX11_manTells 6 = .ok (.aload_n 0, 1) := by decide +kernel
theorem dX11_manTells_7 : decode cX11_manTells 7 = .ok (.iload_n 1, 1) := by decide +kernel
theorem dX11_manTells_8 : decode cX11_manTells 8 = .ok (.iload_n 2, 1) := by decide +kernel
theorem dX11_manTells_9 : decode cX11_manTells 9 = .ok (.invokevirtual 441, 3) := by decide +kernel
theorem dX11_manTells_12 : decode cX11_manTells 12 = .ok (.iconst 2, 1) := by decide +kernel
theorem dX11_manTells_13 : decode cX11_manTells 13 = .ok (.imul, 1) := by decide +kernel
theorem dX11_manTells_14 : decode cX11_manTells 14 = .ok (.ireturn, 1) := by decide +kernel
theorem dX11_tellsAct_0 : decode cX11_tellsAct 0 = .ok (.aload_n 0, 1) := by decide +kernel
theorem dX11_tellsAct_1 : decode cX11_tellsAct 1 = .ok (.getfield 26, 3) := by decide +kernel
theorem dX11_tellsAct_4 : decode cX11_tellsAct 4 = .ok (.iload_n 1, 1) := by decide +kernel
theorem dX11_tellsAct_5 : decode cX11_tellsAct 5 = .ok (.iaload, 1) := by decide +kernel
theorem dX11_tellsAct_6 : decode cX11_tellsAct 6 = .ok (.tableswitch 67 3 6 #[30, 67, 52, 30], 30) := by decide +kernel
theorem dX11_tellsAct_36 : decode cX11_tellsAct 36 = .ok (.aload_n 0, 1) := by decide +kernel
theorem dX11_tellsAct_37 : decode cX11_tellsAct 37 = .ok (.bipush 40, 2) := by decide +kernel
theorem dX11_tellsAct_39 : decode cX11_tellsAct 39 = .ok (.invokevirtual 426, 3) := by decide +kernel
theorem dX11_tellsAct_42 : decode cX11_tellsAct 42 = .ok (.aload_n 0, 1) := by decide +kernel
theorem dX11_tellsAct_43 : decode cX11_tellsAct 43 = .ok (.iload_n 1, 1) := by decide +kernel
theorem dX11_tellsAct_44 : decode cX11_tellsAct 44 = .ok (.iload_n 2, 1) := by decide +kernel
theorem dX11_tellsAct_45 : decode cX11_tellsAct 45 = .ok (.invokevirtual 444, 3) := by decide +kernel
theorem dX11_tellsAct_48 : decode cX11_tellsAct 48 = .ok (.istore_n 3, 1) := by decide +kernel
theorem dX11_tellsAct_49 : decode cX11_tellsAct 49 = .ok (.iload_n 3, 1) := by decide +kernel
theorem dX11_tellsAct_50 : decode cX11_tellsAct 50 = .ok (.aload_n 0, 1) := by decide +kernel
theorem dX11_tellsAct_51 : decode cX11_tellsAct 51 = .ok (.iload_n 1, 1) := by decide +kernel
theorem dX11_tellsAct_52 : decode cX11_tellsAct 52 = .ok (.iconst 1, 1) := by decide +kernel
theorem dX11_tellsAct_53 : decode cX11_tellsAct 53 = .ok (.invokevirtual 441, 3) := by decide +kernel
theorem dX11_tellsAct_56 : decode cX11_tellsAct 56 = .ok (.iadd, 1) := by decide +kernel
theorem dX11_tellsAct_57 : decode cX11_tellsAct 57 = .ok (.ireturn, 1) := by decide +kernel
theorem dX11_tellsAct_58 : decode cX11_tellsAct 58 = .ok (.aload_n 0, 1) := by decide +kernel
theorem dX11_tellsAct_59 : decode cX11_tellsAct 59 = .ok (.bipush 60, 2) := by decide +kernel
theorem dX11_tellsAct_61 : decode cX11_tellsAct 61 = .ok (.invokevirtual 426, 3) := by decide +kernel
theorem dX11_tellsAct_64 : decode cX11_tellsAct 64 = .ok (.aload_n 0, 1) := by decide +kernel
theorem dX11_tellsAct_65 : decode cX11_tellsAct 65 = .ok (.iload_n 1, 1) := by decide +kernel
theorem dX11_tellsAct_66 : decode cX11_tellsAct 66 = .ok (.iload_n 2, 1) := by decide +kernel
theorem dX11_tellsAct_67 : decode cX11_tellsAct 67 = .ok (.iload_n 1, 1) := by decide +kernel
theorem dX11_tellsAct_68 : decode cX11_tellsAct 68 = .ok (.isub, 1) := by decide +kernel
theorem dX11_tellsAct_69 : decode cX11_tellsAct 69 = .ok (.invokevirtual 444, 3) := by decide +kernel
theorem dX11_tellsAct_72 : decode cX11_tellsAct 72 = .ok (.ireturn, 1) := by decide +kernel
theorem dX11_tellsAct_73 : decode cX11_tellsAct 73 = .ok (.aload_n 0, 1) := by decide +kernel
theorem dX11_tellsAct_74 : decode cX11_tellsAct 74 = .ok (.iload_n 1, 1) := by decide +kernel
theorem dX11_tellsAct_75 : decode cX11_tellsAct 75 = .ok (.iload_n 2, 1) := by decide +kernel
theorem dX11_tellsAct_76 : decode cX11_tellsAct 76 = .ok (.invokevirtual 444, 3) := by decide +kernel
theorem dX11_tellsAct_79 : decode cX11_tellsAct 79 = .ok (.ireturn, 1) := by decide +kernel
theorem dX11_act_0 : decode cX11_act 0 = .ok (.aload_n 0, 1) := by decide +kernel
theorem dX11_act_1 : decode cX11_act 1 = .ok (.iconst 0, 1) := by decide +kernel
theorem dX11_act_2 : decode cX11_act 2 = .ok (.putfield 211, 3) := by decide +kernel
theorem dX11_act_5 : decode cX11_act 5 = .ok (.aload_n 0, 1) := by decide +kernel
theorem dX11_act_6 : decode cX11_act 6 = .ok (.iload_n 1, 1) := by decide +kernel
theorem dX11_act_7 : decode cX11_act 7 = .ok (.invokevirtual 234, 3) := by decide +kernel
theorem dX11_act_10 : decode cX11_act 10 = .ok (.ifCond .eq 13, 3) := by decide +kernel
theorem dX11_act_13 : decode cX11_act 13 = .ok (.aload_n 0, 1) := by decide +kernel
theorem dX11_act_14 : decode cX11_act 14 = .ok (.iload_n 2, 1) := by decide +kernel
theorem dX11_act_15 : decode cX11_act 15 = .ok (.iconst 0, 1) := by decide +kernel
theorem dX11_act_16 : decode cX11_act 16 = .ok (.iconst 2, 1) := by decide +kernel
theorem dX11_act_17 : decode cX11_act 17 = .ok (.invokevirtual 230, 3) := by decide +kernel
theorem dX11_act_20 : decode cX11_act 20 = .ok (.ifCond .ne 5, 3) := by decide +kernel
theorem dX11_act_23 : decode cX11_act 23 = .ok (.iconst 0, 1) := by decide +kernel
theorem dX11_act_24 : decode cX11_act 24 = .ok (.ireturn, 1) := by decide +kernel
theorem dX11_act_25 : decode cX11_act 25 = .ok (.iload_n 2, 1) := by decide +kernel
theorem dX11_act_26 : decode cX11_act 26 = .ok (.ifCond .ne 12, 3) := by decide +kernel
theorem dX11_act_29 : decode cX11_act 29 = .ok (.aload_n 0, 1) := by decide +kernel
theorem dX11_act_30 : decode cX11_act 30 = .ok (.iload_n 1, 1) := by decide +kernel
theorem dX11_act_31 : decode cX11_act 31 = .ok (.iload_n 3, 1) := by decide +kernel
theorem dX11_act_32 : decode cX11_act 32 = .ok (.invokevirtual 432, 3) := by decide +kernel
theorem dX11_act_35 : decode cX11_act 35 = .ok (.goto 23, 3) := by decide +kernel
theorem dX11_act_38 : decode cX11_act 38 = .ok (.iload_n 2, 1) := by decide +kernel
theorem dX11_act_39 : decode cX11_act 39 = .ok (.iconst 1, 1) := by decide +kernel
theorem dX11_act_40 : decode cX11_act 40 = .ok (.if_icmp .ne 12, 3) := by decide +kernel
theorem dX11_act_43 : decode cX11_act 43 = .ok (.aload_n 0, 1) := by decide +kernel
theorem dX11_act_44 : decode cX11_act 44 = .ok (.iload_n 1, 1) := by decide +kernel
theorem dX11_act_45 : decode cX11_act 45 = .ok (.iload_n 3, 1) := by decide +kernel
theorem dX11_act_46 : decode cX11_act 46 = .ok (.invokevirtual 441, 3) := by decide +kernel
theorem dX11_act_49 : decode cX11_act 49 = .ok (.goto 9, 3) := by decide +kernel
theorem dX11_act_52 : decode cX11_act 52 = .ok (.aload_n 0, 1) := by decide +kernel
theorem dX11_act_53 : decode cX11_act 53 = .ok (.iload_n 1, 1) := by decide +kernel
theorem dX11_act_54 : decode cX11_act 54 = .ok (.iload_n 3, 1) := by decide +kernel
theorem dX11_act_55 : decode cX11_act 55 = .ok (.invokevirtual 447, 3) := by decide +kernel
theorem dX11_act_58 : decode cX11_act 58 = .ok (.ireturn, 1) := by decide +kernel
theorem dX11_trace_0 : decode cX11_trace 0 = .ok (.aload_n 0, 1) := by decide +kernel
theorem dX11_trace_1 : decode cX11_trace 1 = .ok (.iload_n 1, 1) := by decide +kernel
theorem dX11_trace_2 : decode cX11_trace 2 = .ok (.iconst 0, 1) := by decide +kernel
theorem dX11_trace_3 : decode cX11_trace 3 = .ok (.bipush 19, 2) := by decide +kernel
theorem dX11_trace_5 : decode cX11_trace 5 = .ok (.invokevirtual 230, 3) := by decide +kernel
theorem dX11_trace_8 : decode cX11_trace 8 = .ok (.ifCond .eq 20, 3) := by decide +kernel
theorem dX11_trace_11 : decode cX11_trace 11 = .ok (.iload_n 1, 1) := by decide +kernel
theorem dX11_trace_12 : decode cX11_trace 12 = .ok (.aload_n 0, 1) := by decide +kernel
theorem dX11_trace_13 : decode cX11_trace 13 = .ok (.getfield 211, 3) := by decide +kernel
theorem dX11_trace_16 : decode cX11_trace 16 = .ok (.if_icmp .ge 12, 3) := by decide +kernel
theorem dX11_trace_19 : decode cX11_trace 19 = .ok (.aload_n 0, 1) := by decide +kernel
theorem dX11_trace_20 : decode cX11_trace 20 = .ok (.getfield 214, 3) := by decide +kernel
theorem dX11_trace_23 : decode cX11_trace 23 = .ok (.iload_n 1, 1) := by decide +kernel
theorem dX11_trace_24 : decode cX11_trace 24 = .ok (.iaload, 1) := by decide +kernel
theorem dX11_trace_25 : decode cX11_trace 25 = .ok (.goto 4, 3) := by decide +kernel
theorem dX11_trace_28 : decode cX11_trace 28 = .ok (.iconst (-1), 1) := by decide +kernel
theorem dX11_trace_29 : decode cX11_trace 29 = .ok (.ireturn, 1) := by decide +kernel
theorem dX11_taken_0 : decode cX11_taken 0 = .ok (.aload_n 0, 1) := by decide +kernel
theorem dX11_taken_1 : decode cX11_taken 1 = .ok (.iload_n 2, 1) := by decide +kernel
theorem dX11_taken_2 : decode cX11_taken 2 = .ok (.iconst 0, 1) := by decide +kernel
theorem dX11_taken_3 : decode cX11_taken 3 = .ok (.bipush 6, 2) := by decide +kernel
theorem dX11_taken_5 : decode cX11_taken 5 = .ok (.invokevirtual 230, 3) := by decide +kernel
theorem dX11_taken_8 : decode cX11_taken 8 = .ok (.ifCond .ne 6, 3) := by decide +kernel
theorem dX11_taken_11 : decode cX11_taken 11 = .ok (.bipush (-2), 2) := by decide +kernel
theorem dX11_taken_13 : decode cX11_taken 13 = .ok (.ireturn, 1) := by decide +kernel
theorem dX11_taken_14 : decode cX11_taken 14 = .ok (.aload_n 0, 1) := by decide +kernel
theorem dX11_taken_15 : decode cX11_taken 15 = .ok (.iload_n 1, 1) := by decide +kernel
theorem dX11_taken_16 : decode cX11_taken 16 = .ok (.invokevirtual 234, 3) := by decide +kernel
theorem dX11_taken_19 : decode cX11_taken 19 = .ok (.ifCond .ne 6, 3) := by decide +kernel
theorem dX11_taken_22 : decode cX11_taken 22 = .ok (.bipush (-11), 2) := by decide +kernel
theorem dX11_taken_24 : decode cX11_taken 24 = .ok (.ireturn, 1) := by decide +kernel
theorem dX11_taken_25 : decode cX11_taken 25 = .ok (.aload_n 0, 1) := by decide +kernel
theorem dX11_taken_26 : decode cX11_taken 26 = .ok (.getfield 26, 3) := by decide +kernel
theorem dX11_taken_29 : decode cX11_taken 29 = .ok (.iload_n 1, 1) := by decide +kernel
theorem dX11_taken_30 : decode cX11_taken 30 = .ok (.iaload, 1) := by decide +kernel
theorem dX11_taken_31 : decode cX11_taken 31 = .ok (.istore_n 3, 1) := by decide +kernel
theorem dX11_taken_32 : decode cX11_taken 32 = .ok (.iload_n 2, 1) := by decide +kernel
theorem dX11_taken_33 : decode cX11_taken 33 = .ok (.ifCond .eq 39, 3) := by decide +kernel
theorem dX11_taken_36 : decode cX11_taken 36 = .ok (.iload_n 3, 1) := by decide +kernel
theorem dX11_taken_37 : decode cX11_taken 37 = .ok (.iload_n 2, 1) := by decide +kernel
theorem dX11_taken_38 : decode cX11_taken 38 = .ok (.if_icmp .eq 34, 3) := by decide +kernel
theorem dX11_taken_41 : decode cX11_taken 41 = .ok (.iload_n 2, 1) := by decide +kernel
theorem dX11_taken_42 : decode cX11_taken 42 = .ok (.iconst 1, 1) := by decide +kernel
theorem dX11_taken_43 : decode cX11_taken 43 = .ok (.if_icmp .ne 8, 3) := by decide +kernel
theorem dX11_taken_46 : decode cX11_taken 46 = .ok (.iload_n 3, 1) := by decide +kernel
theorem dX11_taken_47 : decode cX11_taken 47 = .ok (.iconst 4, 1) := by decide +kernel
theorem dX11_taken_48 : decode cX11_taken 48 = .ok (.if_icmp .eq 24, 3) := by decide +kernel
theorem dX11_taken_51 : decode cX11_taken 51 = .ok (.iload_n 2, 1) := by decide +kernel
theorem dX11_taken_52 : decode cX11_taken 52 = .ok (.iconst 2, 1) := by decide +kernel
theorem dX11_taken_53 : decode cX11_taken 53 = .ok (.if_icmp .ne 8, 3) := by decide +kernel
theorem dX11_taken_56 : decode cX11_taken 56 = .ok (.iload_n 3, 1) := by decide +kernel
theorem dX11_taken_57 : decode cX11_taken 57 = .ok (.iconst 5, 1) := by decide +kernel
theorem dX11_taken_58 : decode cX11_taken 58 = .ok (.if_icmp .eq 14, 3) := by decide +kernel
theorem dX11_taken_61 : decode cX11_taken 61 = .ok (.iload_n 2, 1) := by decide +kernel
theorem dX11_taken_62 : decode cX11_taken 62 = .ok (.iconst 3, 1) := by decide +kernel
theorem dX11_taken_63 : decode cX11_taken 63 = .ok (.if_icmp .ne 13, 3) := by decide +kernel
theorem dX11_taken_66 : decode cX11_taken 66 = .ok (.iload_n 3, 1) := by decide +kernel
theorem dX11_taken_67 : decode cX11_taken 67 = .ok (.bipush 6, 2) := by decide +kernel
theorem dX11_taken_69 : decode cX11_taken 69 = .ok (.if_icmp .ne 7, 3) := by decide +kernel
theorem dX11_taken_72 : decode cX11_taken 72 = .ok (.iload_n 3, 1) := by decide +kernel
theorem dX11_taken_73 : decode cX11_taken 73 = .ok (.goto 5, 3) := by decide +kernel
theorem dX11_taken_76 : decode cX11_taken 76 = .ok (.bipush (-12), 2) := by decide +kernel
theorem dX11_taken_78 : decode cX11_taken 78 = .ok (.ireturn, 1) := by decide +kernel
theorem dX11_count_0 : decode cX11_count 0 = .ok (.iload_n 1, 1) := by decide +kernel
theorem dX11_count_1 : decode cX11_count 1 = .ok (.tableswitch 78 0 6 #[43, 48, 53, 58, 63, 68, 73], 43) := by decide +kernel
theorem dX11_count_44 : decode cX11_count 44 = .ok (.aload_n 0, 1) := by decide +kernel
theorem dX11_count_45 : decode cX11_count 45 = .ok (.getfield 7, 3) := by decide +kernel
theorem dX11_count_48 : decode cX11_count 48 = .ok (.ireturn, 1) := by decide +kernel
theorem dX11_count_49 : decode cX11_count 49 = .ok (.aload_n 0, 1) := by decide +kernel
theorem dX11_count_50 : decode cX11_count 50 = .ok (.getfield 39, 3) := by decide +kernel
theorem dX11_count_53 : decode cX11_count 53 = .ok (.ireturn, 1) := by decide +kernel
theorem dX11_count_54 : decode cX11_count 54 = .ok (.aload_n 0, 1) := by decide +kernel
theorem dX11_count_55 : decode cX11_count 55 = .ok (.getfield 139, 3) := by decide +kernel
theorem dX11_count_58 : decode cX11_count 58 = .ok (.ireturn, 1) := by decide +kernel
theorem dX11_count_59 : decode cX11_count 59 = .ok (.aload_n 0, 1) := by decide +kernel
theorem dX11_count_60 : decode cX11_count 60 = .ok (.getfield 154, 3) := by decide +kernel
theorem dX11_count_63 : decode cX11_count 63 = .ok (.ireturn, 1) := by decide +kernel
theorem dX11_count_64 : decode cX11_count 64 = .ok (.aload_n 0, 1) := by decide +kernel
theorem dX11_count_65 : decode cX11_count 65 = .ok (.getfield 163, 3) := by decide +kernel
theorem dX11_count_68 : decode cX11_count 68 = .ok (.ireturn, 1) := by decide +kernel
theorem dX11_count_69 : decode cX11_count 69 = .ok (.aload_n 0, 1) := by decide +kernel
theorem dX11_count_70 : decode cX11_count 70 = .ok (.getfield 45, 3) := by decide +kernel
theorem dX11_count_73 : decode cX11_count 73 = .ok (.ireturn, 1) := by decide +kernel
theorem dX11_count_74 : decode cX11_count 74 = .ok (.aload_n 0, 1) := by decide +kernel
theorem dX11_count_75 : decode cX11_count 75 = .ok (.getfield 211, 3) := by decide +kernel
theorem dX11_count_78 : decode cX11_count 78 = .ok (.ireturn, 1) := by decide +kernel
theorem dX11_count_79 : decode cX11_count 79 = .ok (.bipush (-2), 2) := by decide +kernel
theorem dX11_count_81 : decode cX11_count 81 = .ok (.ireturn, 1) := by decide +kernel
theorem dX11_isTape_0 : decode cX11_isTape 0 = .ok (.aload_n 0, 1) := by decide +kernel
theorem dX11_isTape_1 : decode cX11_isTape 1 = .ok (.iload_n 1, 1) := by decide +kernel
theorem dX11_isTape_2 : decode cX11_isTape 2 = .ok (.iconst 0, 1) := by decide +kernel
theorem dX11_isTape_3 : decode cX11_isTape 3 = .ok (.iconst 5, 1) := by decide +kernel
theorem dX11_isTape_4 : decode cX11_isTape 4 = .ok (.invokevirtual 230, 3) := by decide +kernel
theorem dX11_isTape_7 : decode cX11_isTape 7 = .ok (.ireturn, 1) := by decide +kernel
theorem dX11_tape_0 : decode cX11_tape 0 = .ok (.aload_n 0, 1) := by decide +kernel
theorem dX11_tape_1 : decode cX11_tape 1 = .ok (.iload_n 1, 1) := by decide +kernel
theorem dX11_tape_2 : decode cX11_tape 2 = .ok (.invokevirtual 423, 3) := by decide +kernel
theorem dX11_tape_5 : decode cX11_tape 5 = .ok (.ifCond .ne 5, 3) := by decide +kernel
theorem dX11_tape_8 : decode cX11_tape 8 = .ok (.iconst (-1), 1) := by decide +kernel
theorem dX11_tape_9 : decode cX11_tape 9 = .ok (.ireturn, 1) := by decide +kernel
theorem dX11_tape_10 : decode cX11_tape 10 = .ok (.aload_n 0, 1) := by decide +kernel
theorem dX11_tape_11 : decode cX11_tape 11 = .ok (.iload_n 2, 1) := by decide +kernel
theorem dX11_tape_12 : decode cX11_tape 12 = .ok (.iconst (-1), 1) := by decide +kernel
theorem dX11_tape_13 : decode cX11_tape 13 = .ok (.iconst 4, 1) := by decide +kernel
theorem dX11_tape_14 : decode cX11_tape 14 = .ok (.invokevirtual 230, 3) := by decide +kernel
theorem dX11_tape_17 : decode cX11_tape 17 = .ok (.ifCond .eq 13, 3) := by decide +kernel
theorem dX11_tape_20 : decode cX11_tape 20 = .ok (.iload_n 2, 1) := by decide +kernel
theorem dX11_tape_21 : decode cX11_tape 21 = .ok (.ifCond .lt 12, 3) := by decide +kernel
theorem dX11_tape_24 : decode cX11_tape 24 = .ok (.iload_n 3, 1) := by decide +kernel
theorem dX11_tape_25 : decode cX11_tape 25 = .ok (.bipush 60, 2) := by decide +kernel
theorem dX11_tape_27 : decode cX11_tape 27 = .ok (.if_icmp .le 6, 3) := by decide +kernel
theorem dX11_tape_30 : decode cX11_tape 30 = .ok (.bipush (-2), 2) := by decide +kernel
theorem dX11_tape_32 : decode cX11_tape 32 = .ok (.ireturn, 1) := by decide +kernel
theorem dX11_tape_33 : decode cX11_tape 33 = .ok (.iload_n 2, 1) := by decide +kernel
theorem dX11_tape_34 : decode cX11_tape 34 = .ok (.ifCond .lt 10, 3) := by decide +kernel
theorem dX11_tape_37 : decode cX11_tape 37 = .ok (.iload_n 3, 1) := by decide +kernel
theorem dX11_tape_38 : decode cX11_tape 38 = .ok (.ifCond .ge 6, 3) := by decide +kernel
theorem dX11_tape_41 : decode cX11_tape 41 = .ok (.bipush (-14), 2) := by decide +kernel
theorem dX11_tape_43 : decode cX11_tape 43 = .ok (.ireturn, 1) := by decide +kernel
theorem dX11_tape_44 : decode cX11_tape 44 = .ok (.aload_n 0, 1) := by decide +kernel
theorem dX11_tape_45 : decode cX11_tape 45 = .ok (.getfield 217, 3) := by decide +kernel
theorem dX11_tape_48 : decode cX11_tape 48 = .ok (.iload_n 1, 1) := by decide +kernel
theorem dX11_tape_49 : decode cX11_tape 49 = .ok (.iload_n 2, 1) := by decide +kernel
theorem dX11_tape_50 : decode cX11_tape 50 = .ok (.iastore, 1) := by decide +kernel
theorem dX11_tape_51 : decode cX11_tape 51 = .ok (.aload_n 0, 1) := by decide +kernel
theorem dX11_tape_52 : decode cX11_tape 52 = .ok (.getfield 220, 3) := by decide +kernel
theorem dX11_tape_55 : decode cX11_tape 55 = .ok (.iload_n 1, 1) := by decide +kernel
theorem dX11_tape_56 : decode cX11_tape 56 = .ok (.iload_n 2, 1) := by decide +kernel
theorem dX11_tape_57 : decode cX11_tape 57 = .ok (.ifCond .ge 7, 3) := by decide +kernel
theorem dX11_tape_60 : decode cX11_tape 60 = .ok (.iconst 0, 1) := by decide +kernel
theorem dX11_tape_61 : decode cX11_tape 61 = .ok (.goto 4, 3) := by decide +kernel
theorem dX11_tape_64 : decode cX11_tape 64 = .ok (.iload_n 3, 1) := by decide +kernel
theorem dX11_tape_65 : decode cX11_tape 65 = .ok (.iastore, 1) := by decide +kernel
theorem dX11_tape_66 : decode cX11_tape 66 = .ok (.iconst 0, 1) := by decide +kernel
theorem dX11_tape_67 : decode cX11_tape 67 = .ok (.istore 4, 2) := by decide +kernel
theorem dX11_tape_69 : decode cX11_tape 69 = .ok (.iload 4, 2) := by decide +kernel
theorem dX11_tape_71 : decode cX11_tape 71 = .ok (.bipush 60, 2) := by decide +kernel
theorem dX11_tape_73 : decode cX11_tape 73 = .ok (.if_icmp .ge 22, 3) := by decide +kernel
theorem dX11_tape_76 : decode cX11_tape 76 = .ok (.aload_n 0, 1) := by decide +kernel
theorem dX11_tape_77 : decode cX11_tape 77 = .ok (.getfield 223, 3) := by decide +kernel
theorem dX11_tape_80 : decode cX11_tape 80 = .ok (.bipush 60, 2) := by decide +kernel
theorem dX11_tape_82 : decode cX11_tape 82 = .ok (.iload_n 1, 1) := by decide +kernel
theorem dX11_tape_83 : decode cX11_tape 83 = .ok (.imul, 1) := by decide +kernel
theorem dX11_tape_84 : decode cX11_tape 84 = .ok (.iload 4, 2) := by decide +kernel
theorem dX11_tape_86 : decode cX11_tape 86 = .ok (.iadd, 1) := by decide +kernel
theorem dX11_tape_87 : decode cX11_tape 87 = .ok (.lconst 0, 1) := by decide +kernel
theorem dX11_tape_88 : decode cX11_tape 88 = .ok (.lastore, 1) := by decide +kernel
theorem dX11_tape_89 : decode cX11_tape 89 = .ok (.iinc 4 1, 3) := by decide +kernel
theorem dX11_tape_92 : decode cX11_tape 92 = .ok (.goto (-23), 3) := by decide +kernel
theorem dX11_tape_95 : decode cX11_tape 95 = .ok (.iconst 1, 1) := by decide +kernel
theorem dX11_tape_96 : decode cX11_tape 96 = .ok (.ireturn, 1) := by decide +kernel
theorem dX11_narrow_0 : decode cX11_narrow 0 = .ok (.iload_n 1, 1) := by decide +kernel
theorem dX11_narrow_1 : decode cX11_narrow 1 = .ok (.ifCond .ne 10, 3) := by decide +kernel
theorem dX11_narrow_4 : decode cX11_narrow 4 = .ok (.lload_n 2, 1) := by decide +kernel
theorem dX11_narrow_5 : decode cX11_narrow 5 = .ok (.l2i, 1) := by decide +kernel
theorem dX11_narrow_6 : decode cX11_narrow 6 = .ok (.i2b, 1) := by decide +kernel
theorem dX11_narrow_7 : decode cX11_narrow 7 = .ok (.i2l, 1) := by decide +kernel
theorem dX11_narrow_8 : decode cX11_narrow 8 = .ok (.goto 46, 3) := by decide +kernel
theorem dX11_narrow_11 : decode cX11_narrow 11 = .ok (.iload_n 1, 1) := by decide +kernel
theorem dX11_narrow_12 : decode cX11_narrow 12 = .ok (.iconst 1, 1) := by decide +kernel
theorem dX11_narrow_13 : decode cX11_narrow 13 = .ok (.if_icmp .ne 10, 3) := by decide +kernel
theorem dX11_narrow_16 : decode cX11_narrow 16 = .ok (.lload_n 2, 1) := by decide +kernel
theorem dX11_narrow_17 : decode cX11_narrow 17 = .ok (.l2i, 1) := by decide +kernel
theorem dX11_narrow_18 : decode cX11_narrow 18 = .ok (.i2s, 1) := by decide +kernel
theorem dX11_narrow_19 : decode cX11_narrow 19 = .ok (.i2l, 1) := by decide +kernel
theorem dX11_narrow_20 : decode cX11_narrow 20 = .ok (.goto 34, 3) := by decide +kernel
theorem dX11_narrow_23 : decode cX11_narrow 23 = .ok (.iload_n 1, 1) := by decide +kernel
theorem dX11_narrow_24 : decode cX11_narrow 24 = .ok (.iconst 2, 1) := by decide +kernel
theorem dX11_narrow_25 : decode cX11_narrow 25 = .ok (.if_icmp .ne 9, 3) := by decide +kernel
theorem dX11_narrow_28 : decode cX11_narrow 28 = .ok (.lload_n 2, 1) := by decide +kernel
theorem dX11_narrow_29 : decode cX11_narrow 29 = .ok (.l2i, 1) := by decide +kernel
theorem dX11_narrow_30 : decode cX11_narrow 30 = .ok (.i2l, 1) := by decide +kernel
theorem dX11_narrow_31 : decode cX11_narrow 31 = .ok (.goto 23, 3) := by decide +kernel
theorem dX11_narrow_34 : decode cX11_narrow 34 = .ok (.iload_n 1, 1) := by decide +kernel
theorem dX11_narrow_35 : decode cX11_narrow 35 = .ok (.iconst 4, 1) := by decide +kernel
theorem dX11_narrow_36 : decode cX11_narrow 36 = .ok (.if_icmp .ne 17, 3) := by decide +kernel
theorem dX11_narrow_39 : decode cX11_narrow 39 = .ok (.lload_n 2, 1) := by decide +kernel
theorem dX11_narrow_40 : decode cX11_narrow 40 = .ok (.lconst 0, 1) := by decide +kernel
theorem dX11_narrow_41 : decode cX11_narrow 41 = .ok (.lcmp, 1) := by decide +kernel
theorem dX11_narrow_42 : decode cX11_narrow 42 = .ok (.ifCond .eq 7, 3) := by decide +kernel
theorem dX11_narrow_45 : decode cX11_narrow 45 = .ok (.lconst 1, 1) := by decide +kernel
theorem dX11_narrow_46 : decode cX11_narrow 46 = .ok (.goto 8, 3) := by decide +kernel
theorem dX11_narrow_49 : decode cX11_narrow 49 = .ok (.lconst 0, 1) := by decide +kernel
theorem dX11_narrow_50 : decode cX11_narrow 50 = .ok (.goto 4, 3) := by decide +kernel
theorem dX11_narrow_53 : decode cX11_narrow 53 = .ok (.lload_n 2, 1) := by decide +kernel
theorem dX11_narrow_54 : decode cX11_narrow 54 = .ok (.lreturn, 1) := by decide +kernel
theorem dX11_item_0 : decode cX11_item 0 = .ok (.aload_n 0, 1) := by decide +kernel
theorem dX11_item_1 : decode cX11_item 1 = .ok (.iload_n 1, 1) := by decide +kernel
theorem dX11_item_2 : decode cX11_item 2 = .ok (.invokevirtual 423, 3) := by decide +kernel
theorem dX11_item_5 : decode cX11_item 5 = .ok (.ifCond .ne 5, 3) := by decide +kernel
theorem dX11_item_8 : decode cX11_item 8 = .ok (.iconst (-1), 1) := by decide +kernel
theorem dX11_item_9 : decode cX11_item 9 = .ok (.ireturn, 1) := by decide +kernel
theorem dX11_item_10 : decode cX11_item 10 = .ok (.aload_n 0, 1) := by decide +kernel
theorem dX11_item_11 : decode cX11_item 11 = .ok (.getfield 217, 3) := by decide +kernel
theorem dX11_item_14 : decode cX11_item 14 = .ok (.iload_n 1, 1) := by decide +kernel
theorem dX11_item_15 : decode cX11_item 15 = .ok (.iaload, 1) := by decide +kernel
theorem dX11_item_16 : decode cX11_item 16 = .ok (.ifCond .ge 6, 3) := by decide +kernel
theorem dX11_item_19 : decode cX11_item 19 = .ok (.bipush (-11), 2) := by decide +kernel
theorem dX11_item_21 : decode cX11_item 21 = .ok (.ireturn, 1) := by decide +kernel
theorem dX11_item_22 : decode cX11_item 22 = .ok (.aload_n 0, 1) := by decide +kernel
theorem dX11_item_23 : decode cX11_item 23 = .ok (.iload_n 2, 1) := by decide +kernel
theorem dX11_item_24 : decode cX11_item 24 = .ok (.iconst 0, 1) := by decide +kernel
theorem dX11_item_25 : decode cX11_item 25 = .ok (.aload_n 0, 1) := by decide +kernel
theorem dX11_item_26 : decode cX11_item 26 = .ok (.getfield 220, 3) := by decide +kernel
theorem dX11_item_29 : decode cX11_item 29 = .ok (.iload_n 1, 1) := by decide +kernel
theorem dX11_item_30 : decode cX11_item 30 = .ok (.iaload, 1) := by decide +kernel
theorem dX11_item_31 : decode cX11_item 31 = .ok (.iconst 1, 1) := by decide +kernel
theorem dX11_item_32 : decode cX11_item 32 = .ok (.isub, 1) := by decide +kernel
theorem dX11_item_33 : decode cX11_item 33 = .ok (.invokevirtual 230, 3) := by decide +kernel
theorem dX11_item_36 : decode cX11_item 36 = .ok (.ifCond .ne 6, 3) := by decide +kernel
theorem dX11_item_39 : decode cX11_item 39 = .ok (.bipush (-13), 2) := by decide +kernel
theorem dX11_item_41 : decode cX11_item 41 = .ok (.ireturn, 1) := by decide +kernel
theorem dX11_item_42 : decode cX11_item 42 = .ok (.aload_n 0, 1) := by decide +kernel
theorem dX11_item_43 : decode cX11_item 43 = .ok (.getfield 223, 3) := by decide +kernel
theorem dX11_item_46 : decode cX11_item 46 = .ok (.bipush 60, 2) := by decide +kernel
theorem dX11_item_48 : decode cX11_item 48 = .ok (.iload_n 1, 1) := by decide +kernel
theorem dX11_item_49 : decode cX11_item 49 = .ok (.imul, 1) := by decide +kernel
theorem dX11_item_50 : decode cX11_item 50 = .ok (.iload_n 2, 1) := by decide +kernel
theorem dX11_item_51 : decode cX11_item 51 = .ok (.iadd, 1) := by decide +kernel
theorem dX11_item_52 : decode cX11_item 52 = .ok (.aload_n 0, 1) := by decide +kernel
theorem dX11_item_53 : decode cX11_item 53 = .ok (.aload_n 0, 1) := by decide +kernel
theorem dX11_item_54 : decode cX11_item 54 = .ok (.getfield 217, 3) := by decide +kernel
theorem dX11_item_57 : decode cX11_item 57 = .ok (.iload_n 1, 1) := by decide +kernel
theorem dX11_item_58 : decode cX11_item 58 = .ok (.iaload, 1) := by decide +kernel
theorem dX11_item_59 : decode cX11_item 59 = .ok (.lload_n 3, 1) := by decide +kernel
theorem dX11_item_60 : decode cX11_item 60 = .ok (.invokevirtual 450, 3) := by decide +kernel
theorem dX11_item_63 : decode cX11_item 63 = .ok (.lastore, 1) := by decide +kernel
theorem dX11_item_64 : decode cX11_item 64 = .ok (.iconst 1, 1) := by decide +kernel
theorem dX11_item_65 : decode cX11_item 65 = .ok (.ireturn, 1) := by decide +kernel
theorem dX11_read_0 : decode cX11_read 0 = .ok (.aload_n 0, 1) := by decide +kernel
theorem dX11_read_1 : decode cX11_read 1 = .ok (.iload_n 1, 1) := by decide +kernel
theorem dX11_read_2 : decode cX11_read 2 = .ok (.invokevirtual 423, 3) := by decide +kernel
theorem dX11_read_5 : decode cX11_read 5 = .ok (.ifCond .eq 29, 3) := by decide +kernel
theorem dX11_read_8 : decode cX11_read 8 = .ok (.aload_n 0, 1) := by decide +kernel
theorem dX11_read_9 : decode cX11_read 9 = .ok (.getfield 217, 3) := by decide +kernel
theorem dX11_read_12 : decode cX11_read 12 = .ok (.iload_n 1, 1) := by decide +kernel
theorem dX11_read_13 : decode cX11_read 13 = .ok (.iaload, 1) := by decide +kernel
theorem dX11_read_14 : decode cX11_read 14 = .ok (.ifCond .lt 20, 3) := by decide +kernel
theorem dX11_read_17 : decode cX11_read 17 = .ok (.aload_n 0, 1) := by decide +kernel
theorem dX11_read_18 : decode cX11_read 18 = .ok (.iload_n 2, 1) := by decide +kernel
theorem dX11_read_19 : decode cX11_read 19 = .ok (.iconst 0, 1) := by decide +kernel
theorem dX11_read_20 : decode cX11_read 20 = .ok (.aload_n 0, 1) := by decide +kernel
theorem dX11_read_21 : decode cX11_read 21 = .ok (.getfield 220, 3) := by decide +kernel
theorem dX11_read_24 : decode cX11_read 24 = .ok (.iload_n 1, 1) := by decide +kernel
theorem dX11_read_25 : decode cX11_read 25 = .ok (.iaload, 1) := by decide +kernel
theorem dX11_read_26 : decode cX11_read 26 = .ok (.iconst 1, 1) := by decide +kernel
theorem dX11_read_27 : decode cX11_read 27 = .ok (.isub, 1) := by decide +kernel
theorem dX11_read_28 : decode cX11_read 28 = .ok (.invokevirtual 230, 3) := by decide +kernel
theorem dX11_read_31 : decode cX11_read 31 = .ok (.ifCond .ne 9, 3) := by decide +kernel
theorem dX11_read_34 : decode cX11_read 34 = .ok (.ldc2_w 417, 3) := by decide +kernel
theorem dX11_read_37 : decode cX11_read 37 = .ok (.goto 14, 3) := by decide +kernel
theorem dX11_read_40 : decode cX11_read 40 = .ok (.aload_n 0, 1) := by decide +kernel
theorem dX11_read_41 : decode cX11_read 41 = .ok (.getfield 223, 3) := by decide +kernel
theorem dX11_read_44 : decode cX11_read 44 = .ok (.bipush 60, 2) := by decide +kernel
theorem dX11_read_46 : decode cX11_read 46 = .ok (.iload_n 1, 1) := by decide +kernel
theorem dX11_read_47 : decode cX11_read 47 = .ok (.imul, 1) := by decide +kernel
theorem dX11_read_48 : decode cX11_read 48 = .ok (.iload_n 2, 1) := by decide +kernel
theorem dX11_read_49 : decode cX11_read 49 = .ok (.iadd, 1) := by decide +kernel
theorem dX11_read_50 : decode cX11_read 50 = .ok (.laload, 1) := by decide +kernel
theorem dX11_read_51 : decode cX11_read 51 = .ok (.lreturn, 1) := by decide +kernel
theorem dX11_shift_0 : decode cX11_shift 0 = .ok (.aload_n 0, 1) := by decide +kernel
theorem dX11_shift_1 : decode cX11_shift 1 = .ok (.iload_n 1, 1) := by decide +kernel
theorem dX11_shift_2 : decode cX11_shift 2 = .ok (.invokevirtual 423, 3) := by decide +kernel
theorem dX11_shift_5 : decode cX11_shift 5 = .ok (.ifCond .eq 11, 3) := by decide +kernel
theorem dX11_shift_8 : decode cX11_shift 8 = .ok (.aload_n 0, 1) := by decide +kernel
theorem dX11_shift_9 : decode cX11_shift 9 = .ok (.iload_n 3, 1) := by decide +kernel
theorem dX11_shift_10 : decode cX11_shift 10 = .ok (.invokevirtual 423, 3) := by decide +kernel
theorem dX11_shift_13 : decode cX11_shift 13 = .ok (.ifCond .ne 5, 3) := by decide +kernel
theorem dX11_shift_16 : decode cX11_shift 16 = .ok (.iconst (-1), 1) := by decide +kernel
theorem dX11_shift_17 : decode cX11_shift 17 = .ok (.ireturn, 1) := by decide +kernel
theorem dX11_shift_18 : decode cX11_shift 18 = .ok (.aload_n 0, 1) := by decide +kernel
theorem dX11_shift_19 : decode cX11_shift 19 = .ok (.getfield 217, 3) := by decide +kernel
theorem dX11_shift_22 : decode cX11_shift 22 = .ok (.iload_n 1, 1) := by decide +kernel
theorem dX11_shift_23 : decode cX11_shift 23 = .ok (.iaload, 1) := by decide +kernel
theorem dX11_shift_24 : decode cX11_shift 24 = .ok (.ifCond .lt 12, 3) := by decide +kernel
theorem dX11_shift_27 : decode cX11_shift 27 = .ok (.aload_n 0, 1) := by decide +kernel
theorem dX11_shift_28 : decode cX11_shift 28 = .ok (.getfield 217, 3) := by decide +kernel
theorem dX11_shift_31 : decode cX11_shift 31 = .ok (.iload_n 3, 1) := by decide +kernel
theorem dX11_shift_32 : decode cX11_shift 32 = .ok (.iaload, 1) := by decide +kernel
theorem dX11_shift_33 : decode cX11_shift 33 = .ok (.ifCond .ge 6, 3) := by decide +kernel
theorem dX11_shift_36 : decode cX11_shift 36 = .ok (.bipush (-11), 2) := by decide +kernel
theorem dX11_shift_38 : decode cX11_shift 38 = .ok (.ireturn, 1) := by decide +kernel
theorem dX11_shift_39 : decode cX11_shift 39 = .ok (.aload_n 0, 1) := by decide +kernel
theorem dX11_shift_40 : decode cX11_shift 40 = .ok (.getfield 217, 3) := by decide +kernel
theorem dX11_shift_43 : decode cX11_shift 43 = .ok (.iload_n 1, 1) := by decide +kernel
theorem dX11_shift_44 : decode cX11_shift 44 = .ok (.iaload, 1) := by decide +kernel
theorem dX11_shift_45 : decode cX11_shift 45 = .ok (.aload_n 0, 1) := by decide +kernel
theorem dX11_shift_46 : decode cX11_shift 46 = .ok (.getfield 217, 3) := by decide +kernel
theorem dX11_shift_49 : decode cX11_shift 49 = .ok (.iload_n 3, 1) := by decide +kernel
theorem dX11_shift_50 : decode cX11_shift 50 = .ok (.iaload, 1) := by decide +kernel
theorem dX11_shift_51 : decode cX11_shift 51 = .ok (.if_icmp .eq 6, 3) := by decide +kernel
theorem dX11_shift_54 : decode cX11_shift 54 = .ok (.bipush (-12), 2) := by decide +kernel
theorem dX11_shift_56 : decode cX11_shift 56 = .ok (.ireturn, 1) := by decide +kernel
theorem dX11_shift_57 : decode cX11_shift 57 = .ok (.iload 5, 2) := by decide +kernel
theorem dX11_shift_59 : decode cX11_shift 59 = .ok (.ifCond .lt 39, 3) := by decide +kernel
theorem dX11_shift_62 : decode cX11_shift 62 = .ok (.iload_n 2, 1) := by decide +kernel
theorem dX11_shift_63 : decode cX11_shift 63 = .ok (.ifCond .lt 35, 3) := by decide +kernel
theorem dX11_shift_66 : decode cX11_shift 66 = .ok (.iload 4, 2) := by decide +kernel
theorem dX11_shift_68 : decode cX11_shift 68 = .ok (.ifCond .lt 30, 3) := by decide +kernel
theorem dX11_shift_71 : decode cX11_shift 71 = .ok (.iload_n 2, 1) := by decide +kernel
theorem dX11_shift_72 : decode cX11_shift 72 = .ok (.aload_n 0, 1) := by decide +kernel
theorem dX11_shift_73 : decode cX11_shift 73 = .ok (.getfield 220, 3) := by decide +kernel
theorem dX11_shift_76 : decode cX11_shift 76 = .ok (.iload_n 1, 1) := by decide +kernel
theorem dX11_shift_77 : decode cX11_shift 77 = .ok (.iaload, 1) := by decide +kernel
theorem dX11_shift_78 : decode cX11_shift 78 = .ok (.iload 5, 2) := by decide +kernel
theorem dX11_shift_80 : decode cX11_shift 80 = .ok (.isub, 1) := by decide +kernel
theorem dX11_shift_81 : decode cX11_shift 81 = .ok (.if_icmp .gt 17, 3) := by decide +kernel
theorem dX11_shift_84 : decode cX11_shift 84 = .ok (.iload 4, 2) := by decide +kernel
theorem dX11_shift_86 : decode cX11_shift 86 = .ok (.aload_n 0, 1) := by decide +kernel
theorem dX11_shift_87 : decode cX11_shift 87 = .ok (.getfield 220, 3) := by decide +kernel
theorem dX11_shift_90 : decode cX11_shift 90 = .ok (.iload_n 3, 1) := by decide +kernel
theorem dX11_shift_91 : decode cX11_shift 91 = .ok (.iaload, 1) := by decide +kernel
theorem dX11_shift_92 : decode cX11_shift 92 = .ok (.iload 5, 2) := by decide +kernel
theorem dX11_shift_94 : decode cX11_shift 94 = .ok (.isub, 1) := by decide +kernel
theorem dX11_shift_95 : decode cX11_shift 95 = .ok (.if_icmp .le 6, 3) := by decide +kernel
theorem dX11_shift_98 : decode cX11_shift 98 = .ok (.bipush (-13), 2) := by decide +kernel
theorem dX11_shift_100 : decode cX11_shift 100 = .ok (.ireturn, 1) := by decide +kernel
theorem dX11_shift_101 : decode cX11_shift 101 = .ok (.iconst 0, 1) := by decide +kernel
theorem dX11_shift_102 : decode cX11_shift 102 = .ok (.istore 6, 2) := by decide +kernel
theorem dX11_shift_104 : decode cX11_shift 104 = .ok (.iload 6, 2) := by decide +kernel
theorem dX11_shift_106 : decode cX11_shift 106 = .ok (.iload 5, 2) := by decide +kernel
theorem dX11_shift_108 : decode cX11_shift 108 = .ok (.if_icmp .ge 30, 3) := by decide +kernel
theorem dX11_shift_111 : decode cX11_shift 111 = .ok (.aload_n 0, 1) := by decide +kernel
theorem dX11_shift_112 : decode cX11_shift 112 = .ok (.getfield 227, 3) := by decide +kernel
theorem dX11_shift_115 : decode cX11_shift 115 = .ok (.iload 6, 2) := by decide +kernel
theorem dX11_shift_117 : decode cX11_shift 117 = .ok (.aload_n 0, 1) := by decide +kernel
theorem dX11_shift_118 : decode cX11_shift 118 = .ok (.getfield 223, 3) := by decide +kernel
theorem dX11_shift_121 : decode cX11_shift 121 = .ok (.bipush 60, 2) := by decide +kernel
theorem dX11_shift_123 : decode cX11_shift 123 = .ok (.iload_n 1, 1) := by decide +kernel
theorem dX11_shift_124 : decode cX11_shift 124 = .ok (.imul, 1) := by decide +kernel
theorem dX11_shift_125 : decode cX11_shift 125 = .ok (.iload_n 2, 1) := by decide +kernel
theorem dX11_shift_126 : decode cX11_shift 126 = .ok (.iadd, 1) := by decide +kernel
theorem dX11_shift_127 : decode cX11_shift 127 = .ok (.iload 6, 2) := by decide +kernel
theorem dX11_shift_129 : decode cX11_shift 129 = .ok (.iadd, 1) := by decide +kernel
theorem dX11_shift_130 : decode cX11_shift 130 = .ok (.laload, 1) := by decide +kernel
theorem dX11_shift_131 : decode cX11_shift 131 = .ok (.lastore, 1) := by decide +kernel
theorem dX11_shift_132 : decode cX11_shift 132 = .ok (.iinc 6 1, 3) := by decide +kernel
theorem dX11_shift_135 : decode cX11_shift 135 = .ok (.goto (-31), 3) := by decide +kernel
theorem dX11_shift_138 : decode cX11_shift 138 = .ok (.iconst 0, 1) := by decide +kernel
theorem dX11_shift_139 : decode cX11_shift 139 = .ok (.istore 6, 2) := by decide +kernel
theorem dX11_shift_141 : decode cX11_shift 141 = .ok (.iload 6, 2) := by decide +kernel
theorem dX11_shift_143 : decode cX11_shift 143 = .ok (.iload 5, 2) := by decide +kernel
theorem dX11_shift_145 : decode cX11_shift 145 = .ok (.if_icmp .ge 31, 3) := by decide +kernel
theorem dX11_shift_148 : decode cX11_shift 148 = .ok (.aload_n 0, 1) := by decide +kernel
theorem dX11_shift_149 : decode cX11_shift 149 = .ok (.getfield 223, 3) := by decide +kernel
theorem dX11_shift_152 : decode cX11_shift 152 = .ok (.bipush 60, 2) := by decide +kernel
theorem dX11_shift_154 : decode cX11_shift 154 = .ok (.iload_n 3, 1) := by decide +kernel
theorem dX11_shift_155 : decode cX11_shift 155 = .ok (.imul, 1) := by decide +kernel
theorem dX11_shift_156 : decode cX11_shift 156 = .ok (.iload 4, 2) := by decide +kernel
theorem dX11_shift_158 : decode cX11_shift 158 = .ok (.iadd, 1) := by decide +kernel
theorem dX11_shift_159 : decode cX11_shift 159 = .ok (.iload 6, 2) := by decide +kernel
theorem dX11_shift_161 : decode cX11_shift 161 = .ok (.iadd, 1) := by decide +kernel
theorem dX11_shift_162 : decode cX11_shift 162 = .ok (.aload_n 0, 1) := by decide +kernel
theorem dX11_shift_163 : decode cX11_shift 163 = .ok (.getfield 227, 3) := by decide +kernel
theorem dX11_shift_166 : decode cX11_shift 166 = .ok (.iload 6, 2) := by decide +kernel
theorem dX11_shift_168 : decode cX11_shift 168 = .ok (.laload, 1) := by decide +kernel
theorem dX11_shift_169 : decode cX11_shift 169 = .ok (.lastore, 1) := by decide +kernel
theorem dX11_shift_170 : decode cX11_shift 170 = .ok (.iinc 6 1, 3) := by decide +kernel
theorem dX11_shift_173 : decode cX11_shift 173 = .ok (.goto (-32), 3) := by decide +kernel
theorem dX11_shift_176 : decode cX11_shift 176 = .ok (.iload 5, 2) := by decide +kernel
theorem dX11_shift_178 : decode cX11_shift 178 = .ok (.ireturn, 1) := by decide +kernel
