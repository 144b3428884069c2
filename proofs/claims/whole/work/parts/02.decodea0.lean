theorem dX0_init_0 : decode cX0_init 0 = .ok (.aload_n 0, 1) := by decide +kernel
theorem dX0_init_1 : decode cX0_init 1 = .ok (.invokespecial 1, 3) := by decide +kernel
theorem dX0_init_4 : decode cX0_init 4 = .ok (.aload_n 0, 1) := by decide +kernel
theorem dX0_init_5 : decode cX0_init 5 = .ok (.new 7, 3) := by decide +kernel
theorem dX0_init_8 : decode cX0_init 8 = .ok (.dup, 1) := by decide +kernel
theorem dX0_init_9 : decode cX0_init 9 = .ok (.bipush 20, 2) := by decide +kernel
theorem dX0_init_11 : decode cX0_init 11 = .ok (.invokespecial 9, 3) := by decide +kernel
theorem dX0_init_14 : decode cX0_init 14 = .ok (.putfield 12, 3) := by decide +kernel
theorem dX0_init_17 : decode cX0_init 17 = .ok (.aload_n 0, 1) := by decide +kernel
theorem dX0_init_18 : decode cX0_init 18 = .ok (.iconst 0, 1) := by decide +kernel
theorem dX0_init_19 : decode cX0_init 19 = .ok (.putfield 18, 3) := by decide +kernel
theorem dX0_init_22 : decode cX0_init 22 = .ok (.aload_n 0, 1) := by decide +kernel
theorem dX0_init_23 : decode cX0_init 23 = .ok (.iconst 0, 1) := by decide +kernel
theorem dX0_init_24 : decode cX0_init 24 = .ok (.putfield 22, 3) := by decide +kernel
theorem dX0_init_27 : decode cX0_init 27 = .ok (.aload_n 0, 1) := by decide +kernel
theorem dX0_init_28 : decode cX0_init 28 = .ok (.iconst 0, 1) := by decide +kernel
theorem dX0_init_29 : decode cX0_init 29 = .ok (.putfield 25, 3) := by decide +kernel
theorem dX0_init_32 : decode cX0_init 32 = .ok (.aload_n 0, 1) := by decide +kernel
theorem dX0_init_33 : decode cX0_init 33 = .ok (.iconst 0, 1) := by decide +kernel
theorem dX0_init_34 : decode cX0_init 34 = .ok (.putfield 28, 3) := by decide +kernel
theorem dX0_init_37 : decode cX0_init 37 = .ok (.return_, 1) := by decide +kernel
theorem dX0_forget_0 : decode cX0_forget 0 = .ok (.aload_n 0, 1) := by decide +kernel
theorem dX0_forget_1 : decode cX0_forget 1 = .ok (.getfield 12, 3) := by decide +kernel
theorem dX0_forget_4 : decode cX0_forget 4 = .ok (.invokevirtual 31, 3) := by decide +kernel
theorem dX0_forget_7 : decode cX0_forget 7 = .ok (.aload_n 0, 1) := by decide +kernel
theorem dX0_forget_8 : decode cX0_forget 8 = .ok (.iconst 0, 1) := by decide +kernel
theorem dX0_forget_9 : decode cX0_forget 9 = .ok (.putfield 18, 3) := by decide +kernel
theorem dX0_forget_12 : decode cX0_forget 12 = .ok (.return_, 1) := by decide +kernel
theorem dX0_start_0 : decode cX0_start 0 = .ok (.aload_n 0, 1) := by decide +kernel
theorem dX0_start_1 : decode cX0_start 1 = .ok (.iload_n 1, 1) := by decide +kernel
theorem dX0_start_2 : decode cX0_start 2 = .ok (.putfield 22, 3) := by decide +kernel
theorem dX0_start_5 : decode cX0_start 5 = .ok (.aload_n 0, 1) := by decide +kernel
theorem dX0_start_6 : decode cX0_start 6 = .ok (.iload_n 2, 1) := by decide +kernel
theorem dX0_start_7 : decode cX0_start 7 = .ok (.putfield 25, 3) := by decide +kernel
theorem dX0_start_10 : decode cX0_start 10 = .ok (.aload_n 0, 1) := by decide +kernel
theorem dX0_start_11 : decode cX0_start 11 = .ok (.iload_n 3, 1) := by decide +kernel
theorem dX0_start_12 : decode cX0_start 12 = .ok (.putfield 28, 3) := by decide +kernel
theorem dX0_start_15 : decode cX0_start 15 = .ok (.aload_n 0, 1) := by decide +kernel
theorem dX0_start_16 : decode cX0_start 16 = .ok (.iload_n 2, 1) := by decide +kernel
theorem dX0_start_17 : decode cX0_start 17 = .ok (.iload 4, 2) := by decide +kernel
theorem dX0_start_19 : decode cX0_start 19 = .ok (.iload 5, 2) := by decide +kernel
theorem dX0_start_21 : decode cX0_start 21 = .ok (.iconst 0, 1) := by decide +kernel
theorem dX0_start_22 : decode cX0_start 22 = .ok (.invokevirtual 34, 3) := by decide +kernel
theorem dX0_start_25 : decode cX0_start 25 = .ok (.ireturn, 1) := by decide +kernel
theorem dX0_run_0 : decode cX0_run 0 = .ok (.iload_n 1, 1) := by decide +kernel
theorem dX0_run_1 : decode cX0_run 1 = .ok (.istore 5, 2) := by decide +kernel
theorem dX0_run_3 : decode cX0_run 3 = .ok (.iconst 0, 1) := by decide +kernel
theorem dX0_run_4 : decode cX0_run 4 = .ok (.istore 6, 2) := by decide +kernel
theorem dX0_run_6 : decode cX0_run 6 = .ok (.iload 6, 2) := by decide +kernel
theorem dX0_run_8 : decode cX0_run 8 = .ok (.getstatic 38, 3) := by decide +kernel
theorem dX0_run_11 : decode cX0_run 11 = .ok (.arraylength, 1) := by decide +kernel
theorem dX0_run_12 : decode cX0_run 12 = .ok (.if_icmp .ge 34, 3) := by decide +kernel
theorem dX0_run_15 : decode cX0_run 15 = .ok (.iload 5, 2) := by decide +kernel
theorem dX0_run_17 : decode cX0_run 17 = .ok (.invokestatic 44, 3) := by decide +kernel
theorem dX0_run_20 : decode cX0_run 20 = .ok (.ifCond .eq 26, 3) := by decide +kernel
theorem dX0_run_23 : decode cX0_run 23 = .ok (.iload 5, 2) := by decide +kernel
theorem dX0_run_25 : decode cX0_run 25 = .ok (.iload_n 2, 1) := by decide +kernel
theorem dX0_run_26 : decode cX0_run 26 = .ok (.invokestatic 48, 3) := by decide +kernel
theorem dX0_run_29 : decode cX0_run 29 = .ok (.ifCond .ne 17, 3) := by decide +kernel
theorem dX0_run_32 : decode cX0_run 32 = .ok (.getstatic 38, 3) := by decide +kernel
theorem dX0_run_35 : decode cX0_run 35 = .ok (.iload 5, 2) := by decide +kernel
theorem dX0_run_37 : decode cX0_run 37 = .ok (.iaload, 1) := by decide +kernel
theorem dX0_run_38 : decode cX0_run 38 = .ok (.istore 5, 2) := by decide +kernel
theorem dX0_run_40 : decode cX0_run 40 = .ok (.iinc 6 1, 3) := by decide +kernel
theorem dX0_run_43 : decode cX0_run 43 = .ok (.goto (-37), 3) := by decide +kernel
theorem dX0_run_46 : decode cX0_run 46 = .ok (.iload 5, 2) := by decide +kernel
theorem dX0_run_48 : decode cX0_run 48 = .ok (.invokestatic 44, 3) := by decide +kernel
theorem dX0_run_51 : decode cX0_run 51 = .ok (.ifCond .eq 10, 3) := by decide +kernel
theorem dX0_run_54 : decode cX0_run 54 = .ok (.iload 4, 2) := by decide +kernel
theorem dX0_run_56 : decode cX0_run 56 = .ok (.bipush 40, 2) := by decide +kernel
theorem dX0_run_58 : decode cX0_run 58 = .ok (.if_icmp .le 5, 3) := by decide +kernel
theorem dX0_run_61 : decode cX0_run 61 = .ok (.iconst 0, 1) := by decide +kernel
theorem dX0_run_62 : decode cX0_run 62 = .ok (.ireturn, 1) := by decide +kernel
theorem dX0_run_63 : decode cX0_run 63 = .ok (.iload 5, 2) := by decide +kernel
theorem dX0_run_65 : decode cX0_run 65 = .ok (.iload_n 2, 1) := by decide +kernel
theorem dX0_run_66 : decode cX0_run 66 = .ok (.invokestatic 48, 3) := by decide +kernel
theorem dX0_run_69 : decode cX0_run 69 = .ok (.istore 6, 2) := by decide +kernel
theorem dX0_run_71 : decode cX0_run 71 = .ok (.aload_n 0, 1) := by decide +kernel
theorem dX0_run_72 : decode cX0_run 72 = .ok (.getfield 12, 3) := by decide +kernel
theorem dX0_run_75 : decode cX0_run 75 = .ok (.iload 6, 2) := by decide +kernel
theorem dX0_run_77 : decode cX0_run 77 = .ok (.invokevirtual 52, 3) := by decide +kernel
theorem dX0_run_80 : decode cX0_run 80 = .ok (.aload_n 0, 1) := by decide +kernel
theorem dX0_run_81 : decode cX0_run 81 = .ok (.dup, 1) := by decide +kernel
theorem dX0_run_82 : decode cX0_run 82 = .ok (.getfield 18, 3) := by decide +kernel
theorem dX0_run_85 : decode cX0_run 85 = .ok (.iconst 1, 1) := by decide +kernel
theorem dX0_run_86 : decode cX0_run 86 = .ok (.iadd, 1) := by decide +kernel
theorem dX0_run_87 : decode cX0_run 87 = .ok (.putfield 18, 3) := by decide +kernel
theorem dX0_run_90 : decode cX0_run 90 = .ok (.aload_n 0, 1) := by decide +kernel
theorem dX0_run_91 : decode cX0_run 91 = .ok (.iload 6, 2) := by decide +kernel
theorem dX0_run_93 : decode cX0_run 93 = .ok (.getstatic 38, 3) := by decide +kernel
theorem dX0_run_96 : decode cX0_run 96 = .ok (.iload 5, 2) := by decide +kernel
theorem dX0_run_98 : decode cX0_run 98 = .ok (.iaload, 1) := by decide +kernel
theorem dX0_run_99 : decode cX0_run 99 = .ok (.iload_n 3, 1) := by decide +kernel
theorem dX0_run_100 : decode cX0_run 100 = .ok (.iload 4, 2) := by decide +kernel
theorem dX0_run_102 : decode cX0_run 102 = .ok (.iconst 1, 1) := by decide +kernel
theorem dX0_run_103 : decode cX0_run 103 = .ok (.iadd, 1) := by decide +kernel
theorem dX0_run_104 : decode cX0_run 104 = .ok (.invokevirtual 55, 3) := by decide +kernel
theorem dX0_run_107 : decode cX0_run 107 = .ok (.ireturn, 1) := by decide +kernel
theorem dX0_answerOf_0 : decode cX0_answerOf 0 = .ok (.iload_n 1, 1) := by decide +kernel
theorem dX0_answerOf_1 : decode cX0_answerOf 1 = .ok (.lookupswitch 260 #[(10, 99), (11, 106), (12, 124), (20, 139), (30, 152), (40, 164), (50, 187), (51, 198), (60, 210), (70, 225), (71, 245)], 99) := by decide +kernel
theorem dX0_answerOf_100 : decode cX0_answerOf 100 = .ok (.iload_n 3, 1) := by decide +kernel
theorem dX0_answerOf_101 : decode cX0_answerOf 101 = .ok (.aload_n 0, 1) := by decide +kernel
theorem dX0_answerOf_102 : decode cX0_answerOf 102 = .ok (.getfield 22, 3) := by decide +kernel
theorem dX0_answerOf_105 : decode cX0_answerOf 105 = .ok (.iadd, 1) := by decide +kernel
theorem dX0_answerOf_106 : decode cX0_answerOf 106 = .ok (.ireturn, 1) := by decide +kernel
theorem dX0_answerOf_107 : decode cX0_answerOf 107 = .ok (.aload_n 0, 1) := by decide +kernel
theorem dX0_answerOf_108 : decode cX0_answerOf 108 = .ok (.aload_n 0, 1) := by decide +kernel
theorem dX0_answerOf_109 : decode cX0_answerOf 109 = .ok (.getfield 25, 3) := by decide +kernel
theorem dX0_answerOf_112 : decode cX0_answerOf 112 = .ok (.iconst 0, 1) := by decide +kernel
theorem dX0_answerOf_113 : decode cX0_answerOf 113 = .ok (.iload_n 3, 1) := by decide +kernel
theorem dX0_answerOf_114 : decode cX0_answerOf 114 = .ok (.iload 4, 2) := by decide +kernel
theorem dX0_answerOf_116 : decode cX0_answerOf 116 = .ok (.invokevirtual 34, 3) := by decide +kernel
theorem dX0_answerOf_119 : decode cX0_answerOf 119 = .ok (.aload_n 0, 1) := by decide +kernel
theorem dX0_answerOf_120 : decode cX0_answerOf 120 = .ok (.getfield 28, 3) := by decide +kernel
theorem dX0_answerOf_123 : decode cX0_answerOf 123 = .ok (.isub, 1) := by decide +kernel
theorem dX0_answerOf_124 : decode cX0_answerOf 124 = .ok (.ireturn, 1) := by decide +kernel
theorem dX0_answerOf_125 : decode cX0_answerOf 125 = .ok (.aload_n 0, 1) := by decide +kernel
theorem dX0_answerOf_126 : decode cX0_answerOf 126 = .ok (.aload_n 0, 1) := by decide +kernel
theorem dX0_answerOf_127 : decode cX0_answerOf 127 = .ok (.getfield 25, 3) := by decide +kernel
theorem dX0_answerOf_130 : decode cX0_answerOf 130 = .ok (.iconst 1, 1) := by decide +kernel
theorem dX0_answerOf_131 : decode cX0_answerOf 131 = .ok (.iload_n 3, 1) := by decide +kernel
theorem dX0_answerOf_132 : decode cX0_answerOf 132 = .ok (.iload 4, 2) := by decide +kernel
theorem dX0_answerOf_134 : decode cX0_answerOf 134 = .ok (.invokevirtual 34, 3) := by decide +kernel
theorem dX0_answerOf_137 : decode cX0_answerOf 137 = .ok (.iconst 2, 1) := by decide +kernel
theorem dX0_answerOf_138 : decode cX0_answerOf 138 = .ok (.imul, 1) := by decide +kernel
theorem dX0_answerOf_139 : decode cX0_answerOf 139 = .ok (.ireturn, 1) := by decide +kernel
theorem dX0_answerOf_140 : decode cX0_answerOf 140 = .ok (.aload_n 0, 1) := by decide +kernel
theorem dX0_answerOf_141 : decode cX0_answerOf 141 = .ok (.iload_n 2, 1) := by decide +kernel
theorem dX0_answerOf_142 : decode cX0_answerOf 142 = .ok (.iconst 1, 1) := by decide +kernel
theorem dX0_answerOf_143 : decode cX0_answerOf 143 = .ok (.iload_n 3, 1) := by decide +kernel
theorem dX0_answerOf_144 : decode cX0_answerOf 144 = .ok (.iload 4, 2) := by decide +kernel
theorem dX0_answerOf_146 : decode cX0_answerOf 146 = .ok (.invokevirtual 34, 3) := by decide +kernel
theorem dX0_answerOf_149 : decode cX0_answerOf 149 = .ok (.bipush 6, 2) := by decide +kernel
theorem dX0_answerOf_151 : decode cX0_answerOf 151 = .ok (.ixor, 1) := by decide +kernel
theorem dX0_answerOf_152 : decode cX0_answerOf 152 = .ok (.ireturn, 1) := by decide +kernel
theorem dX0_answerOf_153 : decode cX0_answerOf 153 = .ok (.aload_n 0, 1) := by decide +kernel
theorem dX0_answerOf_154 : decode cX0_answerOf 154 = .ok (.iload_n 2, 1) := by decide +kernel
theorem dX0_answerOf_155 : decode cX0_answerOf 155 = .ok (.iconst 0, 1) := by decide +kernel
theorem dX0_answerOf_156 : decode cX0_answerOf 156 = .ok (.iload_n 3, 1) := by decide +kernel
theorem dX0_answerOf_157 : decode cX0_answerOf 157 = .ok (.iconst 3, 1) := by decide +kernel
theorem dX0_answerOf_158 : decode cX0_answerOf 158 = .ok (.imul, 1) := by decide +kernel
theorem dX0_answerOf_159 : decode cX0_answerOf 159 = .ok (.iload 4, 2) := by decide +kernel
theorem dX0_answerOf_161 : decode cX0_answerOf 161 = .ok (.invokevirtual 34, 3) := by decide +kernel
theorem dX0_answerOf_164 : decode cX0_answerOf 164 = .ok (.ireturn, 1) := by decide +kernel
theorem dX0_answerOf_165 : decode cX0_answerOf 165 = .ok (.aload_n 0, 1) := by decide +kernel
theorem dX0_answerOf_166 : decode cX0_answerOf 166 = .ok (.iload_n 2, 1) := by decide +kernel
theorem dX0_answerOf_167 : decode cX0_answerOf 167 = .ok (.iconst 2, 1) := by decide +kernel
theorem dX0_answerOf_168 : decode cX0_answerOf 168 = .ok (.iload_n 3, 1) := by decide +kernel
theorem dX0_answerOf_169 : decode cX0_answerOf 169 = .ok (.iload 4, 2) := by decide +kernel
theorem dX0_answerOf_171 : decode cX0_answerOf 171 = .ok (.invokevirtual 34, 3) := by decide +kernel
theorem dX0_answerOf_174 : decode cX0_answerOf 174 = .ok (.aload_n 0, 1) := by decide +kernel
theorem dX0_answerOf_175 : decode cX0_answerOf 175 = .ok (.aload_n 0, 1) := by decide +kernel
theorem dX0_answerOf_176 : decode cX0_answerOf 176 = .ok (.getfield 25, 3) := by decide +kernel
theorem dX0_answerOf_179 : decode cX0_answerOf 179 = .ok (.iconst 1, 1) := by decide +kernel
theorem dX0_answerOf_180 : decode cX0_answerOf 180 = .ok (.iconst 1, 1) := by decide +kernel
theorem dX0_answerOf_181 : decode cX0_answerOf 181 = .ok (.iload 4, 2) := by decide +kernel
theorem dX0_answerOf_183 : decode cX0_answerOf 183 = .ok (.invokevirtual 34, 3) := by decide +kernel
theorem dX0_answerOf_186 : decode cX0_answerOf 186 = .ok (.iadd, 1) := by decide +kernel
theorem dX0_answerOf_187 : decode cX0_answerOf 187 = .ok (.ireturn, 1) := by decide +kernel
theorem dX0_answerOf_188 : decode cX0_answerOf 188 = .ok (.aload_n 0, 1) := by decide +kernel
theorem dX0_answerOf_189 : decode cX0_answerOf 189 = .ok (.iload_n 2, 1) := by decide +kernel
theorem dX0_answerOf_190 : decode cX0_answerOf 190 = .ok (.iconst 0, 1) := by decide +kernel
theorem dX0_answerOf_191 : decode cX0_answerOf 191 = .ok (.iload_n 3, 1) := by decide +kernel
theorem dX0_answerOf_192 : decode cX0_answerOf 192 = .ok (.iload 4, 2) := by decide +kernel
theorem dX0_answerOf_194 : decode cX0_answerOf 194 = .ok (.invokevirtual 34, 3) := by decide +kernel
theorem dX0_answerOf_197 : decode cX0_answerOf 197 = .ok (.ineg, 1) := by decide +kernel
theorem dX0_answerOf_198 : decode cX0_answerOf 198 = .ok (.ireturn, 1) := by decide +kernel
theorem dX0_answerOf_199 : decode cX0_answerOf 199 = .ok (.aload_n 0, 1) := by decide +kernel
theorem dX0_answerOf_200 : decode cX0_answerOf 200 = .ok (.iload_n 2, 1) := by decide +kernel
theorem dX0_answerOf_201 : decode cX0_answerOf 201 = .ok (.iconst 1, 1) := by decide +kernel
theorem dX0_answerOf_202 : decode cX0_answerOf 202 = .ok (.iload_n 3, 1) := by decide +kernel
theorem dX0_answerOf_203 : decode cX0_answerOf 203 = .ok (.iconst 1, 1) := by decide +kernel
theorem dX0_answerOf_204 : decode cX0_answerOf 204 = .ok (.iadd, 1) := by decide +kernel
theorem dX0_answerOf_205 : decode cX0_answerOf 205 = .ok (.iload 4, 2) := by decide +kernel
theorem dX0_answerOf_207 : decode cX0_answerOf 207 = .ok (.invokevirtual 34, 3) := by decide +kernel
theorem dX0_answerOf_210 : decode cX0_answerOf 210 = .ok (.ireturn, 1) := by decide +kernel
theorem dX0_answerOf_211 : decode cX0_answerOf 211 = .ok (.aload_n 0, 1) := by decide +kernel
theorem dX0_answerOf_212 : decode cX0_answerOf 212 = .ok (.iload_n 2, 1) := by decide +kernel
theorem dX0_answerOf_213 : decode cX0_answerOf 213 = .ok (.iconst 2, 1) := by decide +kernel
theorem dX0_answerOf_214 : decode cX0_answerOf 214 = .ok (.iload_n 3, 1) := by decide +kernel
theorem dX0_answerOf_215 : decode cX0_answerOf 215 = .ok (.aload_n 0, 1) := by decide +kernel
theorem dX0_answerOf_216 : decode cX0_answerOf 216 = .ok (.getfield 22, 3) := by decide +kernel
theorem dX0_answerOf_219 : decode cX0_answerOf 219 = .ok (.isub, 1) := by decide +kernel
theorem dX0_answerOf_220 : decode cX0_answerOf 220 = .ok (.iload 4, 2) := by decide +kernel
theorem dX0_answerOf_222 : decode cX0_answerOf 222 = .ok (.invokevirtual 34, 3) := by decide +kernel
theorem dX0_answerOf_225 : decode cX0_answerOf 225 = .ok (.ireturn, 1) := by decide +kernel
theorem dX0_answerOf_226 : decode cX0_answerOf 226 = .ok (.aload_n 0, 1) := by decide +kernel
theorem dX0_answerOf_227 : decode cX0_answerOf 227 = .ok (.iload_n 2, 1) := by decide +kernel
theorem dX0_answerOf_228 : decode cX0_answerOf 228 = .ok (.iconst 1, 1) := by decide +kernel
theorem dX0_answerOf_229 : decode cX0_answerOf 229 = .ok (.iload_n 3, 1) := by decide +kernel
theorem dX0_answerOf_230 : decode cX0_answerOf 230 = .ok (.iload 4, 2) := by decide +kernel
theorem dX0_answerOf_232 : decode cX0_answerOf 232 = .ok (.invokevirtual 34, 3) := by decide +kernel
theorem dX0_answerOf_235 : decode cX0_answerOf 235 = .ok (.aload_n 0, 1) := by decide +kernel
theorem dX0_answerOf_236 : decode cX0_answerOf 236 = .ok (.iload_n 2, 1) := by decide +kernel
theorem dX0_answerOf_237 : decode cX0_answerOf 237 = .ok (.iconst 0, 1) := by decide +kernel
theorem dX0_answerOf_238 : decode cX0_answerOf 238 = .ok (.iconst 2, 1) := by decide +kernel
theorem dX0_answerOf_239 : decode cX0_answerOf 239 = .ok (.iload 4, 2) := by decide +kernel
theorem dX0_answerOf_241 : decode cX0_answerOf 241 = .ok (.invokevirtual 34, 3) := by decide +kernel
theorem dX0_answerOf_244 : decode cX0_answerOf 244 = .ok (.iadd, 1) := by decide +kernel
theorem dX0_answerOf_245 : decode cX0_answerOf 245 = .ok (.ireturn, 1) := by decide +kernel
theorem dX0_answerOf_246 : decode cX0_answerOf 246 = .ok (.aload_n 0, 1) := by decide +kernel
theorem dX0_answerOf_247 : decode cX0_answerOf 247 = .ok (.iload_n 2, 1) := by decide +kernel
theorem dX0_answerOf_248 : decode cX0_answerOf 248 = .ok (.iconst 0, 1) := by decide +kernel
theorem dX0_answerOf_249 : decode cX0_answerOf 249 = .ok (.iload_n 3, 1) := by decide +kernel
theorem dX0_answerOf_250 : decode cX0_answerOf 250 = .ok (.iload 4, 2) := by decide +kernel
theorem dX0_answerOf_252 : decode cX0_answerOf 252 = .ok (.invokevirtual 34, 3) := by decide +kernel
theorem dX0_answerOf_255 : decode cX0_answerOf 255 = .ok (.aload_n 0, 1) := by decide +kernel
theorem dX0_answerOf_256 : decode cX0_answerOf 256 = .ok (.getfield 28, 3) := by decide +kernel
theorem dX0_answerOf_259 : decode cX0_answerOf 259 = .ok (.ixor, 1) := by decide +kernel
theorem dX0_answerOf_260 : decode cX0_answerOf 260 = .ok (.ireturn, 1) := by decide +kernel
theorem dX0_answerOf_261 : decode cX0_answerOf 261 = .ok (.iconst 0, 1) := by decide +kernel
theorem dX0_answerOf_262 : decode cX0_answerOf 262 = .ok (.ireturn, 1) := by decide +kernel
theorem dX0_bodyOf_0 : decode cX0_bodyOf 0 = .ok (.iload_n 0, 1) := by decide +kernel
theorem dX0_bodyOf_1 : decode cX0_bodyOf 1 = .ok (.iconst 3, 1) := by decide +kernel
theorem dX0_bodyOf_2 : decode cX0_bodyOf 2 = .ok (.imul, 1) := by decide +kernel
theorem dX0_bodyOf_3 : decode cX0_bodyOf 3 = .ok (.iload_n 1, 1) := by decide +kernel
theorem dX0_bodyOf_4 : decode cX0_bodyOf 4 = .ok (.iadd, 1) := by decide +kernel
theorem dX0_bodyOf_5 : decode cX0_bodyOf 5 = .ok (.istore_n 2, 1) := by decide +kernel
theorem dX0_bodyOf_6 : decode cX0_bodyOf 6 = .ok (.iload_n 1, 1) := by decide +kernel
theorem dX0_bodyOf_7 : decode cX0_bodyOf 7 = .ok (.ifCond .lt 20, 3) := by decide +kernel
theorem dX0_bodyOf_10 : decode cX0_bodyOf 10 = .ok (.iload_n 1, 1) := by decide +kernel
theorem dX0_bodyOf_11 : decode cX0_bodyOf 11 = .ok (.iconst 2, 1) := by decide +kernel
theorem dX0_bodyOf_12 : decode cX0_bodyOf 12 = .ok (.if_icmp .gt 15, 3) := by decide +kernel
theorem dX0_bodyOf_15 : decode cX0_bodyOf 15 = .ok (.iload_n 2, 1) := by decide +kernel
theorem dX0_bodyOf_16 : decode cX0_bodyOf 16 = .ok (.ifCond .lt 11, 3) := by decide +kernel
theorem dX0_bodyOf_19 : decode cX0_bodyOf 19 = .ok (.iload_n 2, 1) := by decide +kernel
theorem dX0_bodyOf_20 : decode cX0_bodyOf 20 = .ok (.getstatic 58, 3) := by decide +kernel
theorem dX0_bodyOf_23 : decode cX0_bodyOf 23 = .ok (.arraylength, 1) := by decide +kernel
theorem dX0_bodyOf_24 : decode cX0_bodyOf 24 = .ok (.if_icmp .lt 7, 3) := by decide +kernel
theorem dX0_bodyOf_27 : decode cX0_bodyOf 27 = .ok (.iconst 0, 1) := by decide +kernel
theorem dX0_bodyOf_28 : decode cX0_bodyOf 28 = .ok (.goto 8, 3) := by decide +kernel
theorem dX0_bodyOf_31 : decode cX0_bodyOf 31 = .ok (.getstatic 58, 3) := by decide +kernel
theorem dX0_bodyOf_34 : decode cX0_bodyOf 34 = .ok (.iload_n 2, 1) := by decide +kernel
theorem dX0_bodyOf_35 : decode cX0_bodyOf 35 = .ok (.iaload, 1) := by decide +kernel
theorem dX0_bodyOf_36 : decode cX0_bodyOf 36 = .ok (.ireturn, 1) := by decide +kernel
theorem dX1_init_0 : decode cX1_init 0 = .ok (.aload_n 0, 1) := by decide +kernel
theorem dX1_init_1 : decode cX1_init 1 = .ok (.invokespecial 3, 3) := by decide +kernel
theorem dX1_init_4 : decode cX1_init 4 = .ok (.aload_n 0, 1) := by decide +kernel
theorem dX1_init_5 : decode cX1_init 5 = .ok (.bipush 9, 2) := by decide +kernel
theorem dX1_init_7 : decode cX1_init 7 = .ok (.newarray .int, 2) := by decide +kernel
theorem dX1_init_9 : decode cX1_init 9 = .ok (.putfield 9, 3) := by decide +kernel
theorem dX1_init_12 : decode cX1_init 12 = .ok (.aload_n 0, 1) := by decide +kernel
theorem dX1_init_13 : decode cX1_init 13 = .ok (.bipush 9, 2) := by decide +kernel
theorem dX1_init_15 : decode cX1_init 15 = .ok (.newarray .int, 2) := by decide +kernel
theorem dX1_init_17 : decode cX1_init 17 = .ok (.putfield 15, 3) := by decide +kernel
theorem dX1_init_20 : decode cX1_init 20 = .ok (.aload_n 0, 1) := by decide +kernel
theorem dX1_init_21 : decode cX1_init 21 = .ok (.sipush 512, 3) := by decide +kernel
theorem dX1_init_24 : decode cX1_init 24 = .ok (.newarray .byte, 2) := by decide +kernel
theorem dX1_init_26 : decode cX1_init 26 = .ok (.putfield 18, 3) := by decide +kernel
theorem dX1_init_29 : decode cX1_init 29 = .ok (.return_, 1) := by decide +kernel
theorem dX1_firstWins_0 : decode cX1_firstWins 0 = .ok (.aload_n 0, 1) := by decide +kernel
theorem dX1_firstWins_1 : decode cX1_firstWins 1 = .ok (.iload_n 1, 1) := by decide +kernel
theorem dX1_firstWins_2 : decode cX1_firstWins 2 = .ok (.invokevirtual 22, 3) := by decide +kernel
theorem dX1_firstWins_5 : decode cX1_firstWins 5 = .ok (.istore_n 3, 1) := by decide +kernel
theorem dX1_firstWins_6 : decode cX1_firstWins 6 = .ok (.iconst 0, 1) := by decide +kernel
theorem dX1_firstWins_7 : decode cX1_firstWins 7 = .ok (.istore 4, 2) := by decide +kernel
theorem dX1_firstWins_9 : decode cX1_firstWins 9 = .ok (.iload 4, 2) := by decide +kernel
theorem dX1_firstWins_11 : decode cX1_firstWins 11 = .ok (.iload_n 3, 1) := by decide +kernel
theorem dX1_firstWins_12 : decode cX1_firstWins 12 = .ok (.if_icmp .ge 49, 3) := by decide +kernel
theorem dX1_firstWins_15 : decode cX1_firstWins 15 = .ok (.iload 4, 2) := by decide +kernel
theorem dX1_firstWins_17 : decode cX1_firstWins 17 = .ok (.aload_n 0, 1) := by decide +kernel
theorem dX1_firstWins_18 : decode cX1_firstWins 18 = .ok (.getfield 15, 3) := by decide +kernel
theorem dX1_firstWins_21 : decode cX1_firstWins 21 = .ok (.arraylength, 1) := by decide +kernel
theorem dX1_firstWins_22 : decode cX1_firstWins 22 = .ok (.if_icmp .ge 39, 3) := by decide +kernel
theorem dX1_firstWins_25 : decode cX1_firstWins 25 = .ok (.iload 4, 2) := by decide +kernel
theorem dX1_firstWins_27 : decode cX1_firstWins 27 = .ok (.aload_n 0, 1) := by decide +kernel
theorem dX1_firstWins_28 : decode cX1_firstWins 28 = .ok (.getfield 9, 3) := by decide +kernel
theorem dX1_firstWins_31 : decode cX1_firstWins 31 = .ok (.arraylength, 1) := by decide +kernel
theorem dX1_firstWins_32 : decode cX1_firstWins 32 = .ok (.if_icmp .ge 29, 3) := by decide +kernel
theorem dX1_firstWins_35 : decode cX1_firstWins 35 = .ok (.aload_n 0, 1) := by decide +kernel
theorem dX1_firstWins_36 : decode cX1_firstWins 36 = .ok (.getfield 15, 3) := by decide +kernel
theorem dX1_firstWins_39 : decode cX1_firstWins 39 = .ok (.iload 4, 2) := by decide +kernel
theorem dX1_firstWins_41 : decode cX1_firstWins 41 = .ok (.aload_n 0, 1) := by decide +kernel
theorem dX1_firstWins_42 : decode cX1_firstWins 42 = .ok (.aload_n 0, 1) := by decide +kernel
theorem dX1_firstWins_43 : decode cX1_firstWins 43 = .ok (.getfield 9, 3) := by decide +kernel
theorem dX1_firstWins_46 : decode cX1_firstWins 46 = .ok (.iload 4, 2) := by decide +kernel
theorem dX1_firstWins_48 : decode cX1_firstWins 48 = .ok (.iaload, 1) := by decide +kernel
theorem dX1_firstWins_49 : decode cX1_firstWins 49 = .ok (.aload_n 2, 1) := by decide +kernel
theorem dX1_firstWins_50 : decode cX1_firstWins 50 = .ok (.iload_n 3, 1) := by decide +kernel
theorem dX1_firstWins_51 : decode cX1_firstWins 51 = .ok (.invokevirtual 26, 3) := by decide +kernel
theorem dX1_firstWins_54 : decode cX1_firstWins 54 = .ok (.iastore, 1) := by decide +kernel
theorem dX1_firstWins_55 : decode cX1_firstWins 55 = .ok (.iinc 4 1, 3) := by decide +kernel
theorem dX1_firstWins_58 : decode cX1_firstWins 58 = .ok (.goto (-49), 3) := by decide +kernel
theorem dX1_firstWins_61 : decode cX1_firstWins 61 = .ok (.iconst 1, 1) := by decide +kernel
theorem dX1_firstWins_62 : decode cX1_firstWins 62 = .ok (.iload_n 3, 1) := by decide +kernel
theorem dX1_firstWins_63 : decode cX1_firstWins 63 = .ok (.ishl, 1) := by decide +kernel
theorem dX1_firstWins_64 : decode cX1_firstWins 64 = .ok (.iconst 1, 1) := by decide +kernel
theorem dX1_firstWins_65 : decode cX1_firstWins 65 = .ok (.isub, 1) := by decide +kernel
theorem dX1_firstWins_66 : decode cX1_firstWins 66 = .ok (.istore 4, 2) := by decide +kernel
theorem dX1_firstWins_68 : decode cX1_firstWins 68 = .ok (.iconst 0, 1) := by decide +kernel
theorem dX1_firstWins_69 : decode cX1_firstWins 69 = .ok (.istore 5, 2) := by decide +kernel
theorem dX1_firstWins_71 : decode cX1_firstWins 71 = .ok (.iload 5, 2) := by decide +kernel
theorem dX1_firstWins_73 : decode cX1_firstWins 73 = .ok (.iload 4, 2) := by decide +kernel
theorem dX1_firstWins_75 : decode cX1_firstWins 75 = .ok (.if_icmp .gt 90, 3) := by decide +kernel
theorem dX1_firstWins_78 : decode cX1_firstWins 78 = .ok (.iload 5, 2) := by decide +kernel
theorem dX1_firstWins_80 : decode cX1_firstWins 80 = .ok (.aload_n 0, 1) := by decide +kernel
theorem dX1_firstWins_81 : decode cX1_firstWins 81 = .ok (.getfield 18, 3) := by decide +kernel
theorem dX1_firstWins_84 : decode cX1_firstWins 84 = .ok (.arraylength, 1) := by decide +kernel
theorem dX1_firstWins_85 : decode cX1_firstWins 85 = .ok (.if_icmp .ge 80, 3) := by decide +kernel
theorem dX1_firstWins_88 : decode cX1_firstWins 88 = .ok (.aload_n 0, 1) := by decide +kernel
theorem dX1_firstWins_89 : decode cX1_firstWins 89 = .ok (.getfield 18, 3) := by decide +kernel
theorem dX1_firstWins_92 : decode cX1_firstWins 92 = .ok (.iload 5, 2) := by decide +kernel
theorem dX1_firstWins_94 : decode cX1_firstWins 94 = .ok (.iconst 0, 1) := by decide +kernel
theorem dX1_firstWins_95 : decode cX1_firstWins 95 = .ok (.bastore, 1) := by decide +kernel
theorem dX1_firstWins_96 : decode cX1_firstWins 96 = .ok (.iconst 0, 1) := by decide +kernel
theorem dX1_firstWins_97 : decode cX1_firstWins 97 = .ok (.istore 6, 2) := by decide +kernel
theorem dX1_firstWins_99 : decode cX1_firstWins 99 = .ok (.iload 6, 2) := by decide +kernel
theorem dX1_firstWins_101 : decode cX1_firstWins 101 = .ok (.iload_n 3, 1) := by decide +kernel
theorem dX1_firstWins_102 : decode cX1_firstWins 102 = .ok (.if_icmp .ge 57, 3) := by decide +kernel
theorem dX1_firstWins_105 : decode cX1_firstWins 105 = .ok (.iload 6, 2) := by decide +kernel
theorem dX1_firstWins_107 : decode cX1_firstWins 107 = .ok (.aload_n 0, 1) := by decide +kernel
theorem dX1_firstWins_108 : decode cX1_firstWins 108 = .ok (.getfield 15, 3) := by decide +kernel
theorem dX1_firstWins_111 : decode cX1_firstWins 111 = .ok (.arraylength, 1) := by decide +kernel
theorem dX1_firstWins_112 : decode cX1_firstWins 112 = .ok (.if_icmp .ge 47, 3) := by decide +kernel
theorem dX1_firstWins_115 : decode cX1_firstWins 115 = .ok (.iload 5, 2) := by decide +kernel
theorem dX1_firstWins_117 : decode cX1_firstWins 117 = .ok (.iload 6, 2) := by decide +kernel
theorem dX1_firstWins_119 : decode cX1_firstWins 119 = .ok (.ishr, 1) := by decide +kernel
theorem dX1_firstWins_120 : decode cX1_firstWins 120 = .ok (.iconst 1, 1) := by decide +kernel
theorem dX1_firstWins_121 : decode cX1_firstWins 121 = .ok (.iand, 1) := by decide +kernel
theorem dX1_firstWins_122 : decode cX1_firstWins 122 = .ok (.ifCond .eq 31, 3) := by decide +kernel
theorem dX1_firstWins_125 : decode cX1_firstWins 125 = .ok (.aload_n 0, 1) := by decide +kernel
theorem dX1_firstWins_126 : decode cX1_firstWins 126 = .ok (.getfield 18, 3) := by decide +kernel
theorem dX1_firstWins_129 : decode cX1_firstWins 129 = .ok (.iload 5, 2) := by decide +kernel
theorem dX1_firstWins_131 : decode cX1_firstWins 131 = .ok (.aload_n 0, 1) := by decide +kernel
theorem dX1_firstWins_132 : decode cX1_firstWins 132 = .ok (.getfield 15, 3) := by decide +kernel
theorem dX1_firstWins_135 : decode cX1_firstWins 135 = .ok (.iload 6, 2) := by decide +kernel
theorem dX1_firstWins_137 : decode cX1_firstWins 137 = .ok (.iaload, 1) := by decide +kernel
theorem dX1_firstWins_138 : decode cX1_firstWins 138 = .ok (.iconst (-1), 1) := by decide +kernel
theorem dX1_firstWins_139 : decode cX1_firstWins 139 = .ok (.ixor, 1) := by decide +kernel
theorem dX1_firstWins_140 : decode cX1_firstWins 140 = .ok (.iand, 1) := by decide +kernel
theorem dX1_firstWins_141 : decode cX1_firstWins 141 = .ok (.baload, 1) := by decide +kernel
theorem dX1_firstWins_142 : decode cX1_firstWins 142 = .ok (.ifCond .ne 11, 3) := by decide +kernel
theorem dX1_firstWins_145 : decode cX1_firstWins 145 = .ok (.aload_n 0, 1) := by decide +kernel
theorem dX1_firstWins_146 : decode cX1_firstWins 146 = .ok (.getfield 18, 3) := by decide +kernel
theorem dX1_firstWins_149 : decode cX1_firstWins 149 = .ok (.iload 5, 2) := by decide +kernel
theorem dX1_firstWins_151 : decode cX1_firstWins 151 = .ok (.iconst 1, 1) := by decide +kernel
theorem dX1_firstWins_152 : decode cX1_firstWins 152 = .ok (.bastore, 1) := by decide +kernel
theorem dX1_firstWins_153 : decode cX1_firstWins 153 = .ok (.iinc 6 1, 3) := by decide +kernel
theorem dX1_firstWins_156 : decode cX1_firstWins 156 = .ok (.goto (-57), 3) := by decide +kernel
theorem dX1_firstWins_159 : decode cX1_firstWins 159 = .ok (.iinc 5 1, 3) := by decide +kernel
theorem dX1_firstWins_162 : decode cX1_firstWins 162 = .ok (.goto (-91), 3) := by decide +kernel
theorem dX1_firstWins_165 : decode cX1_firstWins 165 = .ok (.iload 4, 2) := by decide +kernel
theorem dX1_firstWins_167 : decode cX1_firstWins 167 = .ok (.aload_n 0, 1) := by decide +kernel
theorem dX1_firstWins_168 : decode cX1_firstWins 168 = .ok (.getfield 18, 3) := by decide +kernel
theorem dX1_firstWins_171 : decode cX1_firstWins 171 = .ok (.arraylength, 1) := by decide +kernel
theorem dX1_firstWins_172 : decode cX1_firstWins 172 = .ok (.if_icmp .ge 17, 3) := by decide +kernel
theorem dX1_firstWins_175 : decode cX1_firstWins 175 = .ok (.aload_n 0, 1) := by decide +kernel
theorem dX1_firstWins_176 : decode cX1_firstWins 176 = .ok (.getfield 18, 3) := by decide +kernel
theorem dX1_firstWins_179 : decode cX1_firstWins 179 = .ok (.iload 4, 2) := by decide +kernel
theorem dX1_firstWins_181 : decode cX1_firstWins 181 = .ok (.baload, 1) := by decide +kernel
theorem dX1_firstWins_182 : decode cX1_firstWins 182 = .ok (.ifCond .eq 7, 3) := by decide +kernel
theorem dX1_firstWins_185 : decode cX1_firstWins 185 = .ok (.iconst 1, 1) := by decide +kernel
theorem dX1_firstWins_186 : decode cX1_firstWins 186 = .ok (.goto 4, 3) := by decide +kernel
theorem dX1_firstWins_189 : decode cX1_firstWins 189 = .ok (.iconst 0, 1) := by decide +kernel
theorem dX1_firstWins_190 : decode cX1_firstWins 190 = .ok (.ireturn, 1) := by decide +kernel
theorem dX1_gather_0 : decode cX1_gather 0 = .ok (.iconst 0, 1) := by decide +kernel
theorem dX1_gather_1 : decode cX1_gather 1 = .ok (.istore_n 2, 1) := by decide +kernel
theorem dX1_gather_2 : decode cX1_gather 2 = .ok (.iconst 0, 1) := by decide +kernel
theorem dX1_gather_3 : decode cX1_gather 3 = .ok (.istore_n 3, 1) := by decide +kernel
theorem dX1_gather_4 : decode cX1_gather 4 = .ok (.iload_n 3, 1) := by decide +kernel
theorem dX1_gather_5 : decode cX1_gather 5 = .ok (.bipush 25, 2) := by decide +kernel
theorem dX1_gather_7 : decode cX1_gather 7 = .ok (.if_icmp .ge 36, 3) := by decide +kernel
theorem dX1_gather_10 : decode cX1_gather 10 = .ok (.iload_n 1, 1) := by decide +kernel
theorem dX1_gather_11 : decode cX1_gather 11 = .ok (.iload_n 3, 1) := by decide +kernel
theorem dX1_gather_12 : decode cX1_gather 12 = .ok (.invokestatic 30, 3) := by decide +kernel
theorem dX1_gather_15 : decode cX1_gather 15 = .ok (.ifCond .eq 22, 3) := by decide +kernel
theorem dX1_gather_18 : decode cX1_gather 18 = .ok (.iload_n 2, 1) := by decide +kernel
theorem dX1_gather_19 : decode cX1_gather 19 = .ok (.aload_n 0, 1) := by decide +kernel
theorem dX1_gather_20 : decode cX1_gather 20 = .ok (.getfield 9, 3) := by decide +kernel
theorem dX1_gather_23 : decode cX1_gather 23 = .ok (.arraylength, 1) := by decide +kernel
theorem dX1_gather_24 : decode cX1_gather 24 = .ok (.if_icmp .ge 13, 3) := by decide +kernel
theorem dX1_gather_27 : decode cX1_gather 27 = .ok (.aload_n 0, 1) := by decide +kernel
theorem dX1_gather_28 : decode cX1_gather 28 = .ok (.getfield 9, 3) := by decide +kernel
theorem dX1_gather_31 : decode cX1_gather 31 = .ok (.iload_n 2, 1) := by decide +kernel
theorem dX1_gather_32 : decode cX1_gather 32 = .ok (.iload_n 3, 1) := by decide +kernel
theorem dX1_gather_33 : decode cX1_gather 33 = .ok (.iastore, 1) := by decide +kernel
theorem dX1_gather_34 : decode cX1_gather 34 = .ok (.iinc 2 1, 3) := by decide +kernel
theorem dX1_gather_37 : decode cX1_gather 37 = .ok (.iinc 3 1, 3) := by decide +kernel
theorem dX1_gather_40 : decode cX1_gather 40 = .ok (.goto (-36), 3) := by decide +kernel
theorem dX1_gather_43 : decode cX1_gather 43 = .ok (.iload_n 2, 1) := by decide +kernel
theorem dX1_gather_44 : decode cX1_gather 44 = .ok (.ireturn, 1) := by decide +kernel
theorem dX1_goneBy_0 : decode cX1_goneBy 0 = .ok (.iload_n 1, 1) := by decide +kernel
theorem dX1_goneBy_1 : decode cX1_goneBy 1 = .ok (.ifCond .lt 9, 3) := by decide +kernel
theorem dX1_goneBy_4 : decode cX1_goneBy 4 = .ok (.iload_n 1, 1) := by decide +kernel
theorem dX1_goneBy_5 : decode cX1_goneBy 5 = .ok (.aload_n 2, 1) := by decide +kernel
theorem dX1_goneBy_6 : decode cX1_goneBy 6 = .ok (.arraylength, 1) := by decide +kernel
theorem dX1_goneBy_7 : decode cX1_goneBy 7 = .ok (.if_icmp .lt 7, 3) := by decide +kernel
theorem dX1_goneBy_10 : decode cX1_goneBy 10 = .ok (.iconst 0, 1) := by decide +kernel
theorem dX1_goneBy_11 : decode cX1_goneBy 11 = .ok (.goto 6, 3) := by decide +kernel
theorem dX1_goneBy_14 : decode cX1_goneBy 14 = .ok (.aload_n 2, 1) := by decide +kernel
theorem dX1_goneBy_15 : decode cX1_goneBy 15 = .ok (.iload_n 1, 1) := by decide +kernel
theorem dX1_goneBy_16 : decode cX1_goneBy 16 = .ok (.iaload, 1) := by decide +kernel
theorem dX1_goneBy_17 : decode cX1_goneBy 17 = .ok (.istore 4, 2) := by decide +kernel
theorem dX1_goneBy_19 : decode cX1_goneBy 19 = .ok (.iconst 0, 1) := by decide +kernel
theorem dX1_goneBy_20 : decode cX1_goneBy 20 = .ok (.istore 5, 2) := by decide +kernel
theorem dX1_goneBy_22 : decode cX1_goneBy 22 = .ok (.iconst 0, 1) := by decide +kernel
theorem dX1_goneBy_23 : decode cX1_goneBy 23 = .ok (.istore 6, 2) := by decide +kernel
theorem dX1_goneBy_25 : decode cX1_goneBy 25 = .ok (.iload 6, 2) := by decide +kernel
theorem dX1_goneBy_27 : decode cX1_goneBy 27 = .ok (.iload_n 3, 1) := by decide +kernel
theorem dX1_goneBy_28 : decode cX1_goneBy 28 = .ok (.if_icmp .ge 54, 3) := by decide +kernel
theorem dX1_goneBy_31 : decode cX1_goneBy 31 = .ok (.iload 6, 2) := by decide +kernel
theorem dX1_goneBy_33 : decode cX1_goneBy 33 = .ok (.aload_n 0, 1) := by decide +kernel
theorem dX1_goneBy_34 : decode cX1_goneBy 34 = .ok (.getfield 9, 3) := by decide +kernel
theorem dX1_goneBy_37 : decode cX1_goneBy 37 = .ok (.arraylength, 1) := by decide +kernel
theorem dX1_goneBy_38 : decode cX1_goneBy 38 = .ok (.if_icmp .ge 44, 3) := by decide +kernel
theorem dX1_goneBy_41 : decode cX1_goneBy 41 = .ok (.aload_n 0, 1) := by decide +kernel
theorem dX1_goneBy_42 : decode cX1_goneBy 42 = .ok (.getfield 9, 3) := by decide +kernel
theorem dX1_goneBy_45 : decode cX1_goneBy 45 = .ok (.iload 6, 2) := by decide +kernel
theorem dX1_goneBy_47 : decode cX1_goneBy 47 = .ok (.iaload, 1) := by decide +kernel
theorem dX1_goneBy_48 : decode cX1_goneBy 48 = .ok (.iload_n 1, 1) := by decide +kernel
theorem dX1_goneBy_49 : decode cX1_goneBy 49 = .ok (.if_icmp .eq 18, 3) := by decide +kernel
theorem dX1_goneBy_52 : decode cX1_goneBy 52 = .ok (.iload 4, 2) := by decide +kernel
theorem dX1_goneBy_54 : decode cX1_goneBy 54 = .ok (.aload_n 0, 1) := by decide +kernel
theorem dX1_goneBy_55 : decode cX1_goneBy 55 = .ok (.getfield 9, 3) := by decide +kernel
theorem dX1_goneBy_58 : decode cX1_goneBy 58 = .ok (.iload 6, 2) := by decide +kernel
theorem dX1_goneBy_60 : decode cX1_goneBy 60 = .ok (.iaload, 1) := by decide +kernel
theorem dX1_goneBy_61 : decode cX1_goneBy 61 = .ok (.invokestatic 30, 3) := by decide +kernel
theorem dX1_goneBy_64 : decode cX1_goneBy 64 = .ok (.ifCond .eq 12, 3) := by decide +kernel
theorem dX1_goneBy_67 : decode cX1_goneBy 67 = .ok (.iload 5, 2) := by decide +kernel
theorem dX1_goneBy_69 : decode cX1_goneBy 69 = .ok (.iconst 1, 1) := by decide +kernel
theorem dX1_goneBy_70 : decode cX1_goneBy 70 = .ok (.iload 6, 2) := by decide +kernel
theorem dX1_goneBy_72 : decode cX1_goneBy 72 = .ok (.ishl, 1) := by decide +kernel
theorem dX1_goneBy_73 : decode cX1_goneBy 73 = .ok (.ior, 1) := by decide +kernel
theorem dX1_goneBy_74 : decode cX1_goneBy 74 = .ok (.istore 5, 2) := by decide +kernel
theorem dX1_goneBy_76 : decode cX1_goneBy 76 = .ok (.iinc 6 1, 3) := by decide +kernel
theorem dX1_goneBy_79 : decode cX1_goneBy 79 = .ok (.goto (-54), 3) := by decide +kernel
theorem dX1_goneBy_82 : decode cX1_goneBy 82 = .ok (.iload 5, 2) := by decide +kernel
theorem dX1_goneBy_84 : decode cX1_goneBy 84 = .ok (.ireturn, 1) := by decide +kernel
theorem dX2_init_0 : decode cX2_init 0 = .ok (.aload_n 0, 1) := by decide +kernel
theorem dX2_init_1 : decode cX2_init 1 = .ok (.invokespecial 1, 3) := by decide +kernel
theorem dX2_init_4 : decode cX2_init 4 = .ok (.aload_n 0, 1) := by decide +kernel
theorem dX2_init_5 : decode cX2_init 5 = .ok (.iload_n 1, 1) := by decide +kernel
theorem dX2_init_6 : decode cX2_init 6 = .ok (.iconst 0, 1) := by decide +kernel
theorem dX2_init_7 : decode cX2_init 7 = .ok (.invokestatic 7, 3) := by decide +kernel
theorem dX2_init_10 : decode cX2_init 10 = .ok (.newarray .int, 2) := by decide +kernel
theorem dX2_init_12 : decode cX2_init 12 = .ok (.putfield 13, 3) := by decide +kernel
theorem dX2_init_15 : decode cX2_init 15 = .ok (.aload_n 0, 1) := by decide +kernel
theorem dX2_init_16 : decode cX2_init 16 = .ok (.iconst 0, 1) := by decide +kernel
theorem dX2_init_17 : decode cX2_init 17 = .ok (.putfield 19, 3) := by decide +kernel
theorem dX2_init_20 : decode cX2_init 20 = .ok (.return_, 1) := by decide +kernel
theorem dX2_isFull_0 : decode cX2_isFull 0 = .ok (.aload_n 0, 1) := by decide +kernel
theorem dX2_isFull_1 : decode cX2_isFull 1 = .ok (.getfield 19, 3) := by decide +kernel
theorem dX2_isFull_4 : decode cX2_isFull 4 = .ok (.aload_n 0, 1) := by decide +kernel
theorem dX2_isFull_5 : decode cX2_isFull 5 = .ok (.getfield 13, 3) := by decide +kernel
theorem dX2_isFull_8 : decode cX2_isFull 8 = .ok (.arraylength, 1) := by decide +kernel
theorem dX2_isFull_9 : decode cX2_isFull 9 = .ok (.if_icmp .lt 7, 3) := by decide +kernel
theorem dX2_isFull_12 : decode cX2_isFull 12 = .ok (.iconst 1, 1) := by decide +kernel
theorem dX2_isFull_13 : decode cX2_isFull 13 = .ok (.goto 4, 3) := by decide +kernel
theorem dX2_isFull_16 : decode cX2_isFull 16 = .ok (.iconst 0, 1) := by decide +kernel
theorem dX2_isFull_17 : decode cX2_isFull 17 = .ok (.ireturn, 1) := by decide +kernel
theorem dX2_add_0 : decode cX2_add 0 = .ok (.aload_n 0, 1) := by decide +kernel
theorem dX2_add_1 : decode cX2_add 1 = .ok (.getfield 19, 3) := by decide +kernel
theorem dX2_add_4 : decode cX2_add 4 = .ok (.ifCond .lt 35, 3) := by decide +kernel
theorem dX2_add_7 : decode cX2_add 7 = .ok (.aload_n 0, 1) := by decide +kernel
theorem dX2_add_8 : decode cX2_add 8 = .ok (.getfield 19, 3) := by decide +kernel
theorem dX2_add_11 : decode cX2_add 11 = .ok (.aload_n 0, 1) := by decide +kernel
theorem dX2_add_12 : decode cX2_add 12 = .ok (.getfield 13, 3) := by decide +kernel
theorem dX2_add_15 : decode cX2_add 15 = .ok (.arraylength, 1) := by decide +kernel
theorem dX2_add_16 : decode cX2_add 16 = .ok (.if_icmp .ge 23, 3) := by decide +kernel
theorem dX2_add_19 : decode cX2_add 19 = .ok (.aload_n 0, 1) := by decide +kernel
theorem dX2_add_20 : decode cX2_add 20 = .ok (.getfield 13, 3) := by decide +kernel
theorem dX2_add_23 : decode cX2_add 23 = .ok (.aload_n 0, 1) := by decide +kernel
theorem dX2_add_24 : decode cX2_add 24 = .ok (.getfield 19, 3) := by decide +kernel
theorem dX2_add_27 : decode cX2_add 27 = .ok (.iload_n 1, 1) := by decide +kernel
theorem dX2_add_28 : decode cX2_add 28 = .ok (.iastore, 1) := by decide +kernel
theorem dX2_add_29 : decode cX2_add 29 = .ok (.aload_n 0, 1) := by decide +kernel
theorem dX2_add_30 : decode cX2_add 30 = .ok (.dup, 1) := by decide +kernel
theorem dX2_add_31 : decode cX2_add 31 = .ok (.getfield 19, 3) := by decide +kernel
theorem dX2_add_34 : decode cX2_add 34 = .ok (.iconst 1, 1) := by decide +kernel
theorem dX2_add_35 : decode cX2_add 35 = .ok (.iadd, 1) := by decide +kernel
theorem dX2_add_36 : decode cX2_add 36 = .ok (.putfield 19, 3) := by decide +kernel
theorem dX2_add_39 : decode cX2_add 39 = .ok (.return_, 1) := by decide +kernel
theorem dX2_get_0 : decode cX2_get 0 = .ok (.iload_n 1, 1) := by decide +kernel
theorem dX2_get_1 : decode cX2_get 1 = .ok (.ifCond .lt 20, 3) := by decide +kernel
theorem dX2_get_4 : decode cX2_get 4 = .ok (.iload_n 1, 1) := by decide +kernel
theorem dX2_get_5 : decode cX2_get 5 = .ok (.aload_n 0, 1) := by decide +kernel
theorem dX2_get_6 : decode cX2_get 6 = .ok (.getfield 19, 3) := by decide +kernel
theorem dX2_get_9 : decode cX2_get 9 = .ok (.if_icmp .ge 12, 3) := by decide +kernel
theorem dX2_get_12 : decode cX2_get 12 = .ok (.iload_n 1, 1) := by decide +kernel
theorem dX2_get_13 : decode cX2_get 13 = .ok (.aload_n 0, 1) := by decide +kernel
theorem dX2_get_14 : decode cX2_get 14 = .ok (.getfield 13, 3) := by decide +kernel
theorem dX2_get_17 : decode cX2_get 17 = .ok (.arraylength, 1) := by decide +kernel
theorem dX2_get_18 : decode cX2_get 18 = .ok (.if_icmp .lt 7, 3) := by decide +kernel
theorem dX2_get_21 : decode cX2_get 21 = .ok (.iconst 0, 1) := by decide +kernel
theorem dX2_get_22 : decode cX2_get 22 = .ok (.goto 9, 3) := by decide +kernel
theorem dX2_get_25 : decode cX2_get 25 = .ok (.aload_n 0, 1) := by decide +kernel
theorem dX2_get_26 : decode cX2_get 26 = .ok (.getfield 13, 3) := by decide +kernel
theorem dX2_get_29 : decode cX2_get 29 = .ok (.iload_n 1, 1) := by decide +kernel
theorem dX2_get_30 : decode cX2_get 30 = .ok (.iaload, 1) := by decide +kernel
theorem dX2_get_31 : decode cX2_get 31 = .ok (.ireturn, 1) := by decide +kernel
theorem dX2_put_0 : decode cX2_put 0 = .ok (.iload_n 1, 1) := by decide +kernel
theorem dX2_put_1 : decode cX2_put 1 = .ok (.ifCond .lt 27, 3) := by decide +kernel
theorem dX2_put_4 : decode cX2_put 4 = .ok (.iload_n 1, 1) := by decide +kernel
theorem dX2_put_5 : decode cX2_put 5 = .ok (.aload_n 0, 1) := by decide +kernel
theorem dX2_put_6 : decode cX2_put 6 = .ok (.getfield 19, 3) := by decide +kernel
theorem dX2_put_9 : decode cX2_put 9 = .ok (.if_icmp .ge 19, 3) := by decide +kernel
theorem dX2_put_12 : decode cX2_put 12 = .ok (.iload_n 1, 1) := by decide +kernel
theorem dX2_put_13 : decode cX2_put 13 = .ok (.aload_n 0, 1) := by decide +kernel
theorem dX2_put_14 : decode cX2_put 14 = .ok (.getfield 13, 3) := by decide +kernel
theorem dX2_put_17 : decode cX2_put 17 = .ok (.arraylength, 1) := by decide +kernel
theorem dX2_put_18 : decode cX2_put 18 = .ok (.if_icmp .ge 10, 3) := by decide +kernel
theorem dX2_put_21 : decode cX2_put 21 = .ok (.aload_n 0, 1) := by decide +kernel
theorem dX2_put_22 : decode cX2_put 22 = .ok (.getfield 13, 3) := by decide +kernel
theorem dX2_put_25 : decode cX2_put 25 = .ok (.iload_n 1, 1) := by decide +kernel
theorem dX2_put_26 : decode cX2_put 26 = .ok (.iload_n 2, 1) := by decide +kernel
theorem dX2_put_27 : decode cX2_put 27 = .ok (.iastore, 1) := by decide +kernel
theorem dX2_put_28 : decode cX2_put 28 = .ok (.return_, 1) := by decide +kernel
theorem dX2_contains_0 : decode cX2_contains 0 = .ok (.iconst 0, 1) := by decide +kernel
theorem dX2_contains_1 : decode cX2_contains 1 = .ok (.istore_n 2, 1) := by decide +kernel
theorem dX2_contains_2 : decode cX2_contains 2 = .ok (.iload_n 2, 1) := by decide +kernel
theorem dX2_contains_3 : decode cX2_contains 3 = .ok (.aload_n 0, 1) := by decide +kernel
theorem dX2_contains_4 : decode cX2_contains 4 = .ok (.getfield 19, 3) := by decide +kernel
theorem dX2_contains_7 : decode cX2_contains 7 = .ok (.if_icmp .ge 30, 3) := by decide +kernel
theorem dX2_contains_10 : decode cX2_contains 10 = .ok (.iload_n 2, 1) := by decide +kernel
theorem dX2_contains_11 : decode cX2_contains 11 = .ok (.aload_n 0, 1) := by decide +kernel
theorem dX2_contains_12 : decode cX2_contains 12 = .ok (.getfield 13, 3) := by decide +kernel
theorem dX2_contains_15 : decode cX2_contains 15 = .ok (.arraylength, 1) := by decide +kernel
theorem dX2_contains_16 : decode cX2_contains 16 = .ok (.if_icmp .ge 21, 3) := by decide +kernel
theorem dX2_contains_19 : decode cX2_contains 19 = .ok (.aload_n 0, 1) := by decide +kernel
theorem dX2_contains_20 : decode cX2_contains 20 = .ok (.getfield 13, 3) := by decide +kernel
theorem dX2_contains_23 : decode cX2_contains 23 = .ok (.iload_n 2, 1) := by decide +kernel
theorem dX2_contains_24 : decode cX2_contains 24 = .ok (.iaload, 1) := by decide +kernel
theorem dX2_contains_25 : decode cX2_contains 25 = .ok (.iload_n 1, 1) := by decide +kernel
theorem dX2_contains_26 : decode cX2_contains 26 = .ok (.if_icmp .ne 5, 3) := by decide +kernel
theorem dX2_contains_29 : decode cX2_contains 29 = .ok (.iconst 1, 1) := by decide +kernel
theorem dX2_contains_30 : decode cX2_contains 30 = .ok (.ireturn, 1) := by decide +kernel
theorem dX2_contains_31 : decode cX2_contains 31 = .ok (.iinc 2 1, 3) := by decide +kernel
theorem dX2_contains_34 : decode cX2_contains 34 = .ok (.goto (-32), 3) := by decide +kernel
theorem dX2_contains_37 : decode cX2_contains 37 = .ok (.iconst 0, 1) := by decide +kernel
theorem dX2_contains_38 : decode cX2_contains 38 = .ok (.ireturn, 1) := by decide +kernel
theorem dX2_drop_0 : decode cX2_drop 0 = .ok (.aload_n 0, 1) := by decide +kernel
theorem dX2_drop_1 : decode cX2_drop 1 = .ok (.iconst 0, 1) := by decide +kernel
theorem dX2_drop_2 : decode cX2_drop 2 = .ok (.putfield 19, 3) := by decide +kernel
theorem dX2_drop_5 : decode cX2_drop 5 = .ok (.return_, 1) := by decide +kernel
theorem dX2_becomes_0 : decode cX2_becomes 0 = .ok (.aload_n 0, 1) := by decide +kernel
theorem dX2_becomes_1 : decode cX2_becomes 1 = .ok (.iconst 0, 1) := by decide +kernel
theorem dX2_becomes_2 : decode cX2_becomes 2 = .ok (.putfield 19, 3) := by decide +kernel
theorem dX2_becomes_5 : decode cX2_becomes 5 = .ok (.iconst 0, 1) := by decide +kernel
theorem dX2_becomes_6 : decode cX2_becomes 6 = .ok (.istore_n 2, 1) := by decide +kernel
theorem dX2_becomes_7 : decode cX2_becomes 7 = .ok (.iload_n 2, 1) := by decide +kernel
theorem dX2_becomes_8 : decode cX2_becomes 8 = .ok (.aload_n 1, 1) := by decide +kernel
theorem dX2_becomes_9 : decode cX2_becomes 9 = .ok (.getfield 19, 3) := by decide +kernel
theorem dX2_becomes_12 : decode cX2_becomes 12 = .ok (.if_icmp .ge 18, 3) := by decide +kernel
theorem dX2_becomes_15 : decode cX2_becomes 15 = .ok (.aload_n 0, 1) := by decide +kernel
theorem dX2_becomes_16 : decode cX2_becomes 16 = .ok (.aload_n 1, 1) := by decide +kernel
theorem dX2_becomes_17 : decode cX2_becomes 17 = .ok (.iload_n 2, 1) := by decide +kernel
theorem dX2_becomes_18 : decode cX2_becomes 18 = .ok (.invokevirtual 23, 3) := by decide +kernel
theorem dX2_becomes_21 : decode cX2_becomes 21 = .ok (.invokevirtual 27, 3) := by decide +kernel
theorem dX2_becomes_24 : decode cX2_becomes 24 = .ok (.iinc 2 1, 3) := by decide +kernel
theorem dX2_becomes_27 : decode cX2_becomes 27 = .ok (.goto (-20), 3) := by decide +kernel
theorem dX2_becomes_30 : decode cX2_becomes 30 = .ok (.return_, 1) := by decide +kernel
theorem dX3_init_0 : decode cX3_init 0 = .ok (.aload_n 0, 1) := by decide +kernel
theorem dX3_init_1 : decode cX3_init 1 = .ok (.invokespecial 3, 3) := by decide +kernel
theorem dX3_init_4 : decode cX3_init 4 = .ok (.aload_n 0, 1) := by decide +kernel
theorem dX3_init_5 : decode cX3_init 5 = .ok (.bipush 25, 2) := by decide +kernel
theorem dX3_init_7 : decode cX3_init 7 = .ok (.newarray .int, 2) := by decide +kernel
theorem dX3_init_9 : decode cX3_init 9 = .ok (.putfield 9, 3) := by decide +kernel
theorem dX3_init_12 : decode cX3_init 12 = .ok (.aload_n 0, 1) := by decide +kernel
theorem dX3_init_13 : decode cX3_init 13 = .ok (.iconst 5, 1) := by decide +kernel
theorem dX3_init_14 : decode cX3_init 14 = .ok (.newarray .int, 2) := by decide +kernel
theorem dX3_init_16 : decode cX3_init 16 = .ok (.putfield 15, 3) := by decide +kernel
theorem dX3_init_19 : decode cX3_init 19 = .ok (.aload_n 0, 1) := by decide +kernel
theorem dX3_init_20 : decode cX3_init 20 = .ok (.iconst 5, 1) := by decide +kernel
theorem dX3_init_21 : decode cX3_init 21 = .ok (.newarray .int, 2) := by decide +kernel
theorem dX3_init_23 : decode cX3_init 23 = .ok (.putfield 18, 3) := by decide +kernel
theorem dX3_init_26 : decode cX3_init 26 = .ok (.aload_n 0, 1) := by decide +kernel
theorem dX3_init_27 : decode cX3_init 27 = .ok (.iconst 5, 1) := by decide +kernel
theorem dX3_init_28 : decode cX3_init 28 = .ok (.newarray .int, 2) := by decide +kernel
theorem dX3_init_30 : decode cX3_init 30 = .ok (.putfield 21, 3) := by decide +kernel
theorem dX3_init_33 : decode cX3_init 33 = .ok (.aload_n 0, 1) := by decide +kernel
theorem dX3_init_34 : decode cX3_init 34 = .ok (.iconst 0, 1) := by decide +kernel
theorem dX3_init_35 : decode cX3_init 35 = .ok (.putfield 24, 3) := by decide +kernel
theorem dX3_init_38 : decode cX3_init 38 = .ok (.aload_n 0, 1) := by decide +kernel
theorem dX3_init_39 : decode cX3_init 39 = .ok (.iconst 0, 1) := by decide +kernel
theorem dX3_init_40 : decode cX3_init 40 = .ok (.putfield 28, 3) := by decide +kernel
theorem dX3_init_43 : decode cX3_init 43 = .ok (.aload_n 0, 1) := by decide +kernel
theorem dX3_init_44 : decode cX3_init 44 = .ok (.iconst 0, 1) := by decide +kernel
theorem dX3_init_45 : decode cX3_init 45 = .ok (.putfield 31, 3) := by decide +kernel
theorem dX3_init_48 : decode cX3_init 48 = .ok (.aload_n 0, 1) := by decide +kernel
theorem dX3_init_49 : decode cX3_init 49 = .ok (.iconst 0, 1) := by decide +kernel
theorem dX3_init_50 : decode cX3_init 50 = .ok (.putfield 35, 3) := by decide +kernel
theorem dX3_init_53 : decode cX3_init 53 = .ok (.return_, 1) := by decide +kernel
theorem dX3_prepare_0 : decode cX3_prepare 0 = .ok (.aload_n 0, 1) := by decide +kernel
theorem dX3_prepare_1 : decode cX3_prepare 1 = .ok (.iload_n 1, 1) := by decide +kernel
theorem dX3_prepare_2 : decode cX3_prepare 2 = .ok (.iconst 5, 1) := by decide +kernel
theorem dX3_prepare_3 : decode cX3_prepare 3 = .ok (.invokestatic 38, 3) := by decide +kernel
theorem dX3_prepare_6 : decode cX3_prepare 6 = .ok (.putfield 24, 3) := by decide +kernel
theorem dX3_prepare_9 : decode cX3_prepare 9 = .ok (.aload_n 0, 1) := by decide +kernel
theorem dX3_prepare_10 : decode cX3_prepare 10 = .ok (.iload_n 2, 1) := by decide +kernel
theorem dX3_prepare_11 : decode cX3_prepare 11 = .ok (.putfield 28, 3) := by decide +kernel
theorem dX3_prepare_14 : decode cX3_prepare 14 = .ok (.aload_n 0, 1) := by decide +kernel
theorem dX3_prepare_15 : decode cX3_prepare 15 = .ok (.iconst 0, 1) := by decide +kernel
theorem dX3_prepare_16 : decode cX3_prepare 16 = .ok (.putfield 35, 3) := by decide +kernel
theorem dX3_prepare_19 : decode cX3_prepare 19 = .ok (.iconst 0, 1) := by decide +kernel
theorem dX3_prepare_20 : decode cX3_prepare 20 = .ok (.istore 4, 2) := by decide +kernel
theorem dX3_prepare_22 : decode cX3_prepare 22 = .ok (.iload 4, 2) := by decide +kernel
theorem dX3_prepare_24 : decode cX3_prepare 24 = .ok (.aload_n 0, 1) := by decide +kernel
theorem dX3_prepare_25 : decode cX3_prepare 25 = .ok (.getfield 9, 3) := by decide +kernel
theorem dX3_prepare_28 : decode cX3_prepare 28 = .ok (.arraylength, 1) := by decide +kernel
theorem dX3_prepare_29 : decode cX3_prepare 29 = .ok (.if_icmp .ge 31, 3) := by decide +kernel
theorem dX3_prepare_32 : decode cX3_prepare 32 = .ok (.aload_n 0, 1) := by decide +kernel
theorem dX3_prepare_33 : decode cX3_prepare 33 = .ok (.getfield 9, 3) := by decide +kernel
theorem dX3_prepare_36 : decode cX3_prepare 36 = .ok (.iload 4, 2) := by decide +kernel
theorem dX3_prepare_38 : decode cX3_prepare 38 = .ok (.iload 4, 2) := by decide +kernel
theorem dX3_prepare_40 : decode cX3_prepare 40 = .ok (.aload_n 3, 1) := by decide +kernel
theorem dX3_prepare_41 : decode cX3_prepare 41 = .ok (.arraylength, 1) := by decide +kernel
theorem dX3_prepare_42 : decode cX3_prepare 42 = .ok (.if_icmp .ge 10, 3) := by decide +kernel
theorem dX3_prepare_45 : decode cX3_prepare 45 = .ok (.aload_n 3, 1) := by decide +kernel
theorem dX3_prepare_46 : decode cX3_prepare 46 = .ok (.iload 4, 2) := by decide +kernel
theorem dX3_prepare_48 : decode cX3_prepare 48 = .ok (.iaload, 1) := by decide +kernel
theorem dX3_prepare_49 : decode cX3_prepare 49 = .ok (.goto 4, 3) := by decide +kernel
theorem dX3_prepare_52 : decode cX3_prepare 52 = .ok (.iconst 0, 1) := by decide +kernel
theorem dX3_prepare_53 : decode cX3_prepare 53 = .ok (.iastore, 1) := by decide +kernel
theorem dX3_prepare_54 : decode cX3_prepare 54 = .ok (.iinc 4 1, 3) := by decide +kernel
theorem dX3_prepare_57 : decode cX3_prepare 57 = .ok (.goto (-35), 3) := by decide +kernel
theorem dX3_prepare_60 : decode cX3_prepare 60 = .ok (.return_, 1) := by decide +kernel
theorem dX3_startBehind_0 : decode cX3_startBehind 0 = .ok (.iconst 0, 1) := by decide +kernel
theorem dX3_startBehind_1 : decode cX3_startBehind 1 = .ok (.istore_n 2, 1) := by decide +kernel
theorem dX3_startBehind_2 : decode cX3_startBehind 2 = .ok (.iload_n 2, 1) := by decide +kernel
theorem dX3_startBehind_3 : decode cX3_startBehind 3 = .ok (.aload_n 0, 1) := by decide +kernel
theorem dX3_startBehind_4 : decode cX3_startBehind 4 = .ok (.getfield 24, 3) := by decide +kernel
theorem dX3_startBehind_7 : decode cX3_startBehind 7 = .ok (.if_icmp .ge 72, 3) := by decide +kernel
theorem dX3_startBehind_10 : decode cX3_startBehind 10 = .ok (.iload_n 2, 1) := by decide +kernel
theorem dX3_startBehind_11 : decode cX3_startBehind 11 = .ok (.aload_n 0, 1) := by decide +kernel
theorem dX3_startBehind_12 : decode cX3_startBehind 12 = .ok (.getfield 15, 3) := by decide +kernel
theorem dX3_startBehind_15 : decode cX3_startBehind 15 = .ok (.arraylength, 1) := by decide +kernel
theorem dX3_startBehind_16 : decode cX3_startBehind 16 = .ok (.if_icmp .ge 63, 3) := by decide +kernel
theorem dX3_startBehind_19 : decode cX3_startBehind 19 = .ok (.iconst 0, 1) := by decide +kernel
theorem dX3_startBehind_20 : decode cX3_startBehind 20 = .ok (.istore_n 3, 1) := by decide +kernel
theorem dX3_startBehind_21 : decode cX3_startBehind 21 = .ok (.iconst 0, 1) := by decide +kernel
theorem dX3_startBehind_22 : decode cX3_startBehind 22 = .ok (.istore 4, 2) := by decide +kernel
theorem dX3_startBehind_24 : decode cX3_startBehind 24 = .ok (.iload 4, 2) := by decide +kernel
theorem dX3_startBehind_26 : decode cX3_startBehind 26 = .ok (.aload_n 0, 1) := by decide +kernel
theorem dX3_startBehind_27 : decode cX3_startBehind 27 = .ok (.getfield 24, 3) := by decide +kernel
theorem dX3_startBehind_30 : decode cX3_startBehind 30 = .ok (.if_icmp .ge 36, 3) := by decide +kernel
theorem dX3_startBehind_33 : decode cX3_startBehind 33 = .ok (.iload_n 1, 1) := by decide +kernel
theorem dX3_startBehind_34 : decode cX3_startBehind 34 = .ok (.iload_n 2, 1) := by decide +kernel
theorem dX3_startBehind_35 : decode cX3_startBehind 35 = .ok (.aload_n 0, 1) := by decide +kernel
theorem dX3_startBehind_36 : decode cX3_startBehind 36 = .ok (.getfield 24, 3) := by decide +kernel
theorem dX3_startBehind_39 : decode cX3_startBehind 39 = .ok (.imul, 1) := by decide +kernel
theorem dX3_startBehind_40 : decode cX3_startBehind 40 = .ok (.iload 4, 2) := by decide +kernel
theorem dX3_startBehind_42 : decode cX3_startBehind 42 = .ok (.iadd, 1) := by decide +kernel
theorem dX3_startBehind_43 : decode cX3_startBehind 43 = .ok (.invokestatic 44, 3) := by decide +kernel
theorem dX3_startBehind_46 : decode cX3_startBehind 46 = .ok (.ifCond .eq 14, 3) := by decide +kernel
theorem dX3_startBehind_49 : decode cX3_startBehind 49 = .ok (.aload_n 0, 1) := by decide +kernel
theorem dX3_startBehind_50 : decode cX3_startBehind 50 = .ok (.getfield 15, 3) := by decide +kernel
theorem dX3_startBehind_53 : decode cX3_startBehind 53 = .ok (.iload_n 2, 1) := by decide +kernel
theorem dX3_startBehind_54 : decode cX3_startBehind 54 = .ok (.iload 4, 2) := by decide +kernel
theorem dX3_startBehind_56 : decode cX3_startBehind 56 = .ok (.iastore, 1) := by decide +kernel
theorem dX3_startBehind_57 : decode cX3_startBehind 57 = .ok (.iinc 3 1, 3) := by decide +kernel
theorem dX3_startBehind_60 : decode cX3_startBehind 60 = .ok (.iinc 4 1, 3) := by decide +kernel
theorem dX3_startBehind_63 : decode cX3_startBehind 63 = .ok (.goto (-39), 3) := by decide +kernel
theorem dX3_startBehind_66 : decode cX3_startBehind 66 = .ok (.iload_n 3, 1) := by decide +kernel
theorem dX3_startBehind_67 : decode cX3_startBehind 67 = .ok (.iconst 1, 1) := by decide +kernel
theorem dX3_startBehind_68 : decode cX3_startBehind 68 = .ok (.if_icmp .eq 5, 3) := by decide +kernel
theorem dX3_startBehind_71 : decode cX3_startBehind 71 = .ok (.iconst 0, 1) := by decide +kernel
theorem dX3_startBehind_72 : decode cX3_startBehind 72 = .ok (.ireturn, 1) := by decide +kernel
theorem dX3_startBehind_73 : decode cX3_startBehind 73 = .ok (.iinc 2 1, 3) := by decide +kernel
theorem dX3_startBehind_76 : decode cX3_startBehind 76 = .ok (.goto (-74), 3) := by decide +kernel
theorem dX3_startBehind_79 : decode cX3_startBehind 79 = .ok (.iconst 1, 1) := by decide +kernel
theorem dX3_startBehind_80 : decode cX3_startBehind 80 = .ok (.ireturn, 1) := by decide +kernel
theorem dX3_countAll_0 : decode cX3_countAll 0 = .ok (.aload_n 0, 1) := by decide +kernel
theorem dX3_countAll_1 : decode cX3_countAll 1 = .ok (.iconst 0, 1) := by decide +kernel
theorem dX3_countAll_2 : decode cX3_countAll 2 = .ok (.putfield 31, 3) := by decide +kernel
theorem dX3_countAll_5 : decode cX3_countAll 5 = .ok (.aload_n 0, 1) := by decide +kernel
theorem dX3_countAll_6 : decode cX3_countAll 6 = .ok (.iconst 0, 1) := by decide +kernel
theorem dX3_countAll_7 : decode cX3_countAll 7 = .ok (.iconst 0, 1) := by decide +kernel
theorem dX3_countAll_8 : decode cX3_countAll 8 = .ok (.iconst 0, 1) := by decide +kernel
theorem dX3_countAll_9 : decode cX3_countAll 9 = .ok (.invokevirtual 48, 3) := by decide +kernel
theorem dX3_countAll_12 : decode cX3_countAll 12 = .ok (.return_, 1) := by decide +kernel
theorem dX3_findNext_0 : decode cX3_findNext 0 = .ok (.aload_n 0, 1) := by decide +kernel
theorem dX3_findNext_1 : decode cX3_findNext 1 = .ok (.iconst 1, 1) := by decide +kernel
theorem dX3_findNext_2 : decode cX3_findNext 2 = .ok (.putfield 31, 3) := by decide +kernel
theorem dX3_findNext_5 : decode cX3_findNext 5 = .ok (.aload_n 0, 1) := by decide +kernel
theorem dX3_findNext_6 : decode cX3_findNext 6 = .ok (.iconst 0, 1) := by decide +kernel
theorem dX3_findNext_7 : decode cX3_findNext 7 = .ok (.iconst 0, 1) := by decide +kernel
theorem dX3_findNext_8 : decode cX3_findNext 8 = .ok (.iconst 1, 1) := by decide +kernel
theorem dX3_findNext_9 : decode cX3_findNext 9 = .ok (.invokevirtual 48, 3) := by decide +kernel
theorem dX3_findNext_12 : decode cX3_findNext 12 = .ok (.return_, 1) := by decide +kernel
theorem dX3_firstAt_0 : decode cX3_firstAt 0 = .ok (.aload_n 0, 1) := by decide +kernel
theorem dX3_firstAt_1 : decode cX3_firstAt 1 = .ok (.getfield 35, 3) := by decide +kernel
theorem dX3_firstAt_4 : decode cX3_firstAt 4 = .ok (.iconst 1, 1) := by decide +kernel
theorem dX3_firstAt_5 : decode cX3_firstAt 5 = .ok (.if_icmp .lt 16, 3) := by decide +kernel
theorem dX3_firstAt_8 : decode cX3_firstAt 8 = .ok (.iload_n 1, 1) := by decide +kernel
theorem dX3_firstAt_9 : decode cX3_firstAt 9 = .ok (.ifCond .lt 12, 3) := by decide +kernel
theorem dX3_firstAt_12 : decode cX3_firstAt 12 = .ok (.iload_n 1, 1) := by decide +kernel
theorem dX3_firstAt_13 : decode cX3_firstAt 13 = .ok (.aload_n 0, 1) := by decide +kernel
theorem dX3_firstAt_14 : decode cX3_firstAt 14 = .ok (.getfield 21, 3) := by decide +kernel
theorem dX3_firstAt_17 : decode cX3_firstAt 17 = .ok (.arraylength, 1) := by decide +kernel
theorem dX3_firstAt_18 : decode cX3_firstAt 18 = .ok (.if_icmp .lt 8, 3) := by decide +kernel
theorem dX3_firstAt_21 : decode cX3_firstAt 21 = .ok (.bipush (-5), 2) := by decide +kernel
theorem dX3_firstAt_23 : decode cX3_firstAt 23 = .ok (.goto 9, 3) := by decide +kernel
theorem dX3_firstAt_26 : decode cX3_firstAt 26 = .ok (.aload_n 0, 1) := by decide +kernel
theorem dX3_firstAt_27 : decode cX3_firstAt 27 = .ok (.getfield 21, 3) := by decide +kernel
theorem dX3_firstAt_30 : decode cX3_firstAt 30 = .ok (.iload_n 1, 1) := by decide +kernel
theorem dX3_firstAt_31 : decode cX3_firstAt 31 = .ok (.iaload, 1) := by decide +kernel
theorem dX3_firstAt_32 : decode cX3_firstAt 32 = .ok (.ireturn, 1) := by decide +kernel
theorem dX3_goOn_0 : decode cX3_goOn 0 = .ok (.iload_n 1, 1) := by decide +kernel
theorem dX3_goOn_1 : decode cX3_goOn 1 = .ok (.ifCond .lt 29, 3) := by decide +kernel
theorem dX3_goOn_4 : decode cX3_goOn 4 = .ok (.iload_n 1, 1) := by decide +kernel
theorem dX3_goOn_5 : decode cX3_goOn 5 = .ok (.aload_n 0, 1) := by decide +kernel
theorem dX3_goOn_6 : decode cX3_goOn 6 = .ok (.getfield 24, 3) := by decide +kernel
theorem dX3_goOn_9 : decode cX3_goOn 9 = .ok (.if_icmp .ge 21, 3) := by decide +kernel
theorem dX3_goOn_12 : decode cX3_goOn 12 = .ok (.iload_n 1, 1) := by decide +kernel
theorem dX3_goOn_13 : decode cX3_goOn 13 = .ok (.aload_n 0, 1) := by decide +kernel
theorem dX3_goOn_14 : decode cX3_goOn 14 = .ok (.getfield 18, 3) := by decide +kernel
theorem dX3_goOn_17 : decode cX3_goOn 17 = .ok (.arraylength, 1) := by decide +kernel
theorem dX3_goOn_18 : decode cX3_goOn 18 = .ok (.if_icmp .ge 12, 3) := by decide +kernel
theorem dX3_goOn_21 : decode cX3_goOn 21 = .ok (.iload_n 1, 1) := by decide +kernel
theorem dX3_goOn_22 : decode cX3_goOn 22 = .ok (.aload_n 0, 1) := by decide +kernel
theorem dX3_goOn_23 : decode cX3_goOn 23 = .ok (.getfield 15, 3) := by decide +kernel
theorem dX3_goOn_26 : decode cX3_goOn 26 = .ok (.arraylength, 1) := by decide +kernel
theorem dX3_goOn_27 : decode cX3_goOn 27 = .ok (.if_icmp .lt 4, 3) := by decide +kernel
theorem dX3_goOn_30 : decode cX3_goOn 30 = .ok (.return_, 1) := by decide +kernel
theorem dX3_goOn_31 : decode cX3_goOn 31 = .ok (.iload_n 3, 1) := by decide +kernel
theorem dX3_goOn_32 : decode cX3_goOn 32 = .ok (.ifCond .eq 12, 3) := by decide +kernel
theorem dX3_goOn_35 : decode cX3_goOn 35 = .ok (.aload_n 0, 1) := by decide +kernel
theorem dX3_goOn_36 : decode cX3_goOn 36 = .ok (.getfield 15, 3) := by decide +kernel
theorem dX3_goOn_39 : decode cX3_goOn 39 = .ok (.iload_n 1, 1) := by decide +kernel
theorem dX3_goOn_40 : decode cX3_goOn 40 = .ok (.iaload, 1) := by decide +kernel
theorem dX3_goOn_41 : decode cX3_goOn 41 = .ok (.goto 4, 3) := by decide +kernel
theorem dX3_goOn_44 : decode cX3_goOn 44 = .ok (.iconst 0, 1) := by decide +kernel
theorem dX3_goOn_45 : decode cX3_goOn 45 = .ok (.istore 4, 2) := by decide +kernel
theorem dX3_goOn_47 : decode cX3_goOn 47 = .ok (.iload 4, 2) := by decide +kernel
theorem dX3_goOn_49 : decode cX3_goOn 49 = .ok (.aload_n 0, 1) := by decide +kernel
theorem dX3_goOn_50 : decode cX3_goOn 50 = .ok (.getfield 24, 3) := by decide +kernel
theorem dX3_goOn_53 : decode cX3_goOn 53 = .ok (.if_icmp .ge 92, 3) := by decide +kernel
theorem dX3_goOn_56 : decode cX3_goOn 56 = .ok (.iload_n 1, 1) := by decide +kernel
theorem dX3_goOn_57 : decode cX3_goOn 57 = .ok (.aload_n 0, 1) := by decide +kernel
theorem dX3_goOn_58 : decode cX3_goOn 58 = .ok (.getfield 24, 3) := by decide +kernel
theorem dX3_goOn_61 : decode cX3_goOn 61 = .ok (.imul, 1) := by decide +kernel
theorem dX3_goOn_62 : decode cX3_goOn 62 = .ok (.iload 4, 2) := by decide +kernel
theorem dX3_goOn_64 : decode cX3_goOn 64 = .ok (.iadd, 1) := by decide +kernel
theorem dX3_goOn_65 : decode cX3_goOn 65 = .ok (.istore 5, 2) := by decide +kernel
theorem dX3_goOn_67 : decode cX3_goOn 67 = .ok (.aload_n 0, 1) := by decide +kernel
theorem dX3_goOn_68 : decode cX3_goOn 68 = .ok (.getfield 28, 3) := by decide +kernel
theorem dX3_goOn_71 : decode cX3_goOn 71 = .ok (.iload_n 2, 1) := by decide +kernel
theorem dX3_goOn_72 : decode cX3_goOn 72 = .ok (.iconst (-1), 1) := by decide +kernel
theorem dX3_goOn_73 : decode cX3_goOn 73 = .ok (.ixor, 1) := by decide +kernel
theorem dX3_goOn_74 : decode cX3_goOn 74 = .ok (.iand, 1) := by decide +kernel
theorem dX3_goOn_75 : decode cX3_goOn 75 = .ok (.iload 5, 2) := by decide +kernel
theorem dX3_goOn_77 : decode cX3_goOn 77 = .ok (.invokestatic 44, 3) := by decide +kernel
theorem dX3_goOn_80 : decode cX3_goOn 80 = .ok (.ifCond .eq 59, 3) := by decide +kernel
theorem dX3_goOn_83 : decode cX3_goOn 83 = .ok (.aload_n 0, 1) := by decide +kernel
theorem dX3_goOn_84 : decode cX3_goOn 84 = .ok (.getfield 31, 3) := by decide +kernel
theorem dX3_goOn_87 : decode cX3_goOn 87 = .ok (.ifCond .eq 10, 3) := by decide +kernel
theorem dX3_goOn_90 : decode cX3_goOn 90 = .ok (.aload_n 0, 1) := by decide +kernel
theorem dX3_goOn_91 : decode cX3_goOn 91 = .ok (.getfield 35, 3) := by decide +kernel
theorem dX3_goOn_94 : decode cX3_goOn 94 = .ok (.ifCond .gt 45, 3) := by decide +kernel
theorem dX3_goOn_97 : decode cX3_goOn 97 = .ok (.aload_n 0, 1) := by decide +kernel
theorem dX3_goOn_98 : decode cX3_goOn 98 = .ok (.getfield 18, 3) := by decide +kernel
theorem dX3_goOn_101 : decode cX3_goOn 101 = .ok (.iload_n 1, 1) := by decide +kernel
theorem dX3_goOn_102 : decode cX3_goOn 102 = .ok (.iload 4, 2) := by decide +kernel
theorem dX3_goOn_104 : decode cX3_goOn 104 = .ok (.iastore, 1) := by decide +kernel
theorem dX3_goOn_105 : decode cX3_goOn 105 = .ok (.aload_n 0, 1) := by decide +kernel
theorem dX3_goOn_106 : decode cX3_goOn 106 = .ok (.iload_n 1, 1) := by decide +kernel
theorem dX3_goOn_107 : decode cX3_goOn 107 = .ok (.iload_n 2, 1) := by decide +kernel
theorem dX3_goOn_108 : decode cX3_goOn 108 = .ok (.aload_n 0, 1) := by decide +kernel
theorem dX3_goOn_109 : decode cX3_goOn 109 = .ok (.getfield 9, 3) := by decide +kernel
theorem dX3_goOn_112 : decode cX3_goOn 112 = .ok (.iload 5, 2) := by decide +kernel
theorem dX3_goOn_114 : decode cX3_goOn 114 = .ok (.iaload, 1) := by decide +kernel
theorem dX3_goOn_115 : decode cX3_goOn 115 = .ok (.ior, 1) := by decide +kernel
theorem dX3_goOn_116 : decode cX3_goOn 116 = .ok (.iload_n 3, 1) := by decide +kernel
theorem dX3_goOn_117 : decode cX3_goOn 117 = .ok (.ifCond .eq 18, 3) := by decide +kernel
theorem dX3_goOn_120 : decode cX3_goOn 120 = .ok (.iload 4, 2) := by decide +kernel
theorem dX3_goOn_122 : decode cX3_goOn 122 = .ok (.aload_n 0, 1) := by decide +kernel
theorem dX3_goOn_123 : decode cX3_goOn 123 = .ok (.getfield 15, 3) := by decide +kernel
theorem dX3_goOn_126 : decode cX3_goOn 126 = .ok (.iload_n 1, 1) := by decide +kernel
theorem dX3_goOn_127 : decode cX3_goOn 127 = .ok (.iaload, 1) := by decide +kernel
theorem dX3_goOn_128 : decode cX3_goOn 128 = .ok (.if_icmp .ne 7, 3) := by decide +kernel
theorem dX3_goOn_131 : decode cX3_goOn 131 = .ok (.iconst 1, 1) := by decide +kernel
theorem dX3_goOn_132 : decode cX3_goOn 132 = .ok (.goto 4, 3) := by decide +kernel
theorem dX3_goOn_135 : decode cX3_goOn 135 = .ok (.iconst 0, 1) := by decide +kernel
theorem dX3_goOn_136 : decode cX3_goOn 136 = .ok (.invokevirtual 52, 3) := by decide +kernel
theorem dX3_goOn_139 : decode cX3_goOn 139 = .ok (.iinc 4 1, 3) := by decide +kernel
theorem dX3_goOn_142 : decode cX3_goOn 142 = .ok (.goto (-95), 3) := by decide +kernel
theorem dX3_goOn_145 : decode cX3_goOn 145 = .ok (.return_, 1) := by decide +kernel
theorem dX3_goBehind_0 : decode cX3_goBehind 0 = .ok (.iload_n 1, 1) := by decide +kernel
theorem dX3_goBehind_1 : decode cX3_goBehind 1 = .ok (.aload_n 0, 1) := by decide +kernel
theorem dX3_goBehind_2 : decode cX3_goBehind 2 = .ok (.getfield 24, 3) := by decide +kernel
theorem dX3_goBehind_5 : decode cX3_goBehind 5 = .ok (.iconst 1, 1) := by decide +kernel
theorem dX3_goBehind_6 : decode cX3_goBehind 6 = .ok (.isub, 1) := by decide +kernel
theorem dX3_goBehind_7 : decode cX3_goBehind 7 = .ok (.if_icmp .ge 15, 3) := by decide +kernel
theorem dX3_goBehind_10 : decode cX3_goBehind 10 = .ok (.aload_n 0, 1) := by decide +kernel
theorem dX3_goBehind_11 : decode cX3_goBehind 11 = .ok (.iload_n 1, 1) := by decide +kernel
theorem dX3_goBehind_12 : decode cX3_goBehind 12 = .ok (.iconst 1, 1) := by decide +kernel
theorem dX3_goBehind_13 : decode cX3_goBehind 13 = .ok (.iadd, 1) := by decide +kernel
theorem dX3_goBehind_14 : decode cX3_goBehind 14 = .ok (.iload_n 2, 1) := by decide +kernel
theorem dX3_goBehind_15 : decode cX3_goBehind 15 = .ok (.iload_n 3, 1) := by decide +kernel
theorem dX3_goBehind_16 : decode cX3_goBehind 16 = .ok (.invokevirtual 48, 3) := by decide +kernel
theorem dX3_goBehind_19 : decode cX3_goBehind 19 = .ok (.goto 11, 3) := by decide +kernel
theorem dX3_goBehind_22 : decode cX3_goBehind 22 = .ok (.iload_n 3, 1) := by decide +kernel
theorem dX3_goBehind_23 : decode cX3_goBehind 23 = .ok (.ifCond .ne 7, 3) := by decide +kernel
theorem dX3_goBehind_26 : decode cX3_goBehind 26 = .ok (.aload_n 0, 1) := by decide +kernel
theorem dX3_goBehind_27 : decode cX3_goBehind 27 = .ok (.invokevirtual 55, 3) := by decide +kernel
theorem dX3_goBehind_30 : decode cX3_goBehind 30 = .ok (.return_, 1) := by decide +kernel
theorem dX3_noteWay_0 : decode cX3_noteWay 0 = .ok (.iconst 0, 1) := by decide +kernel
theorem dX3_noteWay_1 : decode cX3_noteWay 1 = .ok (.istore_n 1, 1) := by decide +kernel
theorem dX3_noteWay_2 : decode cX3_noteWay 2 = .ok (.iload_n 1, 1) := by decide +kernel
theorem dX3_noteWay_3 : decode cX3_noteWay 3 = .ok (.aload_n 0, 1) := by decide +kernel
theorem dX3_noteWay_4 : decode cX3_noteWay 4 = .ok (.getfield 24, 3) := by decide +kernel
theorem dX3_noteWay_7 : decode cX3_noteWay 7 = .ok (.if_icmp .ge 37, 3) := by decide +kernel
theorem dX3_noteWay_10 : decode cX3_noteWay 10 = .ok (.iload_n 1, 1) := by decide +kernel
theorem dX3_noteWay_11 : decode cX3_noteWay 11 = .ok (.aload_n 0, 1) := by decide +kernel
theorem dX3_noteWay_12 : decode cX3_noteWay 12 = .ok (.getfield 21, 3) := by decide +kernel
theorem dX3_noteWay_15 : decode cX3_noteWay 15 = .ok (.arraylength, 1) := by decide +kernel
theorem dX3_noteWay_16 : decode cX3_noteWay 16 = .ok (.if_icmp .ge 28, 3) := by decide +kernel
theorem dX3_noteWay_19 : decode cX3_noteWay 19 = .ok (.aload_n 0, 1) := by decide +kernel
theorem dX3_noteWay_20 : decode cX3_noteWay 20 = .ok (.getfield 35, 3) := by decide +kernel
theorem dX3_noteWay_23 : decode cX3_noteWay 23 = .ok (.ifCond .ne 21, 3) := by decide +kernel
theorem dX3_noteWay_26 : decode cX3_noteWay 26 = .ok (.aload_n 0, 1) := by decide +kernel
theorem dX3_noteWay_27 : decode cX3_noteWay 27 = .ok (.getfield 21, 3) := by decide +kernel
theorem dX3_noteWay_30 : decode cX3_noteWay 30 = .ok (.iload_n 1, 1) := by decide +kernel
theorem dX3_noteWay_31 : decode cX3_noteWay 31 = .ok (.aload_n 0, 1) := by decide +kernel
theorem dX3_noteWay_32 : decode cX3_noteWay 32 = .ok (.getfield 18, 3) := by decide +kernel
theorem dX3_noteWay_35 : decode cX3_noteWay 35 = .ok (.iload_n 1, 1) := by decide +kernel
theorem dX3_noteWay_36 : decode cX3_noteWay 36 = .ok (.iaload, 1) := by decide +kernel
theorem dX3_noteWay_37 : decode cX3_noteWay 37 = .ok (.iastore, 1) := by decide +kernel
theorem dX3_noteWay_38 : decode cX3_noteWay 38 = .ok (.iinc 1 1, 3) := by decide +kernel
theorem dX3_noteWay_41 : decode cX3_noteWay 41 = .ok (.goto (-39), 3) := by decide +kernel
theorem dX3_noteWay_44 : decode cX3_noteWay 44 = .ok (.aload_n 0, 1) := by decide +kernel
theorem dX3_noteWay_45 : decode cX3_noteWay 45 = .ok (.dup, 1) := by decide +kernel
theorem dX3_noteWay_46 : decode cX3_noteWay 46 = .ok (.getfield 35, 3) := by decide +kernel
theorem dX3_noteWay_49 : decode cX3_noteWay 49 = .ok (.iconst 1, 1) := by decide +kernel
theorem dX3_noteWay_50 : decode cX3_noteWay 50 = .ok (.iadd, 1) := by decide +kernel
theorem dX3_noteWay_51 : decode cX3_noteWay 51 = .ok (.putfield 35, 3) := by decide +kernel
theorem dX3_noteWay_54 : decode cX3_noteWay 54 = .ok (.return_, 1) := by decide +kernel
theorem dX4_init_0 : decode cX4_init 0 = .ok (.aload_n 0, 1) := by decide +kernel
theorem dX4_init_1 : decode cX4_init 1 = .ok (.invokespecial 3, 3) := by decide +kernel
theorem dX4_init_4 : decode cX4_init 4 = .ok (.aload_n 0, 1) := by decide +kernel
theorem dX4_init_5 : decode cX4_init 5 = .ok (.bipush 25, 2) := by decide +kernel
theorem dX4_init_7 : decode cX4_init 7 = .ok (.newarray .int, 2) := by decide +kernel
theorem dX4_init_9 : decode cX4_init 9 = .ok (.putfield 9, 3) := by decide +kernel
theorem dX4_init_12 : decode cX4_init 12 = .ok (.aload_n 0, 1) := by decide +kernel
theorem dX4_init_13 : decode cX4_init 13 = .ok (.bipush 25, 2) := by decide +kernel
theorem dX4_init_15 : decode cX4_init 15 = .ok (.newarray .int, 2) := by decide +kernel
theorem dX4_init_17 : decode cX4_init 17 = .ok (.putfield 15, 3) := by decide +kernel
theorem dX4_init_20 : decode cX4_init 20 = .ok (.return_, 1) := by decide +kernel
theorem dX4_put_0 : decode cX4_put 0 = .ok (.iload_n 1, 1) := by decide +kernel
theorem dX4_put_1 : decode cX4_put 1 = .ok (.ifCond .lt 19, 3) := by decide +kernel
theorem dX4_put_4 : decode cX4_put 4 = .ok (.iload_n 1, 1) := by decide +kernel
theorem dX4_put_5 : decode cX4_put 5 = .ok (.aload_n 0, 1) := by decide +kernel
theorem dX4_put_6 : decode cX4_put 6 = .ok (.getfield 9, 3) := by decide +kernel
theorem dX4_put_9 : decode cX4_put 9 = .ok (.arraylength, 1) := by decide +kernel
theorem dX4_put_10 : decode cX4_put 10 = .ok (.if_icmp .ge 10, 3) := by decide +kernel
theorem dX4_put_13 : decode cX4_put 13 = .ok (.aload_n 0, 1) := by decide +kernel
theorem dX4_put_14 : decode cX4_put 14 = .ok (.getfield 9, 3) := by decide +kernel
theorem dX4_put_17 : decode cX4_put 17 = .ok (.iload_n 1, 1) := by decide +kernel
theorem dX4_put_18 : decode cX4_put 18 = .ok (.iload_n 2, 1) := by decide +kernel
theorem dX4_put_19 : decode cX4_put 19 = .ok (.iastore, 1) := by decide +kernel
theorem dX4_put_20 : decode cX4_put 20 = .ok (.return_, 1) := by decide +kernel
theorem dX4_viewFrom_0 : decode cX4_viewFrom 0 = .ok (.iload_n 1, 1) := by decide +kernel
theorem dX4_viewFrom_1 : decode cX4_viewFrom 1 = .ok (.ifCond .lt 12, 3) := by decide +kernel
theorem dX4_viewFrom_4 : decode cX4_viewFrom 4 = .ok (.iload_n 1, 1) := by decide +kernel
theorem dX4_viewFrom_5 : decode cX4_viewFrom 5 = .ok (.aload_n 0, 1) := by decide +kernel
theorem dX4_viewFrom_6 : decode cX4_viewFrom 6 = .ok (.getfield 9, 3) := by decide +kernel
theorem dX4_viewFrom_9 : decode cX4_viewFrom 9 = .ok (.arraylength, 1) := by decide +kernel
theorem dX4_viewFrom_10 : decode cX4_viewFrom 10 = .ok (.if_icmp .lt 7, 3) := by decide +kernel
theorem dX4_viewFrom_13 : decode cX4_viewFrom 13 = .ok (.iconst 0, 1) := by decide +kernel
theorem dX4_viewFrom_14 : decode cX4_viewFrom 14 = .ok (.goto 9, 3) := by decide +kernel
theorem dX4_viewFrom_17 : decode cX4_viewFrom 17 = .ok (.aload_n 0, 1) := by decide +kernel
theorem dX4_viewFrom_18 : decode cX4_viewFrom 18 = .ok (.getfield 9, 3) := by decide +kernel
theorem dX4_viewFrom_21 : decode cX4_viewFrom 21 = .ok (.iload_n 1, 1) := by decide +kernel
theorem dX4_viewFrom_22 : decode cX4_viewFrom 22 = .ok (.iaload, 1) := by decide +kernel
theorem dX4_viewFrom_23 : decode cX4_viewFrom 23 = .ok (.ireturn, 1) := by decide +kernel
theorem dX4_seersOf_0 : decode cX4_seersOf 0 = .ok (.iconst 0, 1) := by decide +kernel
theorem dX4_seersOf_1 : decode cX4_seersOf 1 = .ok (.istore_n 2, 1) := by decide +kernel
theorem dX4_seersOf_2 : decode cX4_seersOf 2 = .ok (.iconst 0, 1) := by decide +kernel
theorem dX4_seersOf_3 : decode cX4_seersOf 3 = .ok (.istore_n 3, 1) := by decide +kernel
theorem dX4_seersOf_4 : decode cX4_seersOf 4 = .ok (.iload_n 3, 1) := by decide +kernel
theorem dX4_seersOf_5 : decode cX4_seersOf 5 = .ok (.aload_n 0, 1) := by decide +kernel
theorem dX4_seersOf_6 : decode cX4_seersOf 6 = .ok (.getfield 9, 3) := by decide +kernel
theorem dX4_seersOf_9 : decode cX4_seersOf 9 = .ok (.arraylength, 1) := by decide +kernel
theorem dX4_seersOf_10 : decode cX4_seersOf 10 = .ok (.if_icmp .ge 25, 3) := by decide +kernel
theorem dX4_seersOf_13 : decode cX4_seersOf 13 = .ok (.aload_n 0, 1) := by decide +kernel
theorem dX4_seersOf_14 : decode cX4_seersOf 14 = .ok (.getfield 9, 3) := by decide +kernel
theorem dX4_seersOf_17 : decode cX4_seersOf 17 = .ok (.iload_n 3, 1) := by decide +kernel
theorem dX4_seersOf_18 : decode cX4_seersOf 18 = .ok (.iaload, 1) := by decide +kernel
theorem dX4_seersOf_19 : decode cX4_seersOf 19 = .ok (.iload_n 1, 1) := by decide +kernel
theorem dX4_seersOf_20 : decode cX4_seersOf 20 = .ok (.invokestatic 18, 3) := by decide +kernel
theorem dX4_seersOf_23 : decode cX4_seersOf 23 = .ok (.ifCond .eq 6, 3) := by decide +kernel
theorem dX4_seersOf_26 : decode cX4_seersOf 26 = .ok (.iinc 2 1, 3) := by decide +kernel
theorem dX4_seersOf_29 : decode cX4_seersOf 29 = .ok (.iinc 3 1, 3) := by decide +kernel
theorem dX4_seersOf_32 : decode cX4_seersOf 32 = .ok (.goto (-28), 3) := by decide +kernel
theorem dX4_seersOf_35 : decode cX4_seersOf 35 = .ok (.iload_n 2, 1) := by decide +kernel
theorem dX4_seersOf_36 : decode cX4_seersOf 36 = .ok (.ireturn, 1) := by decide +kernel
theorem dX4_together_0 : decode cX4_together 0 = .ok (.iconst 0, 1) := by decide +kernel
theorem dX4_together_1 : decode cX4_together 1 = .ok (.istore_n 1, 1) := by decide +kernel
theorem dX4_together_2 : decode cX4_together 2 = .ok (.iconst 0, 1) := by decide +kernel
theorem dX4_together_3 : decode cX4_together 3 = .ok (.istore_n 2, 1) := by decide +kernel
theorem dX4_together_4 : decode cX4_together 4 = .ok (.iload_n 2, 1) := by decide +kernel
theorem dX4_together_5 : decode cX4_together 5 = .ok (.aload_n 0, 1) := by decide +kernel
theorem dX4_together_6 : decode cX4_together 6 = .ok (.getfield 9, 3) := by decide +kernel
theorem dX4_together_9 : decode cX4_together 9 = .ok (.arraylength, 1) := by decide +kernel
theorem dX4_together_10 : decode cX4_together 10 = .ok (.if_icmp .ge 18, 3) := by decide +kernel
theorem dX4_together_13 : decode cX4_together 13 = .ok (.iload_n 1, 1) := by decide +kernel
theorem dX4_together_14 : decode cX4_together 14 = .ok (.aload_n 0, 1) := by decide +kernel
theorem dX4_together_15 : decode cX4_together 15 = .ok (.getfield 9, 3) := by decide +kernel
theorem dX4_together_18 : decode cX4_together 18 = .ok (.iload_n 2, 1) := by decide +kernel
theorem dX4_together_19 : decode cX4_together 19 = .ok (.iaload, 1) := by decide +kernel
theorem dX4_together_20 : decode cX4_together 20 = .ok (.ior, 1) := by decide +kernel
theorem dX4_together_21 : decode cX4_together 21 = .ok (.istore_n 1, 1) := by decide +kernel
theorem dX4_together_22 : decode cX4_together 22 = .ok (.iinc 2 1, 3) := by decide +kernel
theorem dX4_together_25 : decode cX4_together 25 = .ok (.goto (-21), 3) := by decide +kernel
theorem dX4_together_28 : decode cX4_together 28 = .ok (.iload_n 1, 1) := by decide +kernel
theorem dX4_together_29 : decode cX4_together 29 = .ok (.ireturn, 1) := by decide +kernel
theorem dX4_allSeen_0 : decode cX4_allSeen 0 = .ok (.iconst 0, 1) := by decide +kernel
theorem dX4_allSeen_1 : decode cX4_allSeen 1 = .ok (.istore_n 1, 1) := by decide +kernel
theorem dX4_allSeen_2 : decode cX4_allSeen 2 = .ok (.iconst 0, 1) := by decide +kernel
theorem dX4_allSeen_3 : decode cX4_allSeen 3 = .ok (.istore_n 2, 1) := by decide +kernel
theorem dX4_allSeen_4 : decode cX4_allSeen 4 = .ok (.iload_n 2, 1) := by decide +kernel
theorem dX4_allSeen_5 : decode cX4_allSeen 5 = .ok (.aload_n 0, 1) := by decide +kernel
theorem dX4_allSeen_6 : decode cX4_allSeen 6 = .ok (.getfield 9, 3) := by decide +kernel
theorem dX4_allSeen_9 : decode cX4_allSeen 9 = .ok (.arraylength, 1) := by decide +kernel
theorem dX4_allSeen_10 : decode cX4_allSeen 10 = .ok (.if_icmp .ge 21, 3) := by decide +kernel
theorem dX4_allSeen_13 : decode cX4_allSeen 13 = .ok (.iload_n 1, 1) := by decide +kernel
theorem dX4_allSeen_14 : decode cX4_allSeen 14 = .ok (.aload_n 0, 1) := by decide +kernel
theorem dX4_allSeen_15 : decode cX4_allSeen 15 = .ok (.getfield 9, 3) := by decide +kernel
theorem dX4_allSeen_18 : decode cX4_allSeen 18 = .ok (.iload_n 2, 1) := by decide +kernel
theorem dX4_allSeen_19 : decode cX4_allSeen 19 = .ok (.iaload, 1) := by decide +kernel
theorem dX4_allSeen_20 : decode cX4_allSeen 20 = .ok (.invokestatic 22, 3) := by decide +kernel
theorem dX4_allSeen_23 : decode cX4_allSeen 23 = .ok (.iadd, 1) := by decide +kernel
theorem dX4_allSeen_24 : decode cX4_allSeen 24 = .ok (.istore_n 1, 1) := by decide +kernel
theorem dX4_allSeen_25 : decode cX4_allSeen 25 = .ok (.iinc 2 1, 3) := by decide +kernel
theorem dX4_allSeen_28 : decode cX4_allSeen 28 = .ok (.goto (-24), 3) := by decide +kernel
theorem dX4_allSeen_31 : decode cX4_allSeen 31 = .ok (.iload_n 1, 1) := by decide +kernel
theorem dX4_allSeen_32 : decode cX4_allSeen 32 = .ok (.ireturn, 1) := by decide +kernel
theorem dX4_mostSeen_0 : decode cX4_mostSeen 0 = .ok (.iconst 0, 1) := by decide +kernel
theorem dX4_mostSeen_1 : decode cX4_mostSeen 1 = .ok (.istore_n 1, 1) := by decide +kernel
theorem dX4_mostSeen_2 : decode cX4_mostSeen 2 = .ok (.iconst 0, 1) := by decide +kernel
theorem dX4_mostSeen_3 : decode cX4_mostSeen 3 = .ok (.istore_n 2, 1) := by decide +kernel
theorem dX4_mostSeen_4 : decode cX4_mostSeen 4 = .ok (.iload_n 2, 1) := by decide +kernel
theorem dX4_mostSeen_5 : decode cX4_mostSeen 5 = .ok (.aload_n 0, 1) := by decide +kernel
theorem dX4_mostSeen_6 : decode cX4_mostSeen 6 = .ok (.getfield 9, 3) := by decide +kernel
theorem dX4_mostSeen_9 : decode cX4_mostSeen 9 = .ok (.arraylength, 1) := by decide +kernel
theorem dX4_mostSeen_10 : decode cX4_mostSeen 10 = .ok (.if_icmp .ge 23, 3) := by decide +kernel
theorem dX4_mostSeen_13 : decode cX4_mostSeen 13 = .ok (.iload_n 1, 1) := by decide +kernel
theorem dX4_mostSeen_14 : decode cX4_mostSeen 14 = .ok (.aload_n 0, 1) := by decide +kernel
theorem dX4_mostSeen_15 : decode cX4_mostSeen 15 = .ok (.getfield 9, 3) := by decide +kernel
theorem dX4_mostSeen_18 : decode cX4_mostSeen 18 = .ok (.iload_n 2, 1) := by decide +kernel
theorem dX4_mostSeen_19 : decode cX4_mostSeen 19 = .ok (.iaload, 1) := by decide +kernel
theorem dX4_mostSeen_20 : decode cX4_mostSeen 20 = .ok (.invokestatic 22, 3) := by decide +kernel
theorem dX4_mostSeen_23 : decode cX4_mostSeen 23 = .ok (.invokestatic 28, 3) := by decide +kernel
theorem dX4_mostSeen_26 : decode cX4_mostSeen 26 = .ok (.istore_n 1, 1) := by decide +kernel
theorem dX4_mostSeen_27 : decode cX4_mostSeen 27 = .ok (.iinc 2 1, 3) := by decide +kernel
theorem dX4_mostSeen_30 : decode cX4_mostSeen 30 = .ok (.goto (-26), 3) := by decide +kernel
theorem dX4_mostSeen_33 : decode cX4_mostSeen 33 = .ok (.iload_n 1, 1) := by decide +kernel
theorem dX4_mostSeen_34 : decode cX4_mostSeen 34 = .ok (.ireturn, 1) := by decide +kernel
theorem dX4_addOwnSquares_0 : decode cX4_addOwnSquares 0 = .ok (.iconst 0, 1) := by decide +kernel
theorem dX4_addOwnSquares_1 : decode cX4_addOwnSquares 1 = .ok (.istore_n 1, 1) := by decide +kernel
theorem dX4_addOwnSquares_2 : decode cX4_addOwnSquares 2 = .ok (.iload_n 1, 1) := by decide +kernel
theorem dX4_addOwnSquares_3 : decode cX4_addOwnSquares 3 = .ok (.aload_n 0, 1) := by decide +kernel
theorem dX4_addOwnSquares_4 : decode cX4_addOwnSquares 4 = .ok (.getfield 9, 3) := by decide +kernel
theorem dX4_addOwnSquares_7 : decode cX4_addOwnSquares 7 = .ok (.arraylength, 1) := by decide +kernel
theorem dX4_addOwnSquares_8 : decode cX4_addOwnSquares 8 = .ok (.if_icmp .ge 21, 3) := by decide +kernel
theorem dX4_addOwnSquares_11 : decode cX4_addOwnSquares 11 = .ok (.aload_n 0, 1) := by decide +kernel
theorem dX4_addOwnSquares_12 : decode cX4_addOwnSquares 12 = .ok (.getfield 9, 3) := by decide +kernel
theorem dX4_addOwnSquares_15 : decode cX4_addOwnSquares 15 = .ok (.iload_n 1, 1) := by decide +kernel
theorem dX4_addOwnSquares_16 : decode cX4_addOwnSquares 16 = .ok (.dup2, 1) := by decide +kernel
theorem dX4_addOwnSquares_17 : decode cX4_addOwnSquares 17 = .ok (.iaload, 1) := by decide +kernel
theorem dX4_addOwnSquares_18 : decode cX4_addOwnSquares 18 = .ok (.iconst 1, 1) := by decide +kernel
theorem dX4_addOwnSquares_19 : decode cX4_addOwnSquares 19 = .ok (.iload_n 1, 1) := by decide +kernel
theorem dX4_addOwnSquares_20 : decode cX4_addOwnSquares 20 = .ok (.ishl, 1) := by decide +kernel
theorem dX4_addOwnSquares_21 : decode cX4_addOwnSquares 21 = .ok (.ior, 1) := by decide +kernel
theorem dX4_addOwnSquares_22 : decode cX4_addOwnSquares 22 = .ok (.iastore, 1) := by decide +kernel
theorem dX4_addOwnSquares_23 : decode cX4_addOwnSquares 23 = .ok (.iinc 1 1, 3) := by decide +kernel
theorem dX4_addOwnSquares_26 : decode cX4_addOwnSquares 26 = .ok (.goto (-24), 3) := by decide +kernel
theorem dX4_addOwnSquares_29 : decode cX4_addOwnSquares 29 = .ok (.return_, 1) := by decide +kernel
theorem dX4_join_0 : decode cX4_join 0 = .ok (.iconst 0, 1) := by decide +kernel
theorem dX4_join_1 : decode cX4_join 1 = .ok (.istore_n 2, 1) := by decide +kernel
theorem dX4_join_2 : decode cX4_join 2 = .ok (.iload_n 2, 1) := by decide +kernel
theorem dX4_join_3 : decode cX4_join 3 = .ok (.aload_n 0, 1) := by decide +kernel
theorem dX4_join_4 : decode cX4_join 4 = .ok (.getfield 15, 3) := by decide +kernel
theorem dX4_join_7 : decode cX4_join 7 = .ok (.arraylength, 1) := by decide +kernel
theorem dX4_join_8 : decode cX4_join 8 = .ok (.if_icmp .ge 34, 3) := by decide +kernel
theorem dX4_join_11 : decode cX4_join 11 = .ok (.aload_n 0, 1) := by decide +kernel
theorem dX4_join_12 : decode cX4_join 12 = .ok (.getfield 15, 3) := by decide +kernel
theorem dX4_join_15 : decode cX4_join 15 = .ok (.iload_n 2, 1) := by decide +kernel
theorem dX4_join_16 : decode cX4_join 16 = .ok (.iload_n 1, 1) := by decide +kernel
theorem dX4_join_17 : decode cX4_join 17 = .ok (.iload_n 2, 1) := by decide +kernel
theorem dX4_join_18 : decode cX4_join 18 = .ok (.invokestatic 18, 3) := by decide +kernel
theorem dX4_join_21 : decode cX4_join 21 = .ok (.ifCond .eq 13, 3) := by decide +kernel
theorem dX4_join_24 : decode cX4_join 24 = .ok (.aload_n 0, 1) := by decide +kernel
theorem dX4_join_25 : decode cX4_join 25 = .ok (.iload_n 2, 1) := by decide +kernel
theorem dX4_join_26 : decode cX4_join 26 = .ok (.invokevirtual 34, 3) := by decide +kernel
theorem dX4_join_29 : decode cX4_join 29 = .ok (.iload_n 1, 1) := by decide +kernel
theorem dX4_join_30 : decode cX4_join 30 = .ok (.iand, 1) := by decide +kernel
theorem dX4_join_31 : decode cX4_join 31 = .ok (.goto 4, 3) := by decide +kernel
theorem dX4_join_34 : decode cX4_join 34 = .ok (.iconst 0, 1) := by decide +kernel
theorem dX4_join_35 : decode cX4_join 35 = .ok (.iastore, 1) := by decide +kernel
theorem dX4_join_36 : decode cX4_join 36 = .ok (.iinc 2 1, 3) := by decide +kernel
theorem dX4_join_39 : decode cX4_join 39 = .ok (.goto (-37), 3) := by decide +kernel
theorem dX4_join_42 : decode cX4_join 42 = .ok (.iconst 0, 1) := by decide +kernel
theorem dX4_join_43 : decode cX4_join 43 = .ok (.istore_n 2, 1) := by decide +kernel
theorem dX4_join_44 : decode cX4_join 44 = .ok (.iload_n 2, 1) := by decide +kernel
theorem dX4_join_45 : decode cX4_join 45 = .ok (.aload_n 0, 1) := by decide +kernel
theorem dX4_join_46 : decode cX4_join 46 = .ok (.getfield 9, 3) := by decide +kernel
theorem dX4_join_49 : decode cX4_join 49 = .ok (.arraylength, 1) := by decide +kernel
theorem dX4_join_50 : decode cX4_join 50 = .ok (.if_icmp .ge 67, 3) := by decide +kernel
theorem dX4_join_53 : decode cX4_join 53 = .ok (.iconst 0, 1) := by decide +kernel
theorem dX4_join_54 : decode cX4_join 54 = .ok (.istore_n 3, 1) := by decide +kernel
theorem dX4_join_55 : decode cX4_join 55 = .ok (.iload_n 3, 1) := by decide +kernel
theorem dX4_join_56 : decode cX4_join 56 = .ok (.aload_n 0, 1) := by decide +kernel
theorem dX4_join_57 : decode cX4_join 57 = .ok (.getfield 15, 3) := by decide +kernel
theorem dX4_join_60 : decode cX4_join 60 = .ok (.arraylength, 1) := by decide +kernel
theorem dX4_join_61 : decode cX4_join 61 = .ok (.if_icmp .ge 50, 3) := by decide +kernel
theorem dX4_join_64 : decode cX4_join 64 = .ok (.iload_n 1, 1) := by decide +kernel
theorem dX4_join_65 : decode cX4_join 65 = .ok (.iload_n 2, 1) := by decide +kernel
theorem dX4_join_66 : decode cX4_join 66 = .ok (.invokestatic 18, 3) := by decide +kernel
theorem dX4_join_69 : decode cX4_join 69 = .ok (.ifCond .eq 36, 3) := by decide +kernel
theorem dX4_join_72 : decode cX4_join 72 = .ok (.iload_n 1, 1) := by decide +kernel
theorem dX4_join_73 : decode cX4_join 73 = .ok (.iload_n 3, 1) := by decide +kernel
theorem dX4_join_74 : decode cX4_join 74 = .ok (.invokestatic 18, 3) := by decide +kernel
theorem dX4_join_77 : decode cX4_join 77 = .ok (.ifCond .eq 28, 3) := by decide +kernel
theorem dX4_join_80 : decode cX4_join 80 = .ok (.aload_n 0, 1) := by decide +kernel
theorem dX4_join_81 : decode cX4_join 81 = .ok (.getfield 9, 3) := by decide +kernel
theorem dX4_join_84 : decode cX4_join 84 = .ok (.iload_n 2, 1) := by decide +kernel
theorem dX4_join_85 : decode cX4_join 85 = .ok (.iaload, 1) := by decide +kernel
theorem dX4_join_86 : decode cX4_join 86 = .ok (.iload_n 3, 1) := by decide +kernel
theorem dX4_join_87 : decode cX4_join 87 = .ok (.invokestatic 18, 3) := by decide +kernel
theorem dX4_join_90 : decode cX4_join 90 = .ok (.ifCond .eq 15, 3) := by decide +kernel
theorem dX4_join_93 : decode cX4_join 93 = .ok (.aload_n 0, 1) := by decide +kernel
theorem dX4_join_94 : decode cX4_join 94 = .ok (.getfield 15, 3) := by decide +kernel
theorem dX4_join_97 : decode cX4_join 97 = .ok (.iload_n 3, 1) := by decide +kernel
theorem dX4_join_98 : decode cX4_join 98 = .ok (.dup2, 1) := by decide +kernel
theorem dX4_join_99 : decode cX4_join 99 = .ok (.iaload, 1) := by decide +kernel
theorem dX4_join_100 : decode cX4_join 100 = .ok (.iconst 1, 1) := by decide +kernel
theorem dX4_join_101 : decode cX4_join 101 = .ok (.iload_n 2, 1) := by decide +kernel
theorem dX4_join_102 : decode cX4_join 102 = .ok (.ishl, 1) := by decide +kernel
theorem dX4_join_103 : decode cX4_join 103 = .ok (.ior, 1) := by decide +kernel
theorem dX4_join_104 : decode cX4_join 104 = .ok (.iastore, 1) := by decide +kernel
theorem dX4_join_105 : decode cX4_join 105 = .ok (.iinc 3 1, 3) := by decide +kernel
theorem dX4_join_108 : decode cX4_join 108 = .ok (.goto (-53), 3) := by decide +kernel
theorem dX4_join_111 : decode cX4_join 111 = .ok (.iinc 2 1, 3) := by decide +kernel
theorem dX4_join_114 : decode cX4_join 114 = .ok (.goto (-70), 3) := by decide +kernel
theorem dX4_join_117 : decode cX4_join 117 = .ok (.return_, 1) := by decide +kernel
theorem dX4_mostJoined_0 : decode cX4_mostJoined 0 = .ok (.bipush (-5), 2) := by decide +kernel
theorem dX4_mostJoined_2 : decode cX4_mostJoined 2 = .ok (.istore_n 1, 1) := by decide +kernel
theorem dX4_mostJoined_3 : decode cX4_mostJoined 3 = .ok (.iconst 0, 1) := by decide +kernel
theorem dX4_mostJoined_4 : decode cX4_mostJoined 4 = .ok (.istore_n 2, 1) := by decide +kernel
theorem dX4_mostJoined_5 : decode cX4_mostJoined 5 = .ok (.iconst 0, 1) := by decide +kernel
theorem dX4_mostJoined_6 : decode cX4_mostJoined 6 = .ok (.istore_n 3, 1) := by decide +kernel
theorem dX4_mostJoined_7 : decode cX4_mostJoined 7 = .ok (.iload_n 3, 1) := by decide +kernel
theorem dX4_mostJoined_8 : decode cX4_mostJoined 8 = .ok (.aload_n 0, 1) := by decide +kernel
theorem dX4_mostJoined_9 : decode cX4_mostJoined 9 = .ok (.getfield 15, 3) := by decide +kernel
theorem dX4_mostJoined_12 : decode cX4_mostJoined 12 = .ok (.arraylength, 1) := by decide +kernel
theorem dX4_mostJoined_13 : decode cX4_mostJoined 13 = .ok (.if_icmp .ge 34, 3) := by decide +kernel
theorem dX4_mostJoined_16 : decode cX4_mostJoined 16 = .ok (.aload_n 0, 1) := by decide +kernel
theorem dX4_mostJoined_17 : decode cX4_mostJoined 17 = .ok (.getfield 15, 3) := by decide +kernel
theorem dX4_mostJoined_20 : decode cX4_mostJoined 20 = .ok (.iload_n 3, 1) := by decide +kernel
theorem dX4_mostJoined_21 : decode cX4_mostJoined 21 = .ok (.iaload, 1) := by decide +kernel
theorem dX4_mostJoined_22 : decode cX4_mostJoined 22 = .ok (.invokestatic 22, 3) := by decide +kernel
theorem dX4_mostJoined_25 : decode cX4_mostJoined 25 = .ok (.iload_n 2, 1) := by decide +kernel
theorem dX4_mostJoined_26 : decode cX4_mostJoined 26 = .ok (.if_icmp .le 15, 3) := by decide +kernel
theorem dX4_mostJoined_29 : decode cX4_mostJoined 29 = .ok (.aload_n 0, 1) := by decide +kernel
theorem dX4_mostJoined_30 : decode cX4_mostJoined 30 = .ok (.getfield 15, 3) := by decide +kernel
theorem dX4_mostJoined_33 : decode cX4_mostJoined 33 = .ok (.iload_n 3, 1) := by decide +kernel
theorem dX4_mostJoined_34 : decode cX4_mostJoined 34 = .ok (.iaload, 1) := by decide +kernel
theorem dX4_mostJoined_35 : decode cX4_mostJoined 35 = .ok (.invokestatic 22, 3) := by decide +kernel
theorem dX4_mostJoined_38 : decode cX4_mostJoined 38 = .ok (.istore_n 2, 1) := by decide +kernel
theorem dX4_mostJoined_39 : decode cX4_mostJoined 39 = .ok (.iload_n 3, 1) := by decide +kernel
theorem dX4_mostJoined_40 : decode cX4_mostJoined 40 = .ok (.istore_n 1, 1) := by decide +kernel
theorem dX4_mostJoined_41 : decode cX4_mostJoined 41 = .ok (.iinc 3 1, 3) := by decide +kernel
theorem dX4_mostJoined_44 : decode cX4_mostJoined 44 = .ok (.goto (-37), 3) := by decide +kernel
theorem dX4_mostJoined_47 : decode cX4_mostJoined 47 = .ok (.iload_n 1, 1) := by decide +kernel
theorem dX4_mostJoined_48 : decode cX4_mostJoined 48 = .ok (.ireturn, 1) := by decide +kernel
theorem dX5_init_0 : decode cX5_init 0 = .ok (.aload_n 0, 1) := by decide +kernel
theorem dX5_init_1 : decode cX5_init 1 = .ok (.invokespecial 3, 3) := by decide +kernel
theorem dX5_init_4 : decode cX5_init 4 = .ok (.aload_n 0, 1) := by decide +kernel
theorem dX5_init_5 : decode cX5_init 5 = .ok (.new 9, 3) := by decide +kernel
theorem dX5_init_8 : decode cX5_init 8 = .ok (.dup, 1) := by decide +kernel
theorem dX5_init_9 : decode cX5_init 9 = .ok (.bipush 6, 2) := by decide +kernel
theorem dX5_init_11 : decode cX5_init 11 = .ok (.invokespecial 11, 3) := by decide +kernel
theorem dX5_init_14 : decode cX5_init 14 = .ok (.putfield 14, 3) := by decide +kernel
theorem dX5_init_17 : decode cX5_init 17 = .ok (.aload_n 0, 1) := by decide +kernel
theorem dX5_init_18 : decode cX5_init 18 = .ok (.new 9, 3) := by decide +kernel
theorem dX5_init_21 : decode cX5_init 21 = .ok (.dup, 1) := by decide +kernel
theorem dX5_init_22 : decode cX5_init 22 = .ok (.bipush 6, 2) := by decide +kernel
theorem dX5_init_24 : decode cX5_init 24 = .ok (.invokespecial 11, 3) := by decide +kernel
theorem dX5_init_27 : decode cX5_init 27 = .ok (.putfield 20, 3) := by decide +kernel
theorem dX5_init_30 : decode cX5_init 30 = .ok (.aload_n 0, 1) := by decide +kernel
theorem dX5_init_31 : decode cX5_init 31 = .ok (.new 9, 3) := by decide +kernel
theorem dX5_init_34 : decode cX5_init 34 = .ok (.dup, 1) := by decide +kernel
theorem dX5_init_35 : decode cX5_init 35 = .ok (.bipush 6, 2) := by decide +kernel
theorem dX5_init_37 : decode cX5_init 37 = .ok (.invokespecial 11, 3) := by decide +kernel
theorem dX5_init_40 : decode cX5_init 40 = .ok (.putfield 23, 3) := by decide +kernel
theorem dX5_init_43 : decode cX5_init 43 = .ok (.aload_n 0, 1) := by decide +kernel
theorem dX5_init_44 : decode cX5_init 44 = .ok (.bipush 25, 2) := by decide +kernel
theorem dX5_init_46 : decode cX5_init 46 = .ok (.newarray .int, 2) := by decide +kernel
theorem dX5_init_48 : decode cX5_init 48 = .ok (.putfield 26, 3) := by decide +kernel
theorem dX5_init_51 : decode cX5_init 51 = .ok (.aload_n 0, 1) := by decide +kernel
theorem dX5_init_52 : decode cX5_init 52 = .ok (.new 9, 3) := by decide +kernel
theorem dX5_init_55 : decode cX5_init 55 = .ok (.dup, 1) := by decide +kernel
theorem dX5_init_56 : decode cX5_init 56 = .ok (.iconst 5, 1) := by decide +kernel
theorem dX5_init_57 : decode cX5_init 57 = .ok (.invokespecial 11, 3) := by decide +kernel
theorem dX5_init_60 : decode cX5_init 60 = .ok (.putfield 30, 3) := by decide +kernel
theorem dX5_init_63 : decode cX5_init 63 = .ok (.aload_n 0, 1) := by decide +kernel
theorem dX5_init_64 : decode cX5_init 64 = .ok (.new 9, 3) := by decide +kernel
theorem dX5_init_67 : decode cX5_init 67 = .ok (.dup, 1) := by decide +kernel
theorem dX5_init_68 : decode cX5_init 68 = .ok (.bipush 8, 2) := by decide +kernel
theorem dX5_init_70 : decode cX5_init 70 = .ok (.invokespecial 11, 3) := by decide +kernel
theorem dX5_init_73 : decode cX5_init 73 = .ok (.putfield 33, 3) := by decide +kernel
theorem dX5_init_76 : decode cX5_init 76 = .ok (.aload_n 0, 1) := by decide +kernel
theorem dX5_init_77 : decode cX5_init 77 = .ok (.new 9, 3) := by decide +kernel
theorem dX5_init_80 : decode cX5_init 80 = .ok (.dup, 1) := by decide +kernel
theorem dX5_init_81 : decode cX5_init 81 = .ok (.bipush 8, 2) := by decide +kernel
theorem dX5_init_83 : decode cX5_init 83 = .ok (.invokespecial 11, 3) := by decide +kernel
theorem dX5_init_86 : decode cX5_init 86 = .ok (.putfield 36, 3) := by decide +kernel
theorem dX5_init_89 : decode cX5_init 89 = .ok (.aload_n 0, 1) := by decide +kernel
theorem dX5_init_90 : decode cX5_init 90 = .ok (.new 9, 3) := by decide +kernel
theorem dX5_init_93 : decode cX5_init 93 = .ok (.dup, 1) := by decide +kernel
theorem dX5_init_94 : decode cX5_init 94 = .ok (.bipush 12, 2) := by decide +kernel
theorem dX5_init_96 : decode cX5_init 96 = .ok (.invokespecial 11, 3) := by decide +kernel
theorem dX5_init_99 : decode cX5_init 99 = .ok (.putfield 39, 3) := by decide +kernel
theorem dX5_init_102 : decode cX5_init 102 = .ok (.aload_n 0, 1) := by decide +kernel
theorem dX5_init_103 : decode cX5_init 103 = .ok (.iconst (-1), 1) := by decide +kernel
theorem dX5_init_104 : decode cX5_init 104 = .ok (.putfield 42, 3) := by decide +kernel
theorem dX5_init_107 : decode cX5_init 107 = .ok (.aload_n 0, 1) := by decide +kernel
theorem dX5_init_108 : decode cX5_init 108 = .ok (.getfield 26, 3) := by decide +kernel
theorem dX5_init_111 : decode cX5_init 111 = .ok (.iconst (-1), 1) := by decide +kernel
theorem dX5_init_112 : decode cX5_init 112 = .ok (.invokestatic 46, 3) := by decide +kernel
theorem dX5_init_115 : decode cX5_init 115 = .ok (.return_, 1) := by decide +kernel
theorem dX5_manOn_0 : decode cX5_manOn 0 = .ok (.iload_n 1, 1) := by decide +kernel
theorem dX5_manOn_1 : decode cX5_manOn 1 = .ok (.ifCond .lt 12, 3) := by decide +kernel
theorem dX5_manOn_4 : decode cX5_manOn 4 = .ok (.iload_n 1, 1) := by decide +kernel
theorem dX5_manOn_5 : decode cX5_manOn 5 = .ok (.aload_n 0, 1) := by decide +kernel
theorem dX5_manOn_6 : decode cX5_manOn 6 = .ok (.getfield 26, 3) := by decide +kernel
theorem dX5_manOn_9 : decode cX5_manOn 9 = .ok (.arraylength, 1) := by decide +kernel
theorem dX5_manOn_10 : decode cX5_manOn 10 = .ok (.if_icmp .lt 7, 3) := by decide +kernel
theorem dX5_manOn_13 : decode cX5_manOn 13 = .ok (.iconst (-1), 1) := by decide +kernel
theorem dX5_manOn_14 : decode cX5_manOn 14 = .ok (.goto 9, 3) := by decide +kernel
theorem dX5_manOn_17 : decode cX5_manOn 17 = .ok (.aload_n 0, 1) := by decide +kernel
theorem dX5_manOn_18 : decode cX5_manOn 18 = .ok (.getfield 26, 3) := by decide +kernel
theorem dX5_manOn_21 : decode cX5_manOn 21 = .ok (.iload_n 1, 1) := by decide +kernel
theorem dX5_manOn_22 : decode cX5_manOn 22 = .ok (.iaload, 1) := by decide +kernel
theorem dX5_manOn_23 : decode cX5_manOn 23 = .ok (.ireturn, 1) := by decide +kernel
theorem dX5_putMan_0 : decode cX5_putMan 0 = .ok (.iload_n 1, 1) := by decide +kernel
theorem dX5_putMan_1 : decode cX5_putMan 1 = .ok (.ifCond .lt 19, 3) := by decide +kernel
theorem dX5_putMan_4 : decode cX5_putMan 4 = .ok (.iload_n 1, 1) := by decide +kernel
theorem dX5_putMan_5 : decode cX5_putMan 5 = .ok (.aload_n 0, 1) := by decide +kernel
theorem dX5_putMan_6 : decode cX5_putMan 6 = .ok (.getfield 26, 3) := by decide +kernel
theorem dX5_putMan_9 : decode cX5_putMan 9 = .ok (.arraylength, 1) := by decide +kernel
theorem dX5_putMan_10 : decode cX5_putMan 10 = .ok (.if_icmp .ge 10, 3) := by decide +kernel
theorem dX5_putMan_13 : decode cX5_putMan 13 = .ok (.aload_n 0, 1) := by decide +kernel
theorem dX5_putMan_14 : decode cX5_putMan 14 = .ok (.getfield 26, 3) := by decide +kernel
theorem dX5_putMan_17 : decode cX5_putMan 17 = .ok (.iload_n 1, 1) := by decide +kernel
theorem dX5_putMan_18 : decode cX5_putMan 18 = .ok (.iload_n 2, 1) := by decide +kernel
theorem dX5_putMan_19 : decode cX5_putMan 19 = .ok (.iastore, 1) := by decide +kernel
theorem dX5_putMan_20 : decode cX5_putMan 20 = .ok (.return_, 1) := by decide +kernel
theorem dX5_takeAllMen_0 : decode cX5_takeAllMen 0 = .ok (.aload_n 0, 1) := by decide +kernel
theorem dX5_takeAllMen_1 : decode cX5_takeAllMen 1 = .ok (.getfield 26, 3) := by decide +kernel
theorem dX5_takeAllMen_4 : decode cX5_takeAllMen 4 = .ok (.iconst (-1), 1) := by decide +kernel
theorem dX5_takeAllMen_5 : decode cX5_takeAllMen 5 = .ok (.invokestatic 46, 3) := by decide +kernel
theorem dX5_takeAllMen_8 : decode cX5_takeAllMen 8 = .ok (.return_, 1) := by decide +kernel
theorem dX5_menBits_0 : decode cX5_menBits 0 = .ok (.iconst 0, 1) := by decide +kernel
theorem dX5_menBits_1 : decode cX5_menBits 1 = .ok (.istore_n 1, 1) := by decide +kernel
theorem dX5_menBits_2 : decode cX5_menBits 2 = .ok (.iconst 0, 1) := by decide +kernel
theorem dX5_menBits_3 : decode cX5_menBits 3 = .ok (.istore_n 2, 1) := by decide +kernel
theorem dX5_menBits_4 : decode cX5_menBits 4 = .ok (.iload_n 2, 1) := by decide +kernel
theorem dX5_menBits_5 : decode cX5_menBits 5 = .ok (.aload_n 0, 1) := by decide +kernel
theorem dX5_menBits_6 : decode cX5_menBits 6 = .ok (.getfield 26, 3) := by decide +kernel
theorem dX5_menBits_9 : decode cX5_menBits 9 = .ok (.arraylength, 1) := by decide +kernel
theorem dX5_menBits_10 : decode cX5_menBits 10 = .ok (.if_icmp .ge 25, 3) := by decide +kernel
theorem dX5_menBits_13 : decode cX5_menBits 13 = .ok (.aload_n 0, 1) := by decide +kernel
theorem dX5_menBits_14 : decode cX5_menBits 14 = .ok (.getfield 26, 3) := by decide +kernel
theorem dX5_menBits_17 : decode cX5_menBits 17 = .ok (.iload_n 2, 1) := by decide +kernel
theorem dX5_menBits_18 : decode cX5_menBits 18 = .ok (.iaload, 1) := by decide +kernel
theorem dX5_menBits_19 : decode cX5_menBits 19 = .ok (.iconst (-1), 1) := by decide +kernel
theorem dX5_menBits_20 : decode cX5_menBits 20 = .ok (.if_icmp .eq 9, 3) := by decide +kernel
theorem dX5_menBits_23 : decode cX5_menBits 23 = .ok (.iload_n 1, 1) := by decide +kernel
theorem dX5_menBits_24 : decode cX5_menBits 24 = .ok (.iconst 1, 1) := by decide +kernel
theorem dX5_menBits_25 : decode cX5_menBits 25 = .ok (.iload_n 2, 1) := by decide +kernel
theorem dX5_menBits_26 : decode cX5_menBits 26 = .ok (.ishl, 1) := by decide +kernel
theorem dX5_menBits_27 : decode cX5_menBits 27 = .ok (.ior, 1) := by decide +kernel
theorem dX5_menBits_28 : decode cX5_menBits 28 = .ok (.istore_n 1, 1) := by decide +kernel
theorem dX5_menBits_29 : decode cX5_menBits 29 = .ok (.iinc 2 1, 3) := by decide +kernel
theorem dX5_menBits_32 : decode cX5_menBits 32 = .ok (.goto (-28), 3) := by decide +kernel
theorem dX5_menBits_35 : decode cX5_menBits 35 = .ok (.iload_n 1, 1) := by decide +kernel
theorem dX5_menBits_36 : decode cX5_menBits 36 = .ok (.ireturn, 1) := by decide +kernel
theorem dX5_menOf_0 : decode cX5_menOf 0 = .ok (.iconst 0, 1) := by decide +kernel
theorem dX5_menOf_1 : decode cX5_menOf 1 = .ok (.istore_n 2, 1) := by decide +kernel
theorem dX5_menOf_2 : decode cX5_menOf 2 = .ok (.iconst 0, 1) := by decide +kernel
theorem dX5_menOf_3 : decode cX5_menOf 3 = .ok (.istore_n 3, 1) := by decide +kernel
theorem dX5_menOf_4 : decode cX5_menOf 4 = .ok (.iload_n 3, 1) := by decide +kernel
theorem dX5_menOf_5 : decode cX5_menOf 5 = .ok (.aload_n 0, 1) := by decide +kernel
theorem dX5_menOf_6 : decode cX5_menOf 6 = .ok (.getfield 26, 3) := by decide +kernel
theorem dX5_menOf_9 : decode cX5_menOf 9 = .ok (.arraylength, 1) := by decide +kernel
theorem dX5_menOf_10 : decode cX5_menOf 10 = .ok (.if_icmp .ge 22, 3) := by decide +kernel
theorem dX5_menOf_13 : decode cX5_menOf 13 = .ok (.aload_n 0, 1) := by decide +kernel
theorem dX5_menOf_14 : decode cX5_menOf 14 = .ok (.getfield 26, 3) := by decide +kernel
theorem dX5_menOf_17 : decode cX5_menOf 17 = .ok (.iload_n 3, 1) := by decide +kernel
theorem dX5_menOf_18 : decode cX5_menOf 18 = .ok (.iaload, 1) := by decide +kernel
theorem dX5_menOf_19 : decode cX5_menOf 19 = .ok (.iload_n 1, 1) := by decide +kernel
theorem dX5_menOf_20 : decode cX5_menOf 20 = .ok (.if_icmp .ne 6, 3) := by decide +kernel
theorem dX5_menOf_23 : decode cX5_menOf 23 = .ok (.iinc 2 1, 3) := by decide +kernel
theorem dX5_menOf_26 : decode cX5_menOf 26 = .ok (.iinc 3 1, 3) := by decide +kernel
theorem dX5_menOf_29 : decode cX5_menOf 29 = .ok (.goto (-25), 3) := by decide +kernel
theorem dX5_menOf_32 : decode cX5_menOf 32 = .ok (.iload_n 2, 1) := by decide +kernel
theorem dX5_menOf_33 : decode cX5_menOf 33 = .ok (.ireturn, 1) := by decide +kernel
theorem dX5_dropSeen_0 : decode cX5_dropSeen 0 = .ok (.aload_n 0, 1) := by decide +kernel
theorem dX5_dropSeen_1 : decode cX5_dropSeen 1 = .ok (.getfield 33, 3) := by decide +kernel
theorem dX5_dropSeen_4 : decode cX5_dropSeen 4 = .ok (.invokevirtual 52, 3) := by decide +kernel
theorem dX5_dropSeen_7 : decode cX5_dropSeen 7 = .ok (.aload_n 0, 1) := by decide +kernel
theorem dX5_dropSeen_8 : decode cX5_dropSeen 8 = .ok (.getfield 36, 3) := by decide +kernel
theorem dX5_dropSeen_11 : decode cX5_dropSeen 11 = .ok (.invokevirtual 52, 3) := by decide +kernel
theorem dX5_dropSeen_14 : decode cX5_dropSeen 14 = .ok (.return_, 1) := by decide +kernel
theorem dX5_leaveBoard_0 : decode cX5_leaveBoard 0 = .ok (.aload_n 0, 1) := by decide +kernel
theorem dX5_leaveBoard_1 : decode cX5_leaveBoard 1 = .ok (.invokevirtual 55, 3) := by decide +kernel
theorem dX5_leaveBoard_4 : decode cX5_leaveBoard 4 = .ok (.aload_n 0, 1) := by decide +kernel
theorem dX5_leaveBoard_5 : decode cX5_leaveBoard 5 = .ok (.getfield 30, 3) := by decide +kernel
theorem dX5_leaveBoard_8 : decode cX5_leaveBoard 8 = .ok (.invokevirtual 52, 3) := by decide +kernel
theorem dX5_leaveBoard_11 : decode cX5_leaveBoard 11 = .ok (.aload_n 0, 1) := by decide +kernel
theorem dX5_leaveBoard_12 : decode cX5_leaveBoard 12 = .ok (.invokevirtual 58, 3) := by decide +kernel
theorem dX5_leaveBoard_15 : decode cX5_leaveBoard 15 = .ok (.aload_n 0, 1) := by decide +kernel
theorem dX5_leaveBoard_16 : decode cX5_leaveBoard 16 = .ok (.getfield 39, 3) := by decide +kernel
theorem dX5_leaveBoard_19 : decode cX5_leaveBoard 19 = .ok (.invokevirtual 52, 3) := by decide +kernel
theorem dX5_leaveBoard_22 : decode cX5_leaveBoard 22 = .ok (.return_, 1) := by decide +kernel
theorem dX5_becomes_0 : decode cX5_becomes 0 = .ok (.aload_n 0, 1) := by decide +kernel
theorem dX5_becomes_1 : decode cX5_becomes 1 = .ok (.getfield 14, 3) := by decide +kernel
theorem dX5_becomes_4 : decode cX5_becomes 4 = .ok (.aload_n 1, 1) := by decide +kernel
theorem dX5_becomes_5 : decode cX5_becomes 5 = .ok (.getfield 14, 3) := by decide +kernel
theorem dX5_becomes_8 : decode cX5_becomes 8 = .ok (.invokevirtual 61, 3) := by decide +kernel
theorem dX5_becomes_11 : decode cX5_becomes 11 = .ok (.aload_n 0, 1) := by decide +kernel
theorem dX5_becomes_12 : decode cX5_becomes 12 = .ok (.getfield 20, 3) := by decide +kernel
theorem dX5_becomes_15 : decode cX5_becomes 15 = .ok (.aload_n 1, 1) := by decide +kernel
theorem dX5_becomes_16 : decode cX5_becomes 16 = .ok (.getfield 20, 3) := by decide +kernel
theorem dX5_becomes_19 : decode cX5_becomes 19 = .ok (.invokevirtual 61, 3) := by decide +kernel
theorem dX5_becomes_22 : decode cX5_becomes 22 = .ok (.aload_n 0, 1) := by decide +kernel
theorem dX5_becomes_23 : decode cX5_becomes 23 = .ok (.getfield 23, 3) := by decide +kernel
theorem dX5_becomes_26 : decode cX5_becomes 26 = .ok (.aload_n 1, 1) := by decide +kernel
theorem dX5_becomes_27 : decode cX5_becomes 27 = .ok (.getfield 23, 3) := by decide +kernel
theorem dX5_becomes_30 : decode cX5_becomes 30 = .ok (.invokevirtual 61, 3) := by decide +kernel
theorem dX5_becomes_33 : decode cX5_becomes 33 = .ok (.iconst 0, 1) := by decide +kernel
theorem dX5_becomes_34 : decode cX5_becomes 34 = .ok (.istore_n 2, 1) := by decide +kernel
theorem dX5_becomes_35 : decode cX5_becomes 35 = .ok (.iload_n 2, 1) := by decide +kernel
theorem dX5_becomes_36 : decode cX5_becomes 36 = .ok (.aload_n 0, 1) := by decide +kernel
theorem dX5_becomes_37 : decode cX5_becomes 37 = .ok (.getfield 26, 3) := by decide +kernel
theorem dX5_becomes_40 : decode cX5_becomes 40 = .ok (.arraylength, 1) := by decide +kernel
theorem dX5_becomes_41 : decode cX5_becomes 41 = .ok (.if_icmp .ge 20, 3) := by decide +kernel
theorem dX5_becomes_44 : decode cX5_becomes 44 = .ok (.aload_n 0, 1) := by decide +kernel
theorem dX5_becomes_45 : decode cX5_becomes 45 = .ok (.getfield 26, 3) := by decide +kernel
theorem dX5_becomes_48 : decode cX5_becomes 48 = .ok (.iload_n 2, 1) := by decide +kernel
theorem dX5_becomes_49 : decode cX5_becomes 49 = .ok (.aload_n 1, 1) := by decide +kernel
theorem dX5_becomes_50 : decode cX5_becomes 50 = .ok (.iload_n 2, 1) := by decide +kernel
theorem dX5_becomes_51 : decode cX5_becomes 51 = .ok (.invokevirtual 65, 3) := by decide +kernel
theorem dX5_becomes_54 : decode cX5_becomes 54 = .ok (.iastore, 1) := by decide +kernel
theorem dX5_becomes_55 : decode cX5_becomes 55 = .ok (.iinc 2 1, 3) := by decide +kernel
theorem dX5_becomes_58 : decode cX5_becomes 58 = .ok (.goto (-23), 3) := by decide +kernel
theorem dX5_becomes_61 : decode cX5_becomes 61 = .ok (.aload_n 0, 1) := by decide +kernel
theorem dX5_becomes_62 : decode cX5_becomes 62 = .ok (.getfield 30, 3) := by decide +kernel
theorem dX5_becomes_65 : decode cX5_becomes 65 = .ok (.aload_n 1, 1) := by decide +kernel
theorem dX5_becomes_66 : decode cX5_becomes 66 = .ok (.getfield 30, 3) := by decide +kernel
theorem dX5_becomes_69 : decode cX5_becomes 69 = .ok (.invokevirtual 61, 3) := by decide +kernel
theorem dX5_becomes_72 : decode cX5_becomes 72 = .ok (.aload_n 0, 1) := by decide +kernel
theorem dX5_becomes_73 : decode cX5_becomes 73 = .ok (.getfield 33, 3) := by decide +kernel
theorem dX5_becomes_76 : decode cX5_becomes 76 = .ok (.aload_n 1, 1) := by decide +kernel
theorem dX5_becomes_77 : decode cX5_becomes 77 = .ok (.getfield 33, 3) := by decide +kernel
theorem dX5_becomes_80 : decode cX5_becomes 80 = .ok (.invokevirtual 61, 3) := by decide +kernel
theorem dX5_becomes_83 : decode cX5_becomes 83 = .ok (.aload_n 0, 1) := by decide +kernel
theorem dX5_becomes_84 : decode cX5_becomes 84 = .ok (.getfield 36, 3) := by decide +kernel
theorem dX5_becomes_87 : decode cX5_becomes 87 = .ok (.aload_n 1, 1) := by decide +kernel
theorem dX5_becomes_88 : decode cX5_becomes 88 = .ok (.getfield 36, 3) := by decide +kernel
theorem dX5_becomes_91 : decode cX5_becomes 91 = .ok (.invokevirtual 61, 3) := by decide +kernel
theorem dX5_becomes_94 : decode cX5_becomes 94 = .ok (.aload_n 0, 1) := by decide +kernel
theorem dX5_becomes_95 : decode cX5_becomes 95 = .ok (.getfield 39, 3) := by decide +kernel
theorem dX5_becomes_98 : decode cX5_becomes 98 = .ok (.aload_n 1, 1) := by decide +kernel
theorem dX5_becomes_99 : decode cX5_becomes 99 = .ok (.getfield 39, 3) := by decide +kernel
theorem dX5_becomes_102 : decode cX5_becomes 102 = .ok (.invokevirtual 61, 3) := by decide +kernel
theorem dX5_becomes_105 : decode cX5_becomes 105 = .ok (.aload_n 0, 1) := by decide +kernel
theorem dX5_becomes_106 : decode cX5_becomes 106 = .ok (.aload_n 1, 1) := by decide +kernel
theorem dX5_becomes_107 : decode cX5_becomes 107 = .ok (.getfield 42, 3) := by decide +kernel
theorem dX5_becomes_110 : decode cX5_becomes 110 = .ok (.putfield 42, 3) := by decide +kernel
theorem dX5_becomes_113 : decode cX5_becomes 113 = .ok (.return_, 1) := by decide +kernel
theorem dX6_init_0 : decode cX6_init 0 = .ok (.aload_n 0, 1) := by decide +kernel
theorem dX6_init_1 : decode cX6_init 1 = .ok (.invokespecial 1, 3) := by decide +kernel
theorem dX6_init_4 : decode cX6_init 4 = .ok (.aload_n 0, 1) := by decide +kernel
theorem dX6_init_5 : decode cX6_init 5 = .ok (.bipush 6, 2) := by decide +kernel
theorem dX6_init_7 : decode cX6_init 7 = .ok (.newarray .int, 2) := by decide +kernel
theorem dX6_init_9 : decode cX6_init 9 = .ok (.putfield 9, 3) := by decide +kernel
theorem dX6_init_12 : decode cX6_init 12 = .ok (.aload_n 0, 1) := by decide +kernel
theorem dX6_init_13 : decode cX6_init 13 = .ok (.bipush 6, 2) := by decide +kernel
theorem dX6_init_15 : decode cX6_init 15 = .ok (.newarray .int, 2) := by decide +kernel
theorem dX6_init_17 : decode cX6_init 17 = .ok (.putfield 13, 3) := by decide +kernel
theorem dX6_init_20 : decode cX6_init 20 = .ok (.aload_n 0, 1) := by decide +kernel
theorem dX6_init_21 : decode cX6_init 21 = .ok (.sipush 360, 3) := by decide +kernel
theorem dX6_init_24 : decode cX6_init 24 = .ok (.newarray .long, 2) := by decide +kernel
theorem dX6_init_26 : decode cX6_init 26 = .ok (.putfield 16, 3) := by decide +kernel
theorem dX6_init_29 : decode cX6_init 29 = .ok (.aload_n 0, 1) := by decide +kernel
theorem dX6_init_30 : decode cX6_init 30 = .ok (.getfield 9, 3) := by decide +kernel
theorem dX6_init_33 : decode cX6_init 33 = .ok (.iconst (-1), 1) := by decide +kernel
theorem dX6_init_34 : decode cX6_init 34 = .ok (.invokestatic 20, 3) := by decide +kernel
theorem dX6_init_37 : decode cX6_init 37 = .ok (.return_, 1) := by decide +kernel
theorem dX6_isTape_0 : decode cX6_isTape 0 = .ok (.iload_n 1, 1) := by decide +kernel
theorem dX6_isTape_1 : decode cX6_isTape 1 = .ok (.ifCond .lt 13, 3) := by decide +kernel
theorem dX6_isTape_4 : decode cX6_isTape 4 = .ok (.iload_n 1, 1) := by decide +kernel
theorem dX6_isTape_5 : decode cX6_isTape 5 = .ok (.bipush 6, 2) := by decide +kernel
theorem dX6_isTape_7 : decode cX6_isTape 7 = .ok (.if_icmp .ge 7, 3) := by decide +kernel
theorem dX6_isTape_10 : decode cX6_isTape 10 = .ok (.iconst 1, 1) := by decide +kernel
theorem dX6_isTape_11 : decode cX6_isTape 11 = .ok (.goto 4, 3) := by decide +kernel
theorem dX6_isTape_14 : decode cX6_isTape 14 = .ok (.iconst 0, 1) := by decide +kernel
theorem dX6_isTape_15 : decode cX6_isTape 15 = .ok (.ireturn, 1) := by decide +kernel
theorem dX6_sortOf_0 : decode cX6_sortOf 0 = .ok (.iload_n 1, 1) := by decide +kernel
theorem dX6_sortOf_1 : decode cX6_sortOf 1 = .ok (.ifCond .lt 12, 3) := by decide +kernel
theorem dX6_sortOf_4 : decode cX6_sortOf 4 = .ok (.iload_n 1, 1) := by decide +kernel
theorem dX6_sortOf_5 : decode cX6_sortOf 5 = .ok (.aload_n 0, 1) := by decide +kernel
theorem dX6_sortOf_6 : decode cX6_sortOf 6 = .ok (.getfield 9, 3) := by decide +kernel
theorem dX6_sortOf_9 : decode cX6_sortOf 9 = .ok (.arraylength, 1) := by decide +kernel
theorem dX6_sortOf_10 : decode cX6_sortOf 10 = .ok (.if_icmp .lt 7, 3) := by decide +kernel
theorem dX6_sortOf_13 : decode cX6_sortOf 13 = .ok (.iconst (-1), 1) := by decide +kernel
theorem dX6_sortOf_14 : decode cX6_sortOf 14 = .ok (.goto 9, 3) := by decide +kernel
theorem dX6_sortOf_17 : decode cX6_sortOf 17 = .ok (.aload_n 0, 1) := by decide +kernel
theorem dX6_sortOf_18 : decode cX6_sortOf 18 = .ok (.getfield 9, 3) := by decide +kernel
theorem dX6_sortOf_21 : decode cX6_sortOf 21 = .ok (.iload_n 1, 1) := by decide +kernel
theorem dX6_sortOf_22 : decode cX6_sortOf 22 = .ok (.iaload, 1) := by decide +kernel
theorem dX6_sortOf_23 : decode cX6_sortOf 23 = .ok (.ireturn, 1) := by decide +kernel
theorem dX6_holdsNothing_0 : decode cX6_holdsNothing 0 = .ok (.aload_n 0, 1) := by decide +kernel
theorem dX6_holdsNothing_1 : decode cX6_holdsNothing 1 = .ok (.iload_n 1, 1) := by decide +kernel
theorem dX6_holdsNothing_2 : decode cX6_holdsNothing 2 = .ok (.invokevirtual 26, 3) := by decide +kernel
theorem dX6_holdsNothing_5 : decode cX6_holdsNothing 5 = .ok (.iconst (-1), 1) := by decide +kernel
theorem dX6_holdsNothing_6 : decode cX6_holdsNothing 6 = .ok (.if_icmp .ne 7, 3) := by decide +kernel
theorem dX6_holdsNothing_9 : decode cX6_holdsNothing 9 = .ok (.iconst 1, 1) := by decide +kernel
theorem dX6_holdsNothing_10 : decode cX6_holdsNothing 10 = .ok (.goto 4, 3) := by decide +kernel
theorem dX6_holdsNothing_13 : decode cX6_holdsNothing 13 = .ok (.iconst 0, 1) := by decide +kernel
theorem dX6_holdsNothing_14 : decode cX6_holdsNothing 14 = .ok (.ireturn, 1) := by decide +kernel
theorem dX6_sizeOf_0 : decode cX6_sizeOf 0 = .ok (.iload_n 1, 1) := by decide +kernel
theorem dX6_sizeOf_1 : decode cX6_sizeOf 1 = .ok (.ifCond .lt 12, 3) := by decide +kernel
theorem dX6_sizeOf_4 : decode cX6_sizeOf 4 = .ok (.iload_n 1, 1) := by decide +kernel
theorem dX6_sizeOf_5 : decode cX6_sizeOf 5 = .ok (.aload_n 0, 1) := by decide +kernel
theorem dX6_sizeOf_6 : decode cX6_sizeOf 6 = .ok (.getfield 13, 3) := by decide +kernel
theorem dX6_sizeOf_9 : decode cX6_sizeOf 9 = .ok (.arraylength, 1) := by decide +kernel
theorem dX6_sizeOf_10 : decode cX6_sizeOf 10 = .ok (.if_icmp .lt 7, 3) := by decide +kernel
theorem dX6_sizeOf_13 : decode cX6_sizeOf 13 = .ok (.iconst 0, 1) := by decide +kernel
theorem dX6_sizeOf_14 : decode cX6_sizeOf 14 = .ok (.goto 9, 3) := by decide +kernel
theorem dX6_sizeOf_17 : decode cX6_sizeOf 17 = .ok (.aload_n 0, 1) := by decide +kernel
theorem dX6_sizeOf_18 : decode cX6_sizeOf 18 = .ok (.getfield 13, 3) := by decide +kernel
theorem dX6_sizeOf_21 : decode cX6_sizeOf 21 = .ok (.iload_n 1, 1) := by decide +kernel
theorem dX6_sizeOf_22 : decode cX6_sizeOf 22 = .ok (.iaload, 1) := by decide +kernel
theorem dX6_sizeOf_23 : decode cX6_sizeOf 23 = .ok (.ireturn, 1) := by decide +kernel
theorem dX6_isPlace_0 : decode cX6_isPlace 0 = .ok (.iload_n 2, 1) := by decide +kernel
theorem dX6_isPlace_1 : decode cX6_isPlace 1 = .ok (.ifCond .lt 16, 3) := by decide +kernel
theorem dX6_isPlace_4 : decode cX6_isPlace 4 = .ok (.iload_n 2, 1) := by decide +kernel
theorem dX6_isPlace_5 : decode cX6_isPlace 5 = .ok (.aload_n 0, 1) := by decide +kernel
theorem dX6_isPlace_6 : decode cX6_isPlace 6 = .ok (.iload_n 1, 1) := by decide +kernel
theorem dX6_isPlace_7 : decode cX6_isPlace 7 = .ok (.invokevirtual 30, 3) := by decide +kernel
theorem dX6_isPlace_10 : decode cX6_isPlace 10 = .ok (.if_icmp .ge 7, 3) := by decide +kernel
theorem dX6_isPlace_13 : decode cX6_isPlace 13 = .ok (.iconst 1, 1) := by decide +kernel
theorem dX6_isPlace_14 : decode cX6_isPlace 14 = .ok (.goto 4, 3) := by decide +kernel
theorem dX6_isPlace_17 : decode cX6_isPlace 17 = .ok (.iconst 0, 1) := by decide +kernel
theorem dX6_isPlace_18 : decode cX6_isPlace 18 = .ok (.ireturn, 1) := by decide +kernel
theorem dX6_hasRun_0 : decode cX6_hasRun 0 = .ok (.iload_n 3, 1) := by decide +kernel
theorem dX6_hasRun_1 : decode cX6_hasRun 1 = .ok (.ifCond .lt 31, 3) := by decide +kernel
theorem dX6_hasRun_4 : decode cX6_hasRun 4 = .ok (.iload_n 2, 1) := by decide +kernel
theorem dX6_hasRun_5 : decode cX6_hasRun 5 = .ok (.ifCond .lt 27, 3) := by decide +kernel
theorem dX6_hasRun_8 : decode cX6_hasRun 8 = .ok (.iload_n 3, 1) := by decide +kernel
theorem dX6_hasRun_9 : decode cX6_hasRun 9 = .ok (.aload_n 0, 1) := by decide +kernel
theorem dX6_hasRun_10 : decode cX6_hasRun 10 = .ok (.iload_n 1, 1) := by decide +kernel
theorem dX6_hasRun_11 : decode cX6_hasRun 11 = .ok (.invokevirtual 30, 3) := by decide +kernel
theorem dX6_hasRun_14 : decode cX6_hasRun 14 = .ok (.if_icmp .gt 18, 3) := by decide +kernel
theorem dX6_hasRun_17 : decode cX6_hasRun 17 = .ok (.iload_n 2, 1) := by decide +kernel
theorem dX6_hasRun_18 : decode cX6_hasRun 18 = .ok (.aload_n 0, 1) := by decide +kernel
theorem dX6_hasRun_19 : decode cX6_hasRun 19 = .ok (.iload_n 1, 1) := by decide +kernel
theorem dX6_hasRun_20 : decode cX6_hasRun 20 = .ok (.invokevirtual 30, 3) := by decide +kernel
theorem dX6_hasRun_23 : decode cX6_hasRun 23 = .ok (.iload_n 3, 1) := by decide +kernel
theorem dX6_hasRun_24 : decode cX6_hasRun 24 = .ok (.isub, 1) := by decide +kernel
theorem dX6_hasRun_25 : decode cX6_hasRun 25 = .ok (.if_icmp .gt 7, 3) := by decide +kernel
theorem dX6_hasRun_28 : decode cX6_hasRun 28 = .ok (.iconst 1, 1) := by decide +kernel
theorem dX6_hasRun_29 : decode cX6_hasRun 29 = .ok (.goto 4, 3) := by decide +kernel
theorem dX6_hasRun_32 : decode cX6_hasRun 32 = .ok (.iconst 0, 1) := by decide +kernel
theorem dX6_hasRun_33 : decode cX6_hasRun 33 = .ok (.ireturn, 1) := by decide +kernel
theorem dX6_become_0 : decode cX6_become 0 = .ok (.iload_n 1, 1) := by decide +kernel
theorem dX6_become_1 : decode cX6_become 1 = .ok (.ifCond .lt 21, 3) := by decide +kernel
theorem dX6_become_4 : decode cX6_become 4 = .ok (.iload_n 1, 1) := by decide +kernel
theorem dX6_become_5 : decode cX6_become 5 = .ok (.aload_n 0, 1) := by decide +kernel
theorem dX6_become_6 : decode cX6_become 6 = .ok (.getfield 9, 3) := by decide +kernel
theorem dX6_become_9 : decode cX6_become 9 = .ok (.arraylength, 1) := by decide +kernel
theorem dX6_become_10 : decode cX6_become 10 = .ok (.if_icmp .ge 12, 3) := by decide +kernel
theorem dX6_become_13 : decode cX6_become 13 = .ok (.iload_n 1, 1) := by decide +kernel
theorem dX6_become_14 : decode cX6_become 14 = .ok (.aload_n 0, 1) := by decide +kernel
theorem dX6_become_15 : decode cX6_become 15 = .ok (.getfield 13, 3) := by decide +kernel
theorem dX6_become_18 : decode cX6_become 18 = .ok (.arraylength, 1) := by decide +kernel
theorem dX6_become_19 : decode cX6_become 19 = .ok (.if_icmp .lt 4, 3) := by decide +kernel
theorem dX6_become_22 : decode cX6_become 22 = .ok (.return_, 1) := by decide +kernel
theorem dX6_become_23 : decode cX6_become 23 = .ok (.aload_n 0, 1) := by decide +kernel
theorem dX6_become_24 : decode cX6_become 24 = .ok (.getfield 9, 3) := by decide +kernel
theorem dX6_become_27 : decode cX6_become 27 = .ok (.iload_n 1, 1) := by decide +kernel
theorem dX6_become_28 : decode cX6_become 28 = .ok (.iload_n 2, 1) := by decide +kernel
theorem dX6_become_29 : decode cX6_become 29 = .ok (.iastore, 1) := by decide +kernel
theorem dX6_become_30 : decode cX6_become 30 = .ok (.aload_n 0, 1) := by decide +kernel
theorem dX6_become_31 : decode cX6_become 31 = .ok (.getfield 13, 3) := by decide +kernel
theorem dX6_become_34 : decode cX6_become 34 = .ok (.iload_n 1, 1) := by decide +kernel
theorem dX6_become_35 : decode cX6_become 35 = .ok (.iload_n 3, 1) := by decide +kernel
theorem dX6_become_36 : decode cX6_become 36 = .ok (.iconst 0, 1) := by decide +kernel
theorem dX6_become_37 : decode cX6_become 37 = .ok (.invokestatic 33, 3) := by decide +kernel
theorem dX6_become_40 : decode cX6_become 40 = .ok (.bipush 60, 2) := by decide +kernel
theorem dX6_become_42 : decode cX6_become 42 = .ok (.invokestatic 39, 3) := by decide +kernel
theorem dX6_become_45 : decode cX6_become 45 = .ok (.iastore, 1) := by decide +kernel
theorem dX6_become_46 : decode cX6_become 46 = .ok (.iconst 0, 1) := by decide +kernel
theorem dX6_become_47 : decode cX6_become 47 = .ok (.istore 4, 2) := by decide +kernel
theorem dX6_become_49 : decode cX6_become 49 = .ok (.iload 4, 2) := by decide +kernel
theorem dX6_become_51 : decode cX6_become 51 = .ok (.bipush 60, 2) := by decide +kernel
theorem dX6_become_53 : decode cX6_become 53 = .ok (.if_icmp .ge 22, 3) := by decide +kernel
theorem dX6_become_56 : decode cX6_become 56 = .ok (.aload_n 0, 1) := by decide +kernel
theorem dX6_become_57 : decode cX6_become 57 = .ok (.getfield 16, 3) := by decide +kernel
theorem dX6_become_60 : decode cX6_become 60 = .ok (.iload_n 1, 1) := by decide +kernel
theorem dX6_become_61 : decode cX6_become 61 = .ok (.bipush 60, 2) := by decide +kernel
theorem dX6_become_63 : decode cX6_become 63 = .ok (.imul, 1) := by decide +kernel
theorem dX6_become_64 : decode cX6_become 64 = .ok (.iload 4, 2) := by decide +kernel
theorem dX6_become_66 : decode cX6_become 66 = .ok (.iadd, 1) := by decide +kernel
theorem dX6_become_67 : decode cX6_become 67 = .ok (.lconst 0, 1) := by decide +kernel
theorem dX6_become_68 : decode cX6_become 68 = .ok (.lastore, 1) := by decide +kernel
theorem dX6_become_69 : decode cX6_become 69 = .ok (.iinc 4 1, 3) := by decide +kernel
theorem dX6_become_72 : decode cX6_become 72 = .ok (.goto (-23), 3) := by decide +kernel
theorem dX6_become_75 : decode cX6_become 75 = .ok (.return_, 1) := by decide +kernel
theorem dX6_put_0 : decode cX6_put 0 = .ok (.aload_n 0, 1) := by decide +kernel
theorem dX6_put_1 : decode cX6_put 1 = .ok (.iload_n 1, 1) := by decide +kernel
theorem dX6_put_2 : decode cX6_put 2 = .ok (.invokevirtual 42, 3) := by decide +kernel
theorem dX6_put_5 : decode cX6_put 5 = .ok (.ifCond .eq 32, 3) := by decide +kernel
theorem dX6_put_8 : decode cX6_put 8 = .ok (.aload_n 0, 1) := by decide +kernel
theorem dX6_put_9 : decode cX6_put 9 = .ok (.iload_n 1, 1) := by decide +kernel
theorem dX6_put_10 : decode cX6_put 10 = .ok (.iload_n 2, 1) := by decide +kernel
theorem dX6_put_11 : decode cX6_put 11 = .ok (.invokevirtual 46, 3) := by decide +kernel
theorem dX6_put_14 : decode cX6_put 14 = .ok (.ifCond .eq 23, 3) := by decide +kernel
theorem dX6_put_17 : decode cX6_put 17 = .ok (.aload_n 0, 1) := by decide +kernel
theorem dX6_put_18 : decode cX6_put 18 = .ok (.getfield 16, 3) := by decide +kernel
theorem dX6_put_21 : decode cX6_put 21 = .ok (.iload_n 1, 1) := by decide +kernel
theorem dX6_put_22 : decode cX6_put 22 = .ok (.bipush 60, 2) := by decide +kernel
theorem dX6_put_24 : decode cX6_put 24 = .ok (.imul, 1) := by decide +kernel
theorem dX6_put_25 : decode cX6_put 25 = .ok (.iload_n 2, 1) := by decide +kernel
theorem dX6_put_26 : decode cX6_put 26 = .ok (.iadd, 1) := by decide +kernel
theorem dX6_put_27 : decode cX6_put 27 = .ok (.aload_n 0, 1) := by decide +kernel
theorem dX6_put_28 : decode cX6_put 28 = .ok (.iload_n 1, 1) := by decide +kernel
theorem dX6_put_29 : decode cX6_put 29 = .ok (.invokevirtual 26, 3) := by decide +kernel
theorem dX6_put_32 : decode cX6_put 32 = .ok (.lload_n 3, 1) := by decide +kernel
theorem dX6_put_33 : decode cX6_put 33 = .ok (.invokestatic 50, 3) := by decide +kernel
theorem dX6_put_36 : decode cX6_put 36 = .ok (.lastore, 1) := by decide +kernel
theorem dX6_put_37 : decode cX6_put 37 = .ok (.return_, 1) := by decide +kernel
theorem dX6_fitted_0 : decode cX6_fitted 0 = .ok (.iload_n 0, 1) := by decide +kernel
theorem dX6_fitted_1 : decode cX6_fitted 1 = .ok (.tableswitch 61 0 4 #[35, 40, 45, 61, 49], 35) := by decide +kernel
theorem dX6_fitted_36 : decode cX6_fitted 36 = .ok (.lload_n 1, 1) := by decide +kernel
theorem dX6_fitted_37 : decode cX6_fitted 37 = .ok (.l2i, 1) := by decide +kernel
theorem dX6_fitted_38 : decode cX6_fitted 38 = .ok (.i2b, 1) := by decide +kernel
theorem dX6_fitted_39 : decode cX6_fitted 39 = .ok (.i2l, 1) := by decide +kernel
theorem dX6_fitted_40 : decode cX6_fitted 40 = .ok (.lreturn, 1) := by decide +kernel
theorem dX6_fitted_41 : decode cX6_fitted 41 = .ok (.lload_n 1, 1) := by decide +kernel
theorem dX6_fitted_42 : decode cX6_fitted 42 = .ok (.l2i, 1) := by decide +kernel
theorem dX6_fitted_43 : decode cX6_fitted 43 = .ok (.i2s, 1) := by decide +kernel
theorem dX6_fitted_44 : decode cX6_fitted 44 = .ok (.i2l, 1) := by decide +kernel
theorem dX6_fitted_45 : decode cX6_fitted 45 = .ok (.lreturn, 1) := by decide +kernel
theorem dX6_fitted_46 : decode cX6_fitted 46 = .ok (.lload_n 1, 1) := by decide +kernel
theorem dX6_fitted_47 : decode cX6_fitted 47 = .ok (.l2i, 1) := by decide +kernel
theorem dX6_fitted_48 : decode cX6_fitted 48 = .ok (.i2l, 1) := by decide +kernel
theorem dX6_fitted_49 : decode cX6_fitted 49 = .ok (.lreturn, 1) := by decide +kernel
theorem dX6_fitted_50 : decode cX6_fitted 50 = .ok (.lload_n 1, 1) := by decide +kernel
theorem dX6_fitted_51 : decode cX6_fitted 51 = .ok (.lconst 0, 1) := by decide +kernel
theorem dX6_fitted_52 : decode cX6_fitted 52 = .ok (.lcmp, 1) := by decide +kernel
theorem dX6_fitted_53 : decode cX6_fitted 53 = .ok (.ifCond .eq 7, 3) := by decide +kernel
theorem dX6_fitted_56 : decode cX6_fitted 56 = .ok (.lconst 1, 1) := by decide +kernel
theorem dX6_fitted_57 : decode cX6_fitted 57 = .ok (.goto 4, 3) := by decide +kernel
theorem dX6_fitted_60 : decode cX6_fitted 60 = .ok (.lconst 0, 1) := by decide +kernel
theorem dX6_fitted_61 : decode cX6_fitted 61 = .ok (.lreturn, 1) := by decide +kernel
theorem dX6_fitted_62 : decode cX6_fitted 62 = .ok (.lload_n 1, 1) := by decide +kernel
theorem dX6_fitted_63 : decode cX6_fitted 63 = .ok (.lreturn, 1) := by decide +kernel
theorem dX6_get_0 : decode cX6_get 0 = .ok (.aload_n 0, 1) := by decide +kernel
theorem dX6_get_1 : decode cX6_get 1 = .ok (.iload_n 1, 1) := by decide +kernel
theorem dX6_get_2 : decode cX6_get 2 = .ok (.invokevirtual 42, 3) := by decide +kernel
theorem dX6_get_5 : decode cX6_get 5 = .ok (.ifCond .eq 26, 3) := by decide +kernel
theorem dX6_get_8 : decode cX6_get 8 = .ok (.aload_n 0, 1) := by decide +kernel
theorem dX6_get_9 : decode cX6_get 9 = .ok (.iload_n 1, 1) := by decide +kernel
theorem dX6_get_10 : decode cX6_get 10 = .ok (.iload_n 2, 1) := by decide +kernel
theorem dX6_get_11 : decode cX6_get 11 = .ok (.invokevirtual 46, 3) := by decide +kernel
theorem dX6_get_14 : decode cX6_get 14 = .ok (.ifCond .eq 17, 3) := by decide +kernel
theorem dX6_get_17 : decode cX6_get 17 = .ok (.aload_n 0, 1) := by decide +kernel
theorem dX6_get_18 : decode cX6_get 18 = .ok (.getfield 16, 3) := by decide +kernel
theorem dX6_get_21 : decode cX6_get 21 = .ok (.iload_n 1, 1) := by decide +kernel
theorem dX6_get_22 : decode cX6_get 22 = .ok (.bipush 60, 2) := by decide +kernel
theorem dX6_get_24 : decode cX6_get 24 = .ok (.imul, 1) := by decide +kernel
theorem dX6_get_25 : decode cX6_get 25 = .ok (.iload_n 2, 1) := by decide +kernel
theorem dX6_get_26 : decode cX6_get 26 = .ok (.iadd, 1) := by decide +kernel
theorem dX6_get_27 : decode cX6_get 27 = .ok (.laload, 1) := by decide +kernel
theorem dX6_get_28 : decode cX6_get 28 = .ok (.goto 4, 3) := by decide +kernel
theorem dX6_get_31 : decode cX6_get 31 = .ok (.lconst 0, 1) := by decide +kernel
theorem dX6_get_32 : decode cX6_get 32 = .ok (.lreturn, 1) := by decide +kernel
theorem dX6_move_0 : decode cX6_move 0 = .ok (.aload_n 0, 1) := by decide +kernel
theorem dX6_move_1 : decode cX6_move 1 = .ok (.iload_n 1, 1) := by decide +kernel
theorem dX6_move_2 : decode cX6_move 2 = .ok (.invokevirtual 42, 3) := by decide +kernel
theorem dX6_move_5 : decode cX6_move 5 = .ok (.ifCond .eq 60, 3) := by decide +kernel
theorem dX6_move_8 : decode cX6_move 8 = .ok (.aload_n 0, 1) := by decide +kernel
theorem dX6_move_9 : decode cX6_move 9 = .ok (.iload_n 3, 1) := by decide +kernel
theorem dX6_move_10 : decode cX6_move 10 = .ok (.invokevirtual 42, 3) := by decide +kernel
theorem dX6_move_13 : decode cX6_move 13 = .ok (.ifCond .eq 52, 3) := by decide +kernel
theorem dX6_move_16 : decode cX6_move 16 = .ok (.aload_n 0, 1) := by decide +kernel
theorem dX6_move_17 : decode cX6_move 17 = .ok (.iload_n 1, 1) := by decide +kernel
theorem dX6_move_18 : decode cX6_move 18 = .ok (.iload_n 2, 1) := by decide +kernel
theorem dX6_move_19 : decode cX6_move 19 = .ok (.iload 5, 2) := by decide +kernel
theorem dX6_move_21 : decode cX6_move 21 = .ok (.invokevirtual 54, 3) := by decide +kernel
theorem dX6_move_24 : decode cX6_move 24 = .ok (.ifCond .eq 41, 3) := by decide +kernel
theorem dX6_move_27 : decode cX6_move 27 = .ok (.aload_n 0, 1) := by decide +kernel
theorem dX6_move_28 : decode cX6_move 28 = .ok (.iload_n 3, 1) := by decide +kernel
theorem dX6_move_29 : decode cX6_move 29 = .ok (.iload 4, 2) := by decide +kernel
theorem dX6_move_31 : decode cX6_move 31 = .ok (.iload 5, 2) := by decide +kernel
theorem dX6_move_33 : decode cX6_move 33 = .ok (.invokevirtual 54, 3) := by decide +kernel
theorem dX6_move_36 : decode cX6_move 36 = .ok (.ifCond .eq 29, 3) := by decide +kernel
theorem dX6_move_39 : decode cX6_move 39 = .ok (.aload_n 0, 1) := by decide +kernel
theorem dX6_move_40 : decode cX6_move 40 = .ok (.getfield 16, 3) := by decide +kernel
theorem dX6_move_43 : decode cX6_move 43 = .ok (.iload_n 1, 1) := by decide +kernel
theorem dX6_move_44 : decode cX6_move 44 = .ok (.bipush 60, 2) := by decide +kernel
theorem dX6_move_46 : decode cX6_move 46 = .ok (.imul, 1) := by decide +kernel
theorem dX6_move_47 : decode cX6_move 47 = .ok (.iload_n 2, 1) := by decide +kernel
theorem dX6_move_48 : decode cX6_move 48 = .ok (.iadd, 1) := by decide +kernel
theorem dX6_move_49 : decode cX6_move 49 = .ok (.aload_n 0, 1) := by decide +kernel
theorem dX6_move_50 : decode cX6_move 50 = .ok (.getfield 16, 3) := by decide +kernel
theorem dX6_move_53 : decode cX6_move 53 = .ok (.iload_n 3, 1) := by decide +kernel
theorem dX6_move_54 : decode cX6_move 54 = .ok (.bipush 60, 2) := by decide +kernel
theorem dX6_move_56 : decode cX6_move 56 = .ok (.imul, 1) := by decide +kernel
theorem dX6_move_57 : decode cX6_move 57 = .ok (.iload 4, 2) := by decide +kernel
theorem dX6_move_59 : decode cX6_move 59 = .ok (.iadd, 1) := by decide +kernel
theorem dX6_move_60 : decode cX6_move 60 = .ok (.iload 5, 2) := by decide +kernel
theorem dX6_move_62 : decode cX6_move 62 = .ok (.invokestatic 58, 3) := by decide +kernel
theorem dX6_move_65 : decode cX6_move 65 = .ok (.return_, 1) := by decide +kernel
theorem dX7_init_0 : decode cX7_init 0 = .ok (.aload_n 0, 1) := by decide +kernel
theorem dX7_init_1 : decode cX7_init 1 = .ok (.invokespecial 3, 3) := by decide +kernel
theorem dX7_init_4 : decode cX7_init 4 = .ok (.aload_n 0, 1) := by decide +kernel
theorem dX7_init_5 : decode cX7_init 5 = .ok (.bipush 25, 2) := by decide +kernel
theorem dX7_init_7 : decode cX7_init 7 = .ok (.newarray .int, 2) := by decide +kernel
theorem dX7_init_9 : decode cX7_init 9 = .ok (.putfield 9, 3) := by decide +kernel
theorem dX7_init_12 : decode cX7_init 12 = .ok (.aload_n 0, 1) := by decide +kernel
theorem dX7_init_13 : decode cX7_init 13 = .ok (.bipush 32, 2) := by decide +kernel
theorem dX7_init_15 : decode cX7_init 15 = .ok (.newarray .int, 2) := by decide +kernel
theorem dX7_init_17 : decode cX7_init 17 = .ok (.putfield 15, 3) := by decide +kernel
theorem dX7_init_20 : decode cX7_init 20 = .ok (.return_, 1) := by decide +kernel
theorem dX7_fewestSteps_0 : decode cX7_fewestSteps 0 = .ok (.aload_n 0, 1) := by decide +kernel
theorem dX7_fewestSteps_1 : decode cX7_fewestSteps 1 = .ok (.getfield 15, 3) := by decide +kernel
theorem dX7_fewestSteps_4 : decode cX7_fewestSteps 4 = .ok (.ldc 18, 2) := by decide +kernel
theorem dX7_fewestSteps_6 : decode cX7_fewestSteps 6 = .ok (.invokestatic 19, 3) := by decide +kernel
theorem dX7_fewestSteps_9 : decode cX7_fewestSteps 9 = .ok (.aload_n 0, 1) := by decide +kernel
theorem dX7_fewestSteps_10 : decode cX7_fewestSteps 10 = .ok (.getfield 15, 3) := by decide +kernel
theorem dX7_fewestSteps_13 : decode cX7_fewestSteps 13 = .ok (.iconst 0, 1) := by decide +kernel
theorem dX7_fewestSteps_14 : decode cX7_fewestSteps 14 = .ok (.iconst 0, 1) := by decide +kernel
theorem dX7_fewestSteps_15 : decode cX7_fewestSteps 15 = .ok (.iastore, 1) := by decide +kernel
theorem dX7_fewestSteps_16 : decode cX7_fewestSteps 16 = .ok (.iconst 0, 1) := by decide +kernel
theorem dX7_fewestSteps_17 : decode cX7_fewestSteps 17 = .ok (.istore 4, 2) := by decide +kernel
theorem dX7_fewestSteps_19 : decode cX7_fewestSteps 19 = .ok (.iconst 0, 1) := by decide +kernel
theorem dX7_fewestSteps_20 : decode cX7_fewestSteps 20 = .ok (.istore 5, 2) := by decide +kernel
theorem dX7_fewestSteps_22 : decode cX7_fewestSteps 22 = .ok (.iload 5, 2) := by decide +kernel
theorem dX7_fewestSteps_24 : decode cX7_fewestSteps 24 = .ok (.bipush 25, 2) := by decide +kernel
theorem dX7_fewestSteps_26 : decode cX7_fewestSteps 26 = .ok (.if_icmp .ge 35, 3) := by decide +kernel
theorem dX7_fewestSteps_29 : decode cX7_fewestSteps 29 = .ok (.iload_n 2, 1) := by decide +kernel
theorem dX7_fewestSteps_30 : decode cX7_fewestSteps 30 = .ok (.iload 5, 2) := by decide +kernel
theorem dX7_fewestSteps_32 : decode cX7_fewestSteps 32 = .ok (.invokestatic 25, 3) := by decide +kernel
theorem dX7_fewestSteps_35 : decode cX7_fewestSteps 35 = .ok (.ifCond .eq 20, 3) := by decide +kernel
theorem dX7_fewestSteps_38 : decode cX7_fewestSteps 38 = .ok (.aload_n 0, 1) := by decide +kernel
theorem dX7_fewestSteps_39 : decode cX7_fewestSteps 39 = .ok (.aload_n 1, 1) := by decide +kernel
theorem dX7_fewestSteps_40 : decode cX7_fewestSteps 40 = .ok (.iload 5, 2) := by decide +kernel
theorem dX7_fewestSteps_42 : decode cX7_fewestSteps 42 = .ok (.invokevirtual 29, 3) := by decide +kernel
theorem dX7_fewestSteps_45 : decode cX7_fewestSteps 45 = .ok (.aload_n 0, 1) := by decide +kernel
theorem dX7_fewestSteps_46 : decode cX7_fewestSteps 46 = .ok (.iload 4, 2) := by decide +kernel
theorem dX7_fewestSteps_48 : decode cX7_fewestSteps 48 = .ok (.aload_n 3, 1) := by decide +kernel
theorem dX7_fewestSteps_49 : decode cX7_fewestSteps 49 = .ok (.invokevirtual 33, 3) := by decide +kernel
theorem dX7_fewestSteps_52 : decode cX7_fewestSteps 52 = .ok (.iinc 4 1, 3) := by decide +kernel
theorem dX7_fewestSteps_55 : decode cX7_fewestSteps 55 = .ok (.iinc 5 1, 3) := by decide +kernel
theorem dX7_fewestSteps_58 : decode cX7_fewestSteps 58 = .ok (.goto (-36), 3) := by decide +kernel
theorem dX7_fewestSteps_61 : decode cX7_fewestSteps 61 = .ok (.iconst 1, 1) := by decide +kernel
theorem dX7_fewestSteps_62 : decode cX7_fewestSteps 62 = .ok (.aload_n 3, 1) := by decide +kernel
theorem dX7_fewestSteps_63 : decode cX7_fewestSteps 63 = .ok (.getfield 37, 3) := by decide +kernel
theorem dX7_fewestSteps_66 : decode cX7_fewestSteps 66 = .ok (.ishl, 1) := by decide +kernel
theorem dX7_fewestSteps_67 : decode cX7_fewestSteps 67 = .ok (.iconst 1, 1) := by decide +kernel
theorem dX7_fewestSteps_68 : decode cX7_fewestSteps 68 = .ok (.isub, 1) := by decide +kernel
theorem dX7_fewestSteps_69 : decode cX7_fewestSteps 69 = .ok (.istore 5, 2) := by decide +kernel
theorem dX7_fewestSteps_71 : decode cX7_fewestSteps 71 = .ok (.iload 5, 2) := by decide +kernel
theorem dX7_fewestSteps_73 : decode cX7_fewestSteps 73 = .ok (.ifCond .lt 25, 3) := by decide +kernel
theorem dX7_fewestSteps_76 : decode cX7_fewestSteps 76 = .ok (.iload 5, 2) := by decide +kernel
theorem dX7_fewestSteps_78 : decode cX7_fewestSteps 78 = .ok (.aload_n 0, 1) := by decide +kernel
theorem dX7_fewestSteps_79 : decode cX7_fewestSteps 79 = .ok (.getfield 15, 3) := by decide +kernel
theorem dX7_fewestSteps_82 : decode cX7_fewestSteps 82 = .ok (.arraylength, 1) := by decide +kernel
theorem dX7_fewestSteps_83 : decode cX7_fewestSteps 83 = .ok (.if_icmp .ge 15, 3) := by decide +kernel
theorem dX7_fewestSteps_86 : decode cX7_fewestSteps 86 = .ok (.aload_n 0, 1) := by decide +kernel
theorem dX7_fewestSteps_87 : decode cX7_fewestSteps 87 = .ok (.getfield 15, 3) := by decide +kernel
theorem dX7_fewestSteps_90 : decode cX7_fewestSteps 90 = .ok (.iload 5, 2) := by decide +kernel
theorem dX7_fewestSteps_92 : decode cX7_fewestSteps 92 = .ok (.iaload, 1) := by decide +kernel
theorem dX7_fewestSteps_93 : decode cX7_fewestSteps 93 = .ok (.ldc 18, 2) := by decide +kernel
theorem dX7_fewestSteps_95 : decode cX7_fewestSteps 95 = .ok (.if_icmp .lt 6, 3) := by decide +kernel
theorem dX7_fewestSteps_98 : decode cX7_fewestSteps 98 = .ok (.bipush (-5), 2) := by decide +kernel
theorem dX7_fewestSteps_100 : decode cX7_fewestSteps 100 = .ok (.ireturn, 1) := by decide +kernel
theorem dX7_fewestSteps_101 : decode cX7_fewestSteps 101 = .ok (.aload_n 0, 1) := by decide +kernel
theorem dX7_fewestSteps_102 : decode cX7_fewestSteps 102 = .ok (.getfield 15, 3) := by decide +kernel
theorem dX7_fewestSteps_105 : decode cX7_fewestSteps 105 = .ok (.iload 5, 2) := by decide +kernel
theorem dX7_fewestSteps_107 : decode cX7_fewestSteps 107 = .ok (.iaload, 1) := by decide +kernel
theorem dX7_fewestSteps_108 : decode cX7_fewestSteps 108 = .ok (.ireturn, 1) := by decide +kernel
theorem dX7_measure_0 : decode cX7_measure 0 = .ok (.aload_n 0, 1) := by decide +kernel
theorem dX7_measure_1 : decode cX7_measure 1 = .ok (.getfield 9, 3) := by decide +kernel
theorem dX7_measure_4 : decode cX7_measure 4 = .ok (.ldc 18, 2) := by decide +kernel
theorem dX7_measure_6 : decode cX7_measure 6 = .ok (.invokestatic 19, 3) := by decide +kernel
theorem dX7_measure_9 : decode cX7_measure 9 = .ok (.iconst 1, 1) := by decide +kernel
theorem dX7_measure_10 : decode cX7_measure 10 = .ok (.iload_n 2, 1) := by decide +kernel
theorem dX7_measure_11 : decode cX7_measure 11 = .ok (.ishl, 1) := by decide +kernel
theorem dX7_measure_12 : decode cX7_measure 12 = .ok (.istore_n 3, 1) := by decide +kernel
theorem dX7_measure_13 : decode cX7_measure 13 = .ok (.iconst 0, 1) := by decide +kernel
theorem dX7_measure_14 : decode cX7_measure 14 = .ok (.istore 4, 2) := by decide +kernel
theorem dX7_measure_16 : decode cX7_measure 16 = .ok (.iload 4, 2) := by decide +kernel
theorem dX7_measure_18 : decode cX7_measure 18 = .ok (.bipush 25, 2) := by decide +kernel
theorem dX7_measure_20 : decode cX7_measure 20 = .ok (.if_icmp .ge 64, 3) := by decide +kernel
theorem dX7_measure_23 : decode cX7_measure 23 = .ok (.iconst 0, 1) := by decide +kernel
theorem dX7_measure_24 : decode cX7_measure 24 = .ok (.istore 5, 2) := by decide +kernel
theorem dX7_measure_26 : decode cX7_measure 26 = .ok (.iload 5, 2) := by decide +kernel
theorem dX7_measure_28 : decode cX7_measure 28 = .ok (.aload_n 0, 1) := by decide +kernel
theorem dX7_measure_29 : decode cX7_measure 29 = .ok (.getfield 9, 3) := by decide +kernel
theorem dX7_measure_32 : decode cX7_measure 32 = .ok (.arraylength, 1) := by decide +kernel
theorem dX7_measure_33 : decode cX7_measure 33 = .ok (.if_icmp .ge 39, 3) := by decide +kernel
theorem dX7_measure_36 : decode cX7_measure 36 = .ok (.iload_n 3, 1) := by decide +kernel
theorem dX7_measure_37 : decode cX7_measure 37 = .ok (.iload 5, 2) := by decide +kernel
theorem dX7_measure_39 : decode cX7_measure 39 = .ok (.invokestatic 25, 3) := by decide +kernel
theorem dX7_measure_42 : decode cX7_measure 42 = .ok (.ifCond .eq 24, 3) := by decide +kernel
theorem dX7_measure_45 : decode cX7_measure 45 = .ok (.aload_n 0, 1) := by decide +kernel
theorem dX7_measure_46 : decode cX7_measure 46 = .ok (.getfield 9, 3) := by decide +kernel
theorem dX7_measure_49 : decode cX7_measure 49 = .ok (.iload 5, 2) := by decide +kernel
theorem dX7_measure_51 : decode cX7_measure 51 = .ok (.iaload, 1) := by decide +kernel
theorem dX7_measure_52 : decode cX7_measure 52 = .ok (.ldc 18, 2) := by decide +kernel
theorem dX7_measure_54 : decode cX7_measure 54 = .ok (.if_icmp .ne 12, 3) := by decide +kernel
theorem dX7_measure_57 : decode cX7_measure 57 = .ok (.aload_n 0, 1) := by decide +kernel
theorem dX7_measure_58 : decode cX7_measure 58 = .ok (.getfield 9, 3) := by decide +kernel
theorem dX7_measure_61 : decode cX7_measure 61 = .ok (.iload 5, 2) := by decide +kernel
theorem dX7_measure_63 : decode cX7_measure 63 = .ok (.iload 4, 2) := by decide +kernel
theorem dX7_measure_65 : decode cX7_measure 65 = .ok (.iastore, 1) := by decide +kernel
theorem dX7_measure_66 : decode cX7_measure 66 = .ok (.iinc 5 1, 3) := by decide +kernel
theorem dX7_measure_69 : decode cX7_measure 69 = .ok (.goto (-43), 3) := by decide +kernel
theorem dX7_measure_72 : decode cX7_measure 72 = .ok (.aload_n 1, 1) := by decide +kernel
theorem dX7_measure_73 : decode cX7_measure 73 = .ok (.iload_n 3, 1) := by decide +kernel
theorem dX7_measure_74 : decode cX7_measure 74 = .ok (.invokevirtual 43, 3) := by decide +kernel
theorem dX7_measure_77 : decode cX7_measure 77 = .ok (.istore_n 3, 1) := by decide +kernel
theorem dX7_measure_78 : decode cX7_measure 78 = .ok (.iinc 4 1, 3) := by decide +kernel
theorem dX7_measure_81 : decode cX7_measure 81 = .ok (.goto (-65), 3) := by decide +kernel
theorem dX7_measure_84 : decode cX7_measure 84 = .ok (.return_, 1) := by decide +kernel
theorem dX7_bring_0 : decode cX7_bring 0 = .ok (.iconst 0, 1) := by decide +kernel
theorem dX7_bring_1 : decode cX7_bring 1 = .ok (.istore_n 3, 1) := by decide +kernel
theorem dX7_bring_2 : decode cX7_bring 2 = .ok (.iload_n 3, 1) := by decide +kernel
theorem dX7_bring_3 : decode cX7_bring 3 = .ok (.aload_n 0, 1) := by decide +kernel
theorem dX7_bring_4 : decode cX7_bring 4 = .ok (.getfield 15, 3) := by decide +kernel
theorem dX7_bring_7 : decode cX7_bring 7 = .ok (.arraylength, 1) := by decide +kernel
theorem dX7_bring_8 : decode cX7_bring 8 = .ok (.if_icmp .ge 34, 3) := by decide +kernel
theorem dX7_bring_11 : decode cX7_bring 11 = .ok (.iload_n 3, 1) := by decide +kernel
theorem dX7_bring_12 : decode cX7_bring 12 = .ok (.invokestatic 49, 3) := by decide +kernel
theorem dX7_bring_15 : decode cX7_bring 15 = .ok (.iload_n 1, 1) := by decide +kernel
theorem dX7_bring_16 : decode cX7_bring 16 = .ok (.if_icmp .ne 20, 3) := by decide +kernel
theorem dX7_bring_19 : decode cX7_bring 19 = .ok (.aload_n 0, 1) := by decide +kernel
theorem dX7_bring_20 : decode cX7_bring 20 = .ok (.getfield 15, 3) := by decide +kernel
theorem dX7_bring_23 : decode cX7_bring 23 = .ok (.iload_n 3, 1) := by decide +kernel
theorem dX7_bring_24 : decode cX7_bring 24 = .ok (.iaload, 1) := by decide +kernel
theorem dX7_bring_25 : decode cX7_bring 25 = .ok (.ldc 18, 2) := by decide +kernel
theorem dX7_bring_27 : decode cX7_bring 27 = .ok (.if_icmp .ge 9, 3) := by decide +kernel
theorem dX7_bring_30 : decode cX7_bring 30 = .ok (.aload_n 0, 1) := by decide +kernel
theorem dX7_bring_31 : decode cX7_bring 31 = .ok (.iload_n 3, 1) := by decide +kernel
theorem dX7_bring_32 : decode cX7_bring 32 = .ok (.aload_n 2, 1) := by decide +kernel
theorem dX7_bring_33 : decode cX7_bring 33 = .ok (.invokevirtual 54, 3) := by decide +kernel
theorem dX7_bring_36 : decode cX7_bring 36 = .ok (.iinc 3 1, 3) := by decide +kernel
theorem dX7_bring_39 : decode cX7_bring 39 = .ok (.goto (-37), 3) := by decide +kernel
theorem dX7_bring_42 : decode cX7_bring 42 = .ok (.return_, 1) := by decide +kernel
theorem dX7_bringOne_0 : decode cX7_bringOne 0 = .ok (.iconst 0, 1) := by decide +kernel
theorem dX7_bringOne_1 : decode cX7_bringOne 1 = .ok (.istore_n 3, 1) := by decide +kernel
theorem dX7_bringOne_2 : decode cX7_bringOne 2 = .ok (.iload_n 3, 1) := by decide +kernel
theorem dX7_bringOne_3 : decode cX7_bringOne 3 = .ok (.aload_n 2, 1) := by decide +kernel
theorem dX7_bringOne_4 : decode cX7_bringOne 4 = .ok (.getfield 37, 3) := by decide +kernel
theorem dX7_bringOne_7 : decode cX7_bringOne 7 = .ok (.if_icmp .ge 85, 3) := by decide +kernel
theorem dX7_bringOne_10 : decode cX7_bringOne 10 = .ok (.aload_n 2, 1) := by decide +kernel
theorem dX7_bringOne_11 : decode cX7_bringOne 11 = .ok (.iload_n 3, 1) := by decide +kernel
theorem dX7_bringOne_12 : decode cX7_bringOne 12 = .ok (.invokevirtual 57, 3) := by decide +kernel
theorem dX7_bringOne_15 : decode cX7_bringOne 15 = .ok (.istore 4, 2) := by decide +kernel
theorem dX7_bringOne_17 : decode cX7_bringOne 17 = .ok (.iload_n 1, 1) := by decide +kernel
theorem dX7_bringOne_18 : decode cX7_bringOne 18 = .ok (.iconst 1, 1) := by decide +kernel
theorem dX7_bringOne_19 : decode cX7_bringOne 19 = .ok (.iload_n 3, 1) := by decide +kernel
theorem dX7_bringOne_20 : decode cX7_bringOne 20 = .ok (.ishl, 1) := by decide +kernel
theorem dX7_bringOne_21 : decode cX7_bringOne 21 = .ok (.ior, 1) := by decide +kernel
theorem dX7_bringOne_22 : decode cX7_bringOne 22 = .ok (.istore 5, 2) := by decide +kernel
theorem dX7_bringOne_24 : decode cX7_bringOne 24 = .ok (.iload 5, 2) := by decide +kernel
theorem dX7_bringOne_26 : decode cX7_bringOne 26 = .ok (.iload_n 1, 1) := by decide +kernel
theorem dX7_bringOne_27 : decode cX7_bringOne 27 = .ok (.if_icmp .eq 59, 3) := by decide +kernel
theorem dX7_bringOne_30 : decode cX7_bringOne 30 = .ok (.iload 5, 2) := by decide +kernel
theorem dX7_bringOne_32 : decode cX7_bringOne 32 = .ok (.aload_n 0, 1) := by decide +kernel
theorem dX7_bringOne_33 : decode cX7_bringOne 33 = .ok (.getfield 15, 3) := by decide +kernel
theorem dX7_bringOne_36 : decode cX7_bringOne 36 = .ok (.arraylength, 1) := by decide +kernel
theorem dX7_bringOne_37 : decode cX7_bringOne 37 = .ok (.if_icmp .ge 49, 3) := by decide +kernel
theorem dX7_bringOne_40 : decode cX7_bringOne 40 = .ok (.iload 4, 2) := by decide +kernel
theorem dX7_bringOne_42 : decode cX7_bringOne 42 = .ok (.ifCond .lt 44, 3) := by decide +kernel
theorem dX7_bringOne_45 : decode cX7_bringOne 45 = .ok (.iload 4, 2) := by decide +kernel
theorem dX7_bringOne_47 : decode cX7_bringOne 47 = .ok (.aload_n 0, 1) := by decide +kernel
theorem dX7_bringOne_48 : decode cX7_bringOne 48 = .ok (.getfield 9, 3) := by decide +kernel
theorem dX7_bringOne_51 : decode cX7_bringOne 51 = .ok (.arraylength, 1) := by decide +kernel
theorem dX7_bringOne_52 : decode cX7_bringOne 52 = .ok (.if_icmp .ge 34, 3) := by decide +kernel
theorem dX7_bringOne_55 : decode cX7_bringOne 55 = .ok (.aload_n 0, 1) := by decide +kernel
theorem dX7_bringOne_56 : decode cX7_bringOne 56 = .ok (.getfield 15, 3) := by decide +kernel
theorem dX7_bringOne_59 : decode cX7_bringOne 59 = .ok (.iload 5, 2) := by decide +kernel
theorem dX7_bringOne_61 : decode cX7_bringOne 61 = .ok (.aload_n 0, 1) := by decide +kernel
theorem dX7_bringOne_62 : decode cX7_bringOne 62 = .ok (.getfield 15, 3) := by decide +kernel
theorem dX7_bringOne_65 : decode cX7_bringOne 65 = .ok (.iload 5, 2) := by decide +kernel
theorem dX7_bringOne_67 : decode cX7_bringOne 67 = .ok (.iaload, 1) := by decide +kernel
theorem dX7_bringOne_68 : decode cX7_bringOne 68 = .ok (.aload_n 0, 1) := by decide +kernel
theorem dX7_bringOne_69 : decode cX7_bringOne 69 = .ok (.getfield 15, 3) := by decide +kernel
theorem dX7_bringOne_72 : decode cX7_bringOne 72 = .ok (.iload_n 1, 1) := by decide +kernel
theorem dX7_bringOne_73 : decode cX7_bringOne 73 = .ok (.iaload, 1) := by decide +kernel
theorem dX7_bringOne_74 : decode cX7_bringOne 74 = .ok (.aload_n 0, 1) := by decide +kernel
theorem dX7_bringOne_75 : decode cX7_bringOne 75 = .ok (.getfield 9, 3) := by decide +kernel
theorem dX7_bringOne_78 : decode cX7_bringOne 78 = .ok (.iload 4, 2) := by decide +kernel
theorem dX7_bringOne_80 : decode cX7_bringOne 80 = .ok (.iaload, 1) := by decide +kernel
theorem dX7_bringOne_81 : decode cX7_bringOne 81 = .ok (.iadd, 1) := by decide +kernel
theorem dX7_bringOne_82 : decode cX7_bringOne 82 = .ok (.invokestatic 60, 3) := by decide +kernel
theorem dX7_bringOne_85 : decode cX7_bringOne 85 = .ok (.iastore, 1) := by decide +kernel
theorem dX7_bringOne_86 : decode cX7_bringOne 86 = .ok (.iinc 3 1, 3) := by decide +kernel
theorem dX7_bringOne_89 : decode cX7_bringOne 89 = .ok (.goto (-87), 3) := by decide +kernel
theorem dX7_bringOne_92 : decode cX7_bringOne 92 = .ok (.return_, 1) := by decide +kernel
theorem dX8_init_0 : decode cX8_init 0 = .ok (.aload_n 0, 1) := by decide +kernel
theorem dX8_init_1 : decode cX8_init 1 = .ok (.invokespecial 3, 3) := by decide +kernel
theorem dX8_init_4 : decode cX8_init 4 = .ok (.aload_n 0, 1) := by decide +kernel
theorem dX8_init_5 : decode cX8_init 5 = .ok (.iconst 4, 1) := by decide +kernel
theorem dX8_init_6 : decode cX8_init 6 = .ok (.putfield 9, 3) := by decide +kernel
theorem dX8_init_9 : decode cX8_init 9 = .ok (.aload_n 0, 1) := by decide +kernel
theorem dX8_init_10 : decode cX8_init 10 = .ok (.iconst 0, 1) := by decide +kernel
theorem dX8_init_11 : decode cX8_init 11 = .ok (.putfield 15, 3) := by decide +kernel
theorem dX8_init_14 : decode cX8_init 14 = .ok (.aload_n 0, 1) := by decide +kernel
theorem dX8_init_15 : decode cX8_init 15 = .ok (.iconst 0, 1) := by decide +kernel
theorem dX8_init_16 : decode cX8_init 16 = .ok (.putfield 19, 3) := by decide +kernel
theorem dX8_init_19 : decode cX8_init 19 = .ok (.aload_n 0, 1) := by decide +kernel
theorem dX8_init_20 : decode cX8_init 20 = .ok (.iconst 0, 1) := by decide +kernel
theorem dX8_init_21 : decode cX8_init 21 = .ok (.putfield 22, 3) := by decide +kernel
theorem dX8_init_24 : decode cX8_init 24 = .ok (.return_, 1) := by decide +kernel
theorem dX8_layOut_0 : decode cX8_layOut 0 = .ok (.aload_n 0, 1) := by decide +kernel
theorem dX8_layOut_1 : decode cX8_layOut 1 = .ok (.aload_n 1, 1) := by decide +kernel
theorem dX8_layOut_2 : decode cX8_layOut 2 = .ok (.getfield 25, 3) := by decide +kernel
theorem dX8_layOut_5 : decode cX8_layOut 5 = .ok (.putfield 9, 3) := by decide +kernel
theorem dX8_layOut_8 : decode cX8_layOut 8 = .ok (.aload_n 0, 1) := by decide +kernel
theorem dX8_layOut_9 : decode cX8_layOut 9 = .ok (.aload_n 1, 1) := by decide +kernel
theorem dX8_layOut_10 : decode cX8_layOut 10 = .ok (.getfield 28, 3) := by decide +kernel
theorem dX8_layOut_13 : decode cX8_layOut 13 = .ok (.putfield 15, 3) := by decide +kernel
theorem dX8_layOut_16 : decode cX8_layOut 16 = .ok (.aload_n 0, 1) := by decide +kernel
theorem dX8_layOut_17 : decode cX8_layOut 17 = .ok (.aload_n 1, 1) := by decide +kernel
theorem dX8_layOut_18 : decode cX8_layOut 18 = .ok (.getfield 29, 3) := by decide +kernel
theorem dX8_layOut_21 : decode cX8_layOut 21 = .ok (.putfield 19, 3) := by decide +kernel
theorem dX8_layOut_24 : decode cX8_layOut 24 = .ok (.aload_n 0, 1) := by decide +kernel
theorem dX8_layOut_25 : decode cX8_layOut 25 = .ok (.aload_n 1, 1) := by decide +kernel
theorem dX8_layOut_26 : decode cX8_layOut 26 = .ok (.getfield 29, 3) := by decide +kernel
theorem dX8_layOut_29 : decode cX8_layOut 29 = .ok (.aload_n 1, 1) := by decide +kernel
theorem dX8_layOut_30 : decode cX8_layOut 30 = .ok (.getfield 30, 3) := by decide +kernel
theorem dX8_layOut_33 : decode cX8_layOut 33 = .ok (.ior, 1) := by decide +kernel
theorem dX8_layOut_34 : decode cX8_layOut 34 = .ok (.putfield 22, 3) := by decide +kernel
theorem dX8_layOut_37 : decode cX8_layOut 37 = .ok (.return_, 1) := by decide +kernel
theorem dX8_all_0 : decode cX8_all 0 = .ok (.aload_n 0, 1) := by decide +kernel
theorem dX8_all_1 : decode cX8_all 1 = .ok (.getfield 9, 3) := by decide +kernel
theorem dX8_all_4 : decode cX8_all 4 = .ok (.invokestatic 33, 3) := by decide +kernel
theorem dX8_all_7 : decode cX8_all 7 = .ok (.ireturn, 1) := by decide +kernel
theorem dX8_free_0 : decode cX8_free 0 = .ok (.aload_n 0, 1) := by decide +kernel
theorem dX8_free_1 : decode cX8_free 1 = .ok (.invokevirtual 37, 3) := by decide +kernel
theorem dX8_free_4 : decode cX8_free 4 = .ok (.aload_n 0, 1) := by decide +kernel
theorem dX8_free_5 : decode cX8_free 5 = .ok (.getfield 22, 3) := by decide +kernel
theorem dX8_free_8 : decode cX8_free 8 = .ok (.iconst (-1), 1) := by decide +kernel
theorem dX8_free_9 : decode cX8_free 9 = .ok (.ixor, 1) := by decide +kernel
theorem dX8_free_10 : decode cX8_free 10 = .ok (.iand, 1) := by decide +kernel
theorem dX8_free_11 : decode cX8_free 11 = .ok (.ireturn, 1) := by decide +kernel
theorem dX8_view_0 : decode cX8_view 0 = .ok (.iload_n 1, 1) := by decide +kernel
theorem dX8_view_1 : decode cX8_view 1 = .ok (.iconst 5, 1) := by decide +kernel
theorem dX8_view_2 : decode cX8_view 2 = .ok (.if_icmp .ne 12, 3) := by decide +kernel
theorem dX8_view_5 : decode cX8_view 5 = .ok (.iload_n 2, 1) := by decide +kernel
theorem dX8_view_6 : decode cX8_view 6 = .ok (.iconst 4, 1) := by decide +kernel
theorem dX8_view_7 : decode cX8_view 7 = .ok (.if_icmp .le 7, 3) := by decide +kernel
theorem dX8_view_10 : decode cX8_view 10 = .ok (.iconst 1, 1) := by decide +kernel
theorem dX8_view_11 : decode cX8_view 11 = .ok (.goto 4, 3) := by decide +kernel
theorem dX8_view_14 : decode cX8_view 14 = .ok (.iconst 0, 1) := by decide +kernel
theorem dX8_view_15 : decode cX8_view 15 = .ok (.istore 5, 2) := by decide +kernel
theorem dX8_view_17 : decode cX8_view 17 = .ok (.iload_n 1, 1) := by decide +kernel
theorem dX8_view_18 : decode cX8_view 18 = .ok (.iconst 3, 1) := by decide +kernel
theorem dX8_view_19 : decode cX8_view 19 = .ok (.if_icmp .eq 14, 3) := by decide +kernel
theorem dX8_view_22 : decode cX8_view 22 = .ok (.iload_n 1, 1) := by decide +kernel
theorem dX8_view_23 : decode cX8_view 23 = .ok (.bipush 6, 2) := by decide +kernel
theorem dX8_view_25 : decode cX8_view 25 = .ok (.if_icmp .eq 8, 3) := by decide +kernel
theorem dX8_view_28 : decode cX8_view 28 = .ok (.iload 5, 2) := by decide +kernel
theorem dX8_view_30 : decode cX8_view 30 = .ok (.ifCond .eq 7, 3) := by decide +kernel
theorem dX8_view_33 : decode cX8_view 33 = .ok (.iconst 1, 1) := by decide +kernel
theorem dX8_view_34 : decode cX8_view 34 = .ok (.goto 4, 3) := by decide +kernel
theorem dX8_view_37 : decode cX8_view 37 = .ok (.iconst 5, 1) := by decide +kernel
theorem dX8_view_38 : decode cX8_view 38 = .ok (.istore 6, 2) := by decide +kernel
theorem dX8_view_40 : decode cX8_view 40 = .ok (.iload 5, 2) := by decide +kernel
theorem dX8_view_42 : decode cX8_view 42 = .ok (.ifCond .eq 8, 3) := by decide +kernel
theorem dX8_view_45 : decode cX8_view 45 = .ok (.ldc 41, 2) := by decide +kernel
theorem dX8_view_47 : decode cX8_view 47 = .ok (.goto 22, 3) := by decide +kernel
theorem dX8_view_50 : decode cX8_view 50 = .ok (.iload_n 1, 1) := by decide +kernel
theorem dX8_view_51 : decode cX8_view 51 = .ok (.bipush 6, 2) := by decide +kernel
theorem dX8_view_53 : decode cX8_view 53 = .ok (.if_icmp .ne 11, 3) := by decide +kernel
theorem dX8_view_56 : decode cX8_view 56 = .ok (.iload_n 3, 1) := by decide +kernel
theorem dX8_view_57 : decode cX8_view 57 = .ok (.sipush 255, 3) := by decide +kernel
theorem dX8_view_60 : decode cX8_view 60 = .ok (.iand, 1) := by decide +kernel
theorem dX8_view_61 : decode cX8_view 61 = .ok (.goto 8, 3) := by decide +kernel
theorem dX8_view_64 : decode cX8_view 64 = .ok (.aload_n 0, 1) := by decide +kernel
theorem dX8_view_65 : decode cX8_view 65 = .ok (.iload_n 1, 1) := by decide +kernel
theorem dX8_view_66 : decode cX8_view 66 = .ok (.invokevirtual 42, 3) := by decide +kernel
theorem dX8_view_69 : decode cX8_view 69 = .ok (.istore 7, 2) := by decide +kernel
theorem dX8_view_71 : decode cX8_view 71 = .ok (.iconst 0, 1) := by decide +kernel
theorem dX8_view_72 : decode cX8_view 72 = .ok (.istore 8, 2) := by decide +kernel
theorem dX8_view_74 : decode cX8_view 74 = .ok (.iconst 0, 1) := by decide +kernel
theorem dX8_view_75 : decode cX8_view 75 = .ok (.istore 9, 2) := by decide +kernel
theorem dX8_view_77 : decode cX8_view 77 = .ok (.iload 9, 2) := by decide +kernel
theorem dX8_view_79 : decode cX8_view 79 = .ok (.getstatic 45, 3) := by decide +kernel
theorem dX8_view_82 : decode cX8_view 82 = .ok (.arraylength, 1) := by decide +kernel
theorem dX8_view_83 : decode cX8_view 83 = .ok (.if_icmp .ge 53, 3) := by decide +kernel
theorem dX8_view_86 : decode cX8_view 86 = .ok (.iload 9, 2) := by decide +kernel
theorem dX8_view_88 : decode cX8_view 88 = .ok (.getstatic 49, 3) := by decide +kernel
theorem dX8_view_91 : decode cX8_view 91 = .ok (.arraylength, 1) := by decide +kernel
theorem dX8_view_92 : decode cX8_view 92 = .ok (.if_icmp .ge 44, 3) := by decide +kernel
theorem dX8_view_95 : decode cX8_view 95 = .ok (.iload 7, 2) := by decide +kernel
theorem dX8_view_97 : decode cX8_view 97 = .ok (.iload 9, 2) := by decide +kernel
theorem dX8_view_99 : decode cX8_view 99 = .ok (.ishr, 1) := by decide +kernel
theorem dX8_view_100 : decode cX8_view 100 = .ok (.iconst 1, 1) := by decide +kernel
theorem dX8_view_101 : decode cX8_view 101 = .ok (.iand, 1) := by decide +kernel
theorem dX8_view_102 : decode cX8_view 102 = .ok (.ifCond .eq 28, 3) := by decide +kernel
theorem dX8_view_105 : decode cX8_view 105 = .ok (.iload 8, 2) := by decide +kernel
theorem dX8_view_107 : decode cX8_view 107 = .ok (.aload_n 0, 1) := by decide +kernel
theorem dX8_view_108 : decode cX8_view 108 = .ok (.iload 4, 2) := by decide +kernel
theorem dX8_view_110 : decode cX8_view 110 = .ok (.getstatic 45, 3) := by decide +kernel
theorem dX8_view_113 : decode cX8_view 113 = .ok (.iload 9, 2) := by decide +kernel
theorem dX8_view_115 : decode cX8_view 115 = .ok (.iaload, 1) := by decide +kernel
theorem dX8_view_116 : decode cX8_view 116 = .ok (.getstatic 49, 3) := by decide +kernel
theorem dX8_view_119 : decode cX8_view 119 = .ok (.iload 9, 2) := by decide +kernel
theorem dX8_view_121 : decode cX8_view 121 = .ok (.iaload, 1) := by decide +kernel
theorem dX8_view_122 : decode cX8_view 122 = .ok (.iload 6, 2) := by decide +kernel
theorem dX8_view_124 : decode cX8_view 124 = .ok (.invokevirtual 52, 3) := by decide +kernel
theorem dX8_view_127 : decode cX8_view 127 = .ok (.ior, 1) := by decide +kernel
theorem dX8_view_128 : decode cX8_view 128 = .ok (.istore 8, 2) := by decide +kernel
theorem dX8_view_130 : decode cX8_view 130 = .ok (.iinc 9 1, 3) := by decide +kernel
theorem dX8_view_133 : decode cX8_view 133 = .ok (.goto (-56), 3) := by decide +kernel
theorem dX8_view_136 : decode cX8_view 136 = .ok (.iload 8, 2) := by decide +kernel
theorem dX8_view_138 : decode cX8_view 138 = .ok (.ireturn, 1) := by decide +kernel
theorem dX8_waysOf_0 : decode cX8_waysOf 0 = .ok (.iload_n 1, 1) := by decide +kernel
theorem dX8_waysOf_1 : decode cX8_waysOf 1 = .ok (.tableswitch 54 1 5 #[35, 38, 46, 50, 42], 35) := by decide +kernel
theorem dX8_waysOf_36 : decode cX8_waysOf 36 = .ok (.bipush 15, 2) := by decide +kernel
theorem dX8_waysOf_38 : decode cX8_waysOf 38 = .ok (.ireturn, 1) := by decide +kernel
theorem dX8_waysOf_39 : decode cX8_waysOf 39 = .ok (.sipush 240, 3) := by decide +kernel
theorem dX8_waysOf_42 : decode cX8_waysOf 42 = .ok (.ireturn, 1) := by decide +kernel
theorem dX8_waysOf_43 : decode cX8_waysOf 43 = .ok (.sipush 240, 3) := by decide +kernel
theorem dX8_waysOf_46 : decode cX8_waysOf 46 = .ok (.ireturn, 1) := by decide +kernel
theorem dX8_waysOf_47 : decode cX8_waysOf 47 = .ok (.sipush 255, 3) := by decide +kernel
theorem dX8_waysOf_50 : decode cX8_waysOf 50 = .ok (.ireturn, 1) := by decide +kernel
theorem dX8_waysOf_51 : decode cX8_waysOf 51 = .ok (.sipush 255, 3) := by decide +kernel
theorem dX8_waysOf_54 : decode cX8_waysOf 54 = .ok (.ireturn, 1) := by decide +kernel
theorem dX8_waysOf_55 : decode cX8_waysOf 55 = .ok (.iconst 0, 1) := by decide +kernel
theorem dX8_waysOf_56 : decode cX8_waysOf 56 = .ok (.ireturn, 1) := by decide +kernel
theorem dX8_lookAlong_0 : decode cX8_lookAlong 0 = .ok (.aload_n 0, 1) := by decide +kernel
theorem dX8_lookAlong_1 : decode cX8_lookAlong 1 = .ok (.iload_n 1, 1) := by decide +kernel
theorem dX8_lookAlong_2 : decode cX8_lookAlong 2 = .ok (.invokevirtual 56, 3) := by decide +kernel
theorem dX8_lookAlong_5 : decode cX8_lookAlong 5 = .ok (.istore 5, 2) := by decide +kernel
theorem dX8_lookAlong_7 : decode cX8_lookAlong 7 = .ok (.aload_n 0, 1) := by decide +kernel
theorem dX8_lookAlong_8 : decode cX8_lookAlong 8 = .ok (.iload_n 1, 1) := by decide +kernel
theorem dX8_lookAlong_9 : decode cX8_lookAlong 9 = .ok (.invokevirtual 59, 3) := by decide +kernel
theorem dX8_lookAlong_12 : decode cX8_lookAlong 12 = .ok (.istore 6, 2) := by decide +kernel
theorem dX8_lookAlong_14 : decode cX8_lookAlong 14 = .ok (.iconst 0, 1) := by decide +kernel
theorem dX8_lookAlong_15 : decode cX8_lookAlong 15 = .ok (.istore 7, 2) := by decide +kernel
theorem dX8_lookAlong_17 : decode cX8_lookAlong 17 = .ok (.iconst 0, 1) := by decide +kernel
theorem dX8_lookAlong_18 : decode cX8_lookAlong 18 = .ok (.istore 8, 2) := by decide +kernel
theorem dX8_lookAlong_20 : decode cX8_lookAlong 20 = .ok (.iload 8, 2) := by decide +kernel
theorem dX8_lookAlong_22 : decode cX8_lookAlong 22 = .ok (.iload 4, 2) := by decide +kernel
theorem dX8_lookAlong_24 : decode cX8_lookAlong 24 = .ok (.if_icmp .ge 81, 3) := by decide +kernel
theorem dX8_lookAlong_27 : decode cX8_lookAlong 27 = .ok (.aload_n 0, 1) := by decide +kernel
theorem dX8_lookAlong_28 : decode cX8_lookAlong 28 = .ok (.iload 5, 2) := by decide +kernel
theorem dX8_lookAlong_30 : decode cX8_lookAlong 30 = .ok (.iload_n 2, 1) := by decide +kernel
theorem dX8_lookAlong_31 : decode cX8_lookAlong 31 = .ok (.iadd, 1) := by decide +kernel
theorem dX8_lookAlong_32 : decode cX8_lookAlong 32 = .ok (.invokevirtual 62, 3) := by decide +kernel
theorem dX8_lookAlong_35 : decode cX8_lookAlong 35 = .ok (.istore 5, 2) := by decide +kernel
theorem dX8_lookAlong_37 : decode cX8_lookAlong 37 = .ok (.aload_n 0, 1) := by decide +kernel
theorem dX8_lookAlong_38 : decode cX8_lookAlong 38 = .ok (.iload 6, 2) := by decide +kernel
theorem dX8_lookAlong_40 : decode cX8_lookAlong 40 = .ok (.iload_n 3, 1) := by decide +kernel
theorem dX8_lookAlong_41 : decode cX8_lookAlong 41 = .ok (.iadd, 1) := by decide +kernel
theorem dX8_lookAlong_42 : decode cX8_lookAlong 42 = .ok (.invokevirtual 62, 3) := by decide +kernel
theorem dX8_lookAlong_45 : decode cX8_lookAlong 45 = .ok (.istore 6, 2) := by decide +kernel
theorem dX8_lookAlong_47 : decode cX8_lookAlong 47 = .ok (.iload 6, 2) := by decide +kernel
theorem dX8_lookAlong_49 : decode cX8_lookAlong 49 = .ok (.aload_n 0, 1) := by decide +kernel
theorem dX8_lookAlong_50 : decode cX8_lookAlong 50 = .ok (.getfield 9, 3) := by decide +kernel
theorem dX8_lookAlong_53 : decode cX8_lookAlong 53 = .ok (.imul, 1) := by decide +kernel
theorem dX8_lookAlong_54 : decode cX8_lookAlong 54 = .ok (.iload 5, 2) := by decide +kernel
theorem dX8_lookAlong_56 : decode cX8_lookAlong 56 = .ok (.iadd, 1) := by decide +kernel
theorem dX8_lookAlong_57 : decode cX8_lookAlong 57 = .ok (.istore 9, 2) := by decide +kernel
theorem dX8_lookAlong_59 : decode cX8_lookAlong 59 = .ok (.iload 5, 2) := by decide +kernel
theorem dX8_lookAlong_61 : decode cX8_lookAlong 61 = .ok (.ifCond .lt 44, 3) := by decide +kernel
theorem dX8_lookAlong_64 : decode cX8_lookAlong 64 = .ok (.iload 6, 2) := by decide +kernel
theorem dX8_lookAlong_66 : decode cX8_lookAlong 66 = .ok (.ifCond .lt 39, 3) := by decide +kernel
theorem dX8_lookAlong_69 : decode cX8_lookAlong 69 = .ok (.iload 9, 2) := by decide +kernel
theorem dX8_lookAlong_71 : decode cX8_lookAlong 71 = .ok (.iload_n 1, 1) := by decide +kernel
theorem dX8_lookAlong_72 : decode cX8_lookAlong 72 = .ok (.if_icmp .eq 33, 3) := by decide +kernel
theorem dX8_lookAlong_75 : decode cX8_lookAlong 75 = .ok (.aload_n 0, 1) := by decide +kernel
theorem dX8_lookAlong_76 : decode cX8_lookAlong 76 = .ok (.getfield 19, 3) := by decide +kernel
theorem dX8_lookAlong_79 : decode cX8_lookAlong 79 = .ok (.iload 9, 2) := by decide +kernel
theorem dX8_lookAlong_81 : decode cX8_lookAlong 81 = .ok (.invokestatic 65, 3) := by decide +kernel
theorem dX8_lookAlong_84 : decode cX8_lookAlong 84 = .ok (.ifCond .eq 6, 3) := by decide +kernel
theorem dX8_lookAlong_87 : decode cX8_lookAlong 87 = .ok (.goto 18, 3) := by decide +kernel
theorem dX8_lookAlong_90 : decode cX8_lookAlong 90 = .ok (.iload 7, 2) := by decide +kernel
theorem dX8_lookAlong_92 : decode cX8_lookAlong 92 = .ok (.iconst 1, 1) := by decide +kernel
theorem dX8_lookAlong_93 : decode cX8_lookAlong 93 = .ok (.iload 9, 2) := by decide +kernel
theorem dX8_lookAlong_95 : decode cX8_lookAlong 95 = .ok (.ishl, 1) := by decide +kernel
theorem dX8_lookAlong_96 : decode cX8_lookAlong 96 = .ok (.ior, 1) := by decide +kernel
theorem dX8_lookAlong_97 : decode cX8_lookAlong 97 = .ok (.istore 7, 2) := by decide +kernel
theorem dX8_lookAlong_99 : decode cX8_lookAlong 99 = .ok (.iinc 8 1, 3) := by decide +kernel
theorem dX8_lookAlong_102 : decode cX8_lookAlong 102 = .ok (.goto (-82), 3) := by decide +kernel
theorem dX8_lookAlong_105 : decode cX8_lookAlong 105 = .ok (.iload 7, 2) := by decide +kernel
theorem dX8_lookAlong_107 : decode cX8_lookAlong 107 = .ok (.ireturn, 1) := by decide +kernel
theorem dX8_goOn_0 : decode cX8_goOn 0 = .ok (.iload_n 1, 1) := by decide +kernel
theorem dX8_goOn_1 : decode cX8_goOn 1 = .ok (.ifCond .lt 13, 3) := by decide +kernel
theorem dX8_goOn_4 : decode cX8_goOn 4 = .ok (.iload_n 1, 1) := by decide +kernel
theorem dX8_goOn_5 : decode cX8_goOn 5 = .ok (.aload_n 0, 1) := by decide +kernel
theorem dX8_goOn_6 : decode cX8_goOn 6 = .ok (.getfield 9, 3) := by decide +kernel
theorem dX8_goOn_9 : decode cX8_goOn 9 = .ok (.if_icmp .ge 5, 3) := by decide +kernel
theorem dX8_goOn_12 : decode cX8_goOn 12 = .ok (.iload_n 1, 1) := by decide +kernel
theorem dX8_goOn_13 : decode cX8_goOn 13 = .ok (.ireturn, 1) := by decide +kernel
theorem dX8_goOn_14 : decode cX8_goOn 14 = .ok (.aload_n 0, 1) := by decide +kernel
theorem dX8_goOn_15 : decode cX8_goOn 15 = .ok (.getfield 15, 3) := by decide +kernel
theorem dX8_goOn_18 : decode cX8_goOn 18 = .ok (.ifCond .eq 21, 3) := by decide +kernel
theorem dX8_goOn_21 : decode cX8_goOn 21 = .ok (.aload_n 0, 1) := by decide +kernel
theorem dX8_goOn_22 : decode cX8_goOn 22 = .ok (.getfield 9, 3) := by decide +kernel
theorem dX8_goOn_25 : decode cX8_goOn 25 = .ok (.ifCond .le 14, 3) := by decide +kernel
theorem dX8_goOn_28 : decode cX8_goOn 28 = .ok (.iload_n 1, 1) := by decide +kernel
theorem dX8_goOn_29 : decode cX8_goOn 29 = .ok (.aload_n 0, 1) := by decide +kernel
theorem dX8_goOn_30 : decode cX8_goOn 30 = .ok (.getfield 9, 3) := by decide +kernel
theorem dX8_goOn_33 : decode cX8_goOn 33 = .ok (.invokestatic 69, 3) := by decide +kernel
theorem dX8_goOn_36 : decode cX8_goOn 36 = .ok (.goto 4, 3) := by decide +kernel
theorem dX8_goOn_39 : decode cX8_goOn 39 = .ok (.iconst (-1), 1) := by decide +kernel
theorem dX8_goOn_40 : decode cX8_goOn 40 = .ok (.ireturn, 1) := by decide +kernel
theorem dX8_xOf_0 : decode cX8_xOf 0 = .ok (.aload_n 0, 1) := by decide +kernel
theorem dX8_xOf_1 : decode cX8_xOf 1 = .ok (.getfield 9, 3) := by decide +kernel
theorem dX8_xOf_4 : decode cX8_xOf 4 = .ok (.iconst 1, 1) := by decide +kernel
theorem dX8_xOf_5 : decode cX8_xOf 5 = .ok (.if_icmp .ge 7, 3) := by decide +kernel
theorem dX8_xOf_8 : decode cX8_xOf 8 = .ok (.iconst 0, 1) := by decide +kernel
theorem dX8_xOf_9 : decode cX8_xOf 9 = .ok (.goto 9, 3) := by decide +kernel
theorem dX8_xOf_12 : decode cX8_xOf 12 = .ok (.iload_n 1, 1) := by decide +kernel
theorem dX8_xOf_13 : decode cX8_xOf 13 = .ok (.aload_n 0, 1) := by decide +kernel
theorem dX8_xOf_14 : decode cX8_xOf 14 = .ok (.getfield 9, 3) := by decide +kernel
theorem dX8_xOf_17 : decode cX8_xOf 17 = .ok (.irem, 1) := by decide +kernel
theorem dX8_xOf_18 : decode cX8_xOf 18 = .ok (.ireturn, 1) := by decide +kernel
theorem dX8_yOf_0 : decode cX8_yOf 0 = .ok (.aload_n 0, 1) := by decide +kernel
theorem dX8_yOf_1 : decode cX8_yOf 1 = .ok (.getfield 9, 3) := by decide +kernel
theorem dX8_yOf_4 : decode cX8_yOf 4 = .ok (.iconst 1, 1) := by decide +kernel
theorem dX8_yOf_5 : decode cX8_yOf 5 = .ok (.if_icmp .ge 7, 3) := by decide +kernel
theorem dX8_yOf_8 : decode cX8_yOf 8 = .ok (.iconst 0, 1) := by decide +kernel
theorem dX8_yOf_9 : decode cX8_yOf 9 = .ok (.goto 9, 3) := by decide +kernel
theorem dX8_yOf_12 : decode cX8_yOf 12 = .ok (.iload_n 1, 1) := by decide +kernel
theorem dX8_yOf_13 : decode cX8_yOf 13 = .ok (.aload_n 0, 1) := by decide +kernel
theorem dX8_yOf_14 : decode cX8_yOf 14 = .ok (.getfield 9, 3) := by decide +kernel
theorem dX8_yOf_17 : decode cX8_yOf 17 = .ok (.idiv, 1) := by decide +kernel
theorem dX8_yOf_18 : decode cX8_yOf 18 = .ok (.ireturn, 1) := by decide +kernel
theorem dX8_turn_0 : decode cX8_turn 0 = .ok (.aload_n 0, 1) := by decide +kernel
theorem dX8_turn_1 : decode cX8_turn 1 = .ok (.getfield 9, 3) := by decide +kernel
theorem dX8_turn_4 : decode cX8_turn 4 = .ok (.iconst 1, 1) := by decide +kernel
theorem dX8_turn_5 : decode cX8_turn 5 = .ok (.isub, 1) := by decide +kernel
theorem dX8_turn_6 : decode cX8_turn 6 = .ok (.istore_n 3, 1) := by decide +kernel
theorem dX8_turn_7 : decode cX8_turn 7 = .ok (.iconst 0, 1) := by decide +kernel
theorem dX8_turn_8 : decode cX8_turn 8 = .ok (.istore 4, 2) := by decide +kernel
theorem dX8_turn_10 : decode cX8_turn 10 = .ok (.iconst 0, 1) := by decide +kernel
theorem dX8_turn_11 : decode cX8_turn 11 = .ok (.istore 5, 2) := by decide +kernel
theorem dX8_turn_13 : decode cX8_turn 13 = .ok (.iload 5, 2) := by decide +kernel
theorem dX8_turn_15 : decode cX8_turn 15 = .ok (.bipush 25, 2) := by decide +kernel
theorem dX8_turn_17 : decode cX8_turn 17 = .ok (.if_icmp .ge 98, 3) := by decide +kernel
theorem dX8_turn_20 : decode cX8_turn 20 = .ok (.iload_n 1, 1) := by decide +kernel
theorem dX8_turn_21 : decode cX8_turn 21 = .ok (.iload 5, 2) := by decide +kernel
theorem dX8_turn_23 : decode cX8_turn 23 = .ok (.invokestatic 65, 3) := by decide +kernel
theorem dX8_turn_26 : decode cX8_turn 26 = .ok (.ifCond .eq 83, 3) := by decide +kernel
theorem dX8_turn_29 : decode cX8_turn 29 = .ok (.iload_n 2, 1) := by decide +kernel
theorem dX8_turn_30 : decode cX8_turn 30 = .ok (.iconst 4, 1) := by decide +kernel
theorem dX8_turn_31 : decode cX8_turn 31 = .ok (.if_icmp .lt 14, 3) := by decide +kernel
theorem dX8_turn_34 : decode cX8_turn 34 = .ok (.iload_n 3, 1) := by decide +kernel
theorem dX8_turn_35 : decode cX8_turn 35 = .ok (.aload_n 0, 1) := by decide +kernel
theorem dX8_turn_36 : decode cX8_turn 36 = .ok (.iload 5, 2) := by decide +kernel
theorem dX8_turn_38 : decode cX8_turn 38 = .ok (.invokevirtual 56, 3) := by decide +kernel
theorem dX8_turn_41 : decode cX8_turn 41 = .ok (.isub, 1) := by decide +kernel
theorem dX8_turn_42 : decode cX8_turn 42 = .ok (.goto 9, 3) := by decide +kernel
theorem dX8_turn_45 : decode cX8_turn 45 = .ok (.aload_n 0, 1) := by decide +kernel
theorem dX8_turn_46 : decode cX8_turn 46 = .ok (.iload 5, 2) := by decide +kernel
theorem dX8_turn_48 : decode cX8_turn 48 = .ok (.invokevirtual 56, 3) := by decide +kernel
theorem dX8_turn_51 : decode cX8_turn 51 = .ok (.istore 6, 2) := by decide +kernel
theorem dX8_turn_53 : decode cX8_turn 53 = .ok (.aload_n 0, 1) := by decide +kernel
theorem dX8_turn_54 : decode cX8_turn 54 = .ok (.iload 5, 2) := by decide +kernel
theorem dX8_turn_56 : decode cX8_turn 56 = .ok (.invokevirtual 59, 3) := by decide +kernel
theorem dX8_turn_59 : decode cX8_turn 59 = .ok (.istore 7, 2) := by decide +kernel
theorem dX8_turn_61 : decode cX8_turn 61 = .ok (.iconst 0, 1) := by decide +kernel
theorem dX8_turn_62 : decode cX8_turn 62 = .ok (.istore 8, 2) := by decide +kernel
theorem dX8_turn_64 : decode cX8_turn 64 = .ok (.iload 8, 2) := by decide +kernel
theorem dX8_turn_66 : decode cX8_turn 66 = .ok (.iload_n 2, 1) := by decide +kernel
theorem dX8_turn_67 : decode cX8_turn 67 = .ok (.iconst 3, 1) := by decide +kernel
theorem dX8_turn_68 : decode cX8_turn 68 = .ok (.iand, 1) := by decide +kernel
theorem dX8_turn_69 : decode cX8_turn 69 = .ok (.if_icmp .ge 23, 3) := by decide +kernel
theorem dX8_turn_72 : decode cX8_turn 72 = .ok (.iload 6, 2) := by decide +kernel
theorem dX8_turn_74 : decode cX8_turn 74 = .ok (.istore 9, 2) := by decide +kernel
theorem dX8_turn_76 : decode cX8_turn 76 = .ok (.iload_n 3, 1) := by decide +kernel
theorem dX8_turn_77 : decode cX8_turn 77 = .ok (.iload 7, 2) := by decide +kernel
theorem dX8_turn_79 : decode cX8_turn 79 = .ok (.isub, 1) := by decide +kernel
theorem dX8_turn_80 : decode cX8_turn 80 = .ok (.istore 6, 2) := by decide +kernel
theorem dX8_turn_82 : decode cX8_turn 82 = .ok (.iload 9, 2) := by decide +kernel
theorem dX8_turn_84 : decode cX8_turn 84 = .ok (.istore 7, 2) := by decide +kernel
theorem dX8_turn_86 : decode cX8_turn 86 = .ok (.iinc 8 1, 3) := by decide +kernel
theorem dX8_turn_89 : decode cX8_turn 89 = .ok (.goto (-25), 3) := by decide +kernel
theorem dX8_turn_92 : decode cX8_turn 92 = .ok (.iload 4, 2) := by decide +kernel
theorem dX8_turn_94 : decode cX8_turn 94 = .ok (.iconst 1, 1) := by decide +kernel
theorem dX8_turn_95 : decode cX8_turn 95 = .ok (.iload 7, 2) := by decide +kernel
theorem dX8_turn_97 : decode cX8_turn 97 = .ok (.aload_n 0, 1) := by decide +kernel
theorem dX8_turn_98 : decode cX8_turn 98 = .ok (.getfield 9, 3) := by decide +kernel
theorem dX8_turn_101 : decode cX8_turn 101 = .ok (.imul, 1) := by decide +kernel
theorem dX8_turn_102 : decode cX8_turn 102 = .ok (.iload 6, 2) := by decide +kernel
theorem dX8_turn_104 : decode cX8_turn 104 = .ok (.iadd, 1) := by decide +kernel
theorem dX8_turn_105 : decode cX8_turn 105 = .ok (.ishl, 1) := by decide +kernel
theorem dX8_turn_106 : decode cX8_turn 106 = .ok (.ior, 1) := by decide +kernel
theorem dX8_turn_107 : decode cX8_turn 107 = .ok (.istore 4, 2) := by decide +kernel
theorem dX8_turn_109 : decode cX8_turn 109 = .ok (.iinc 5 1, 3) := by decide +kernel
theorem dX8_turn_112 : decode cX8_turn 112 = .ok (.goto (-99), 3) := by decide +kernel
theorem dX8_turn_115 : decode cX8_turn 115 = .ok (.iload 4, 2) := by decide +kernel
theorem dX8_turn_117 : decode cX8_turn 117 = .ok (.ireturn, 1) := by decide +kernel
theorem dX8_spread_0 : decode cX8_spread 0 = .ok (.iconst 0, 1) := by decide +kernel
theorem dX8_spread_1 : decode cX8_spread 1 = .ok (.istore_n 2, 1) := by decide +kernel
theorem dX8_spread_2 : decode cX8_spread 2 = .ok (.iconst 0, 1) := by decide +kernel
theorem dX8_spread_3 : decode cX8_spread 3 = .ok (.istore_n 3, 1) := by decide +kernel
theorem dX8_spread_4 : decode cX8_spread 4 = .ok (.iload_n 3, 1) := by decide +kernel
theorem dX8_spread_5 : decode cX8_spread 5 = .ok (.aload_n 0, 1) := by decide +kernel
theorem dX8_spread_6 : decode cX8_spread 6 = .ok (.getfield 9, 3) := by decide +kernel
theorem dX8_spread_9 : decode cX8_spread 9 = .ok (.if_icmp .ge 20, 3) := by decide +kernel
theorem dX8_spread_12 : decode cX8_spread 12 = .ok (.iload_n 2, 1) := by decide +kernel
theorem dX8_spread_13 : decode cX8_spread 13 = .ok (.iconst 1, 1) := by decide +kernel
theorem dX8_spread_14 : decode cX8_spread 14 = .ok (.iload_n 3, 1) := by decide +kernel
theorem dX8_spread_15 : decode cX8_spread 15 = .ok (.aload_n 0, 1) := by decide +kernel
theorem dX8_spread_16 : decode cX8_spread 16 = .ok (.getfield 9, 3) := by decide +kernel
theorem dX8_spread_19 : decode cX8_spread 19 = .ok (.imul, 1) := by decide +kernel
theorem dX8_spread_20 : decode cX8_spread 20 = .ok (.ishl, 1) := by decide +kernel
theorem dX8_spread_21 : decode cX8_spread 21 = .ok (.ior, 1) := by decide +kernel
theorem dX8_spread_22 : decode cX8_spread 22 = .ok (.istore_n 2, 1) := by decide +kernel
theorem dX8_spread_23 : decode cX8_spread 23 = .ok (.iinc 3 1, 3) := by decide +kernel
theorem dX8_spread_26 : decode cX8_spread 26 = .ok (.goto (-22), 3) := by decide +kernel
theorem dX8_spread_29 : decode cX8_spread 29 = .ok (.iload_n 2, 1) := by decide +kernel
theorem dX8_spread_30 : decode cX8_spread 30 = .ok (.aload_n 0, 1) := by decide +kernel
theorem dX8_spread_31 : decode cX8_spread 31 = .ok (.getfield 9, 3) := by decide +kernel
theorem dX8_spread_34 : decode cX8_spread 34 = .ok (.iconst 1, 1) := by decide +kernel
theorem dX8_spread_35 : decode cX8_spread 35 = .ok (.isub, 1) := by decide +kernel
theorem dX8_spread_36 : decode cX8_spread 36 = .ok (.ishl, 1) := by decide +kernel
theorem dX8_spread_37 : decode cX8_spread 37 = .ok (.istore_n 3, 1) := by decide +kernel
theorem dX8_spread_38 : decode cX8_spread 38 = .ok (.iload_n 1, 1) := by decide +kernel
theorem dX8_spread_39 : decode cX8_spread 39 = .ok (.iload_n 3, 1) := by decide +kernel
theorem dX8_spread_40 : decode cX8_spread 40 = .ok (.iconst (-1), 1) := by decide +kernel
theorem dX8_spread_41 : decode cX8_spread 41 = .ok (.ixor, 1) := by decide +kernel
theorem dX8_spread_42 : decode cX8_spread 42 = .ok (.iand, 1) := by decide +kernel
theorem dX8_spread_43 : decode cX8_spread 43 = .ok (.iconst 1, 1) := by decide +kernel
theorem dX8_spread_44 : decode cX8_spread 44 = .ok (.ishl, 1) := by decide +kernel
theorem dX8_spread_45 : decode cX8_spread 45 = .ok (.iload_n 1, 1) := by decide +kernel
theorem dX8_spread_46 : decode cX8_spread 46 = .ok (.iload_n 2, 1) := by decide +kernel
theorem dX8_spread_47 : decode cX8_spread 47 = .ok (.iconst (-1), 1) := by decide +kernel
theorem dX8_spread_48 : decode cX8_spread 48 = .ok (.ixor, 1) := by decide +kernel
theorem dX8_spread_49 : decode cX8_spread 49 = .ok (.iand, 1) := by decide +kernel
theorem dX8_spread_50 : decode cX8_spread 50 = .ok (.iconst 1, 1) := by decide +kernel
theorem dX8_spread_51 : decode cX8_spread 51 = .ok (.ishr, 1) := by decide +kernel
theorem dX8_spread_52 : decode cX8_spread 52 = .ok (.ior, 1) := by decide +kernel
theorem dX8_spread_53 : decode cX8_spread 53 = .ok (.istore 4, 2) := by decide +kernel
theorem dX8_spread_55 : decode cX8_spread 55 = .ok (.iload_n 1, 1) := by decide +kernel
theorem dX8_spread_56 : decode cX8_spread 56 = .ok (.aload_n 0, 1) := by decide +kernel
theorem dX8_spread_57 : decode cX8_spread 57 = .ok (.getfield 9, 3) := by decide +kernel
theorem dX8_spread_60 : decode cX8_spread 60 = .ok (.ishl, 1) := by decide +kernel
theorem dX8_spread_61 : decode cX8_spread 61 = .ok (.iload_n 1, 1) := by decide +kernel
theorem dX8_spread_62 : decode cX8_spread 62 = .ok (.aload_n 0, 1) := by decide +kernel
theorem dX8_spread_63 : decode cX8_spread 63 = .ok (.getfield 9, 3) := by decide +kernel
theorem dX8_spread_66 : decode cX8_spread 66 = .ok (.ishr, 1) := by decide +kernel
theorem dX8_spread_67 : decode cX8_spread 67 = .ok (.ior, 1) := by decide +kernel
theorem dX8_spread_68 : decode cX8_spread 68 = .ok (.istore 5, 2) := by decide +kernel
theorem dX8_spread_70 : decode cX8_spread 70 = .ok (.iload_n 1, 1) := by decide +kernel
theorem dX8_spread_71 : decode cX8_spread 71 = .ok (.iload 4, 2) := by decide +kernel
theorem dX8_spread_73 : decode cX8_spread 73 = .ok (.iload 5, 2) := by decide +kernel
theorem dX8_spread_75 : decode cX8_spread 75 = .ok (.ior, 1) := by decide +kernel
theorem dX8_spread_76 : decode cX8_spread 76 = .ok (.aload_n 0, 1) := by decide +kernel
theorem dX8_spread_77 : decode cX8_spread 77 = .ok (.invokevirtual 75, 3) := by decide +kernel
theorem dX8_spread_80 : decode cX8_spread 80 = .ok (.iand, 1) := by decide +kernel
theorem dX8_spread_81 : decode cX8_spread 81 = .ok (.ior, 1) := by decide +kernel
theorem dX8_spread_82 : decode cX8_spread 82 = .ok (.ireturn, 1) := by decide +kernel
theorem dX9_init_0 : decode cX9_init 0 = .ok (.aload_n 0, 1) := by decide +kernel
theorem dX9_init_1 : decode cX9_init 1 = .ok (.invokespecial 3, 3) := by decide +kernel
theorem dX9_init_4 : decode cX9_init 4 = .ok (.aload_n 0, 1) := by decide +kernel
theorem dX9_init_5 : decode cX9_init 5 = .ok (.bipush 100, 2) := by decide +kernel
theorem dX9_init_7 : decode cX9_init 7 = .ok (.newarray .byte, 2) := by decide +kernel
theorem dX9_init_9 : decode cX9_init 9 = .ok (.putfield 9, 3) := by decide +kernel
theorem dX9_init_12 : decode cX9_init 12 = .ok (.aload_n 0, 1) := by decide +kernel
theorem dX9_init_13 : decode cX9_init 13 = .ok (.iconst 0, 1) := by decide +kernel
theorem dX9_init_14 : decode cX9_init 14 = .ok (.putfield 15, 3) := by decide +kernel
theorem dX9_init_17 : decode cX9_init 17 = .ok (.aload_n 0, 1) := by decide +kernel
theorem dX9_init_18 : decode cX9_init 18 = .ok (.iconst 4, 1) := by decide +kernel
theorem dX9_init_19 : decode cX9_init 19 = .ok (.putfield 19, 3) := by decide +kernel
theorem dX9_init_22 : decode cX9_init 22 = .ok (.aload_n 0, 1) := by decide +kernel
theorem dX9_init_23 : decode cX9_init 23 = .ok (.iconst 0, 1) := by decide +kernel
theorem dX9_init_24 : decode cX9_init 24 = .ok (.putfield 22, 3) := by decide +kernel
theorem dX9_init_27 : decode cX9_init 27 = .ok (.aload_n 0, 1) := by decide +kernel
theorem dX9_init_28 : decode cX9_init 28 = .ok (.iconst 0, 1) := by decide +kernel
theorem dX9_init_29 : decode cX9_init 29 = .ok (.putfield 26, 3) := by decide +kernel
theorem dX9_init_32 : decode cX9_init 32 = .ok (.aload_n 0, 1) := by decide +kernel
theorem dX9_init_33 : decode cX9_init 33 = .ok (.iconst 0, 1) := by decide +kernel
theorem dX9_init_34 : decode cX9_init 34 = .ok (.putfield 29, 3) := by decide +kernel
theorem dX9_init_37 : decode cX9_init 37 = .ok (.aload_n 0, 1) := by decide +kernel
theorem dX9_init_38 : decode cX9_init 38 = .ok (.iconst 0, 1) := by decide +kernel
theorem dX9_init_39 : decode cX9_init 39 = .ok (.putfield 32, 3) := by decide +kernel
theorem dX9_init_42 : decode cX9_init 42 = .ok (.aload_n 0, 1) := by decide +kernel
theorem dX9_init_43 : decode cX9_init 43 = .ok (.iconst (-1), 1) := by decide +kernel
theorem dX9_init_44 : decode cX9_init 44 = .ok (.putfield 35, 3) := by decide +kernel
theorem dX9_init_47 : decode cX9_init 47 = .ok (.aload_n 0, 1) := by decide +kernel
theorem dX9_init_48 : decode cX9_init 48 = .ok (.iconst 0, 1) := by decide +kernel
theorem dX9_init_49 : decode cX9_init 49 = .ok (.putfield 38, 3) := by decide +kernel
theorem dX9_init_52 : decode cX9_init 52 = .ok (.aload_n 0, 1) := by decide +kernel
theorem dX9_init_53 : decode cX9_init 53 = .ok (.iconst 4, 1) := by decide +kernel
theorem dX9_init_54 : decode cX9_init 54 = .ok (.putfield 41, 3) := by decide +kernel
theorem dX9_init_57 : decode cX9_init 57 = .ok (.return_, 1) := by decide +kernel
theorem dX9_isFull_0 : decode cX9_isFull 0 = .ok (.aload_n 0, 1) := by decide +kernel
theorem dX9_isFull_1 : decode cX9_isFull 1 = .ok (.getfield 15, 3) := by decide +kernel
theorem dX9_isFull_4 : decode cX9_isFull 4 = .ok (.aload_n 0, 1) := by decide +kernel
theorem dX9_isFull_5 : decode cX9_isFull 5 = .ok (.getfield 9, 3) := by decide +kernel
theorem dX9_isFull_8 : decode cX9_isFull 8 = .ok (.arraylength, 1) := by decide +kernel
theorem dX9_isFull_9 : decode cX9_isFull 9 = .ok (.if_icmp .lt 7, 3) := by decide +kernel
theorem dX9_isFull_12 : decode cX9_isFull 12 = .ok (.iconst 1, 1) := by decide +kernel
theorem dX9_isFull_13 : decode cX9_isFull 13 = .ok (.goto 4, 3) := by decide +kernel
theorem dX9_isFull_16 : decode cX9_isFull 16 = .ok (.iconst 0, 1) := by decide +kernel
theorem dX9_isFull_17 : decode cX9_isFull 17 = .ok (.ireturn, 1) := by decide +kernel
theorem dX9_add_0 : decode cX9_add 0 = .ok (.aload_n 0, 1) := by decide +kernel
theorem dX9_add_1 : decode cX9_add 1 = .ok (.getfield 15, 3) := by decide +kernel
theorem dX9_add_4 : decode cX9_add 4 = .ok (.ifCond .lt 36, 3) := by decide +kernel
theorem dX9_add_7 : decode cX9_add 7 = .ok (.aload_n 0, 1) := by decide +kernel
theorem dX9_add_8 : decode cX9_add 8 = .ok (.getfield 15, 3) := by decide +kernel
theorem dX9_add_11 : decode cX9_add 11 = .ok (.aload_n 0, 1) := by decide +kernel
theorem dX9_add_12 : decode cX9_add 12 = .ok (.getfield 9, 3) := by decide +kernel
theorem dX9_add_15 : decode cX9_add 15 = .ok (.arraylength, 1) := by decide +kernel
theorem dX9_add_16 : decode cX9_add 16 = .ok (.if_icmp .ge 24, 3) := by decide +kernel
theorem dX9_add_19 : decode cX9_add 19 = .ok (.aload_n 0, 1) := by decide +kernel
theorem dX9_add_20 : decode cX9_add 20 = .ok (.getfield 9, 3) := by decide +kernel
theorem dX9_add_23 : decode cX9_add 23 = .ok (.aload_n 0, 1) := by decide +kernel
theorem dX9_add_24 : decode cX9_add 24 = .ok (.getfield 15, 3) := by decide +kernel
theorem dX9_add_27 : decode cX9_add 27 = .ok (.iload_n 1, 1) := by decide +kernel
theorem dX9_add_28 : decode cX9_add 28 = .ok (.i2b, 1) := by decide +kernel
theorem dX9_add_29 : decode cX9_add 29 = .ok (.bastore, 1) := by decide +kernel
theorem dX9_add_30 : decode cX9_add 30 = .ok (.aload_n 0, 1) := by decide +kernel
theorem dX9_add_31 : decode cX9_add 31 = .ok (.dup, 1) := by decide +kernel
theorem dX9_add_32 : decode cX9_add 32 = .ok (.getfield 15, 3) := by decide +kernel
theorem dX9_add_35 : decode cX9_add 35 = .ok (.iconst 1, 1) := by decide +kernel
theorem dX9_add_36 : decode cX9_add 36 = .ok (.iadd, 1) := by decide +kernel
theorem dX9_add_37 : decode cX9_add 37 = .ok (.putfield 15, 3) := by decide +kernel
theorem dX9_add_40 : decode cX9_add 40 = .ok (.return_, 1) := by decide +kernel
theorem dX9_readClauses_0 : decode cX9_readClauses 0 = .ok (.aload_n 0, 1) := by decide +kernel
theorem dX9_readClauses_1 : decode cX9_readClauses 1 = .ok (.iload_n 1, 1) := by decide +kernel
theorem dX9_readClauses_2 : decode cX9_readClauses 2 = .ok (.putfield 41, 3) := by decide +kernel
theorem dX9_readClauses_5 : decode cX9_readClauses 5 = .ok (.aload_n 0, 1) := by decide +kernel
theorem dX9_readClauses_6 : decode cX9_readClauses 6 = .ok (.iconst 4, 1) := by decide +kernel
theorem dX9_readClauses_7 : decode cX9_readClauses 7 = .ok (.putfield 19, 3) := by decide +kernel
theorem dX9_readClauses_10 : decode cX9_readClauses 10 = .ok (.aload_n 0, 1) := by decide +kernel
theorem dX9_readClauses_11 : decode cX9_readClauses 11 = .ok (.iconst 0, 1) := by decide +kernel
theorem dX9_readClauses_12 : decode cX9_readClauses 12 = .ok (.putfield 22, 3) := by decide +kernel
theorem dX9_readClauses_15 : decode cX9_readClauses 15 = .ok (.aload_n 0, 1) := by decide +kernel
theorem dX9_readClauses_16 : decode cX9_readClauses 16 = .ok (.iconst 0, 1) := by decide +kernel
theorem dX9_readClauses_17 : decode cX9_readClauses 17 = .ok (.putfield 26, 3) := by decide +kernel
theorem dX9_readClauses_20 : decode cX9_readClauses 20 = .ok (.aload_n 0, 1) := by decide +kernel
theorem dX9_readClauses_21 : decode cX9_readClauses 21 = .ok (.iconst 0, 1) := by decide +kernel
theorem dX9_readClauses_22 : decode cX9_readClauses 22 = .ok (.putfield 29, 3) := by decide +kernel
theorem dX9_readClauses_25 : decode cX9_readClauses 25 = .ok (.aload_n 0, 1) := by decide +kernel
theorem dX9_readClauses_26 : decode cX9_readClauses 26 = .ok (.iconst 0, 1) := by decide +kernel
theorem dX9_readClauses_27 : decode cX9_readClauses 27 = .ok (.putfield 38, 3) := by decide +kernel
theorem dX9_readClauses_30 : decode cX9_readClauses 30 = .ok (.aload_n 0, 1) := by decide +kernel
theorem dX9_readClauses_31 : decode cX9_readClauses 31 = .ok (.iconst 0, 1) := by decide +kernel
theorem dX9_readClauses_32 : decode cX9_readClauses 32 = .ok (.invokevirtual 44, 3) := by decide +kernel
theorem dX9_readClauses_35 : decode cX9_readClauses 35 = .ok (.aload_n 0, 1) := by decide +kernel
theorem dX9_readClauses_36 : decode cX9_readClauses 36 = .ok (.invokevirtual 48, 3) := by decide +kernel
theorem dX9_readClauses_39 : decode cX9_readClauses 39 = .ok (.iconst 1, 1) := by decide +kernel
theorem dX9_readClauses_40 : decode cX9_readClauses 40 = .ok (.istore_n 2, 1) := by decide +kernel
theorem dX9_readClauses_41 : decode cX9_readClauses 41 = .ok (.iload_n 2, 1) := by decide +kernel
theorem dX9_readClauses_42 : decode cX9_readClauses 42 = .ok (.bipush 10, 2) := by decide +kernel
theorem dX9_readClauses_44 : decode cX9_readClauses 44 = .ok (.if_icmp .ge 39, 3) := by decide +kernel
theorem dX9_readClauses_47 : decode cX9_readClauses 47 = .ok (.aload_n 0, 1) := by decide +kernel
theorem dX9_readClauses_48 : decode cX9_readClauses 48 = .ok (.getfield 35, 3) := by decide +kernel
theorem dX9_readClauses_51 : decode cX9_readClauses 51 = .ok (.bipush 59, 2) := by decide +kernel
theorem dX9_readClauses_53 : decode cX9_readClauses 53 = .ok (.if_icmp .ne 30, 3) := by decide +kernel
theorem dX9_readClauses_56 : decode cX9_readClauses 56 = .ok (.aload_n 0, 1) := by decide +kernel
theorem dX9_readClauses_57 : decode cX9_readClauses 57 = .ok (.getfield 38, 3) := by decide +kernel
theorem dX9_readClauses_60 : decode cX9_readClauses 60 = .ok (.ifCond .ne 23, 3) := by decide +kernel
theorem dX9_readClauses_63 : decode cX9_readClauses 63 = .ok (.aload_n 0, 1) := by decide +kernel
theorem dX9_readClauses_64 : decode cX9_readClauses 64 = .ok (.aload_n 0, 1) := by decide +kernel
theorem dX9_readClauses_65 : decode cX9_readClauses 65 = .ok (.getfield 32, 3) := by decide +kernel
theorem dX9_readClauses_68 : decode cX9_readClauses 68 = .ok (.iconst 1, 1) := by decide +kernel
theorem dX9_readClauses_69 : decode cX9_readClauses 69 = .ok (.iadd, 1) := by decide +kernel
theorem dX9_readClauses_70 : decode cX9_readClauses 70 = .ok (.invokevirtual 44, 3) := by decide +kernel
theorem dX9_readClauses_73 : decode cX9_readClauses 73 = .ok (.aload_n 0, 1) := by decide +kernel
theorem dX9_readClauses_74 : decode cX9_readClauses 74 = .ok (.invokevirtual 48, 3) := by decide +kernel
theorem dX9_readClauses_77 : decode cX9_readClauses 77 = .ok (.iinc 2 1, 3) := by decide +kernel
theorem dX9_readClauses_80 : decode cX9_readClauses 80 = .ok (.goto (-39), 3) := by decide +kernel
theorem dX9_readClauses_83 : decode cX9_readClauses 83 = .ok (.aload_n 0, 1) := by decide +kernel
theorem dX9_readClauses_84 : decode cX9_readClauses 84 = .ok (.getfield 38, 3) := by decide +kernel
theorem dX9_readClauses_87 : decode cX9_readClauses 87 = .ok (.ifCond .ne 11, 3) := by decide +kernel
theorem dX9_readClauses_90 : decode cX9_readClauses 90 = .ok (.aload_n 0, 1) := by decide +kernel
theorem dX9_readClauses_91 : decode cX9_readClauses 91 = .ok (.getfield 35, 3) := by decide +kernel
theorem dX9_readClauses_94 : decode cX9_readClauses 94 = .ok (.iconst (-1), 1) := by decide +kernel
theorem dX9_readClauses_95 : decode cX9_readClauses 95 = .ok (.if_icmp .eq 10, 3) := by decide +kernel
theorem dX9_readClauses_98 : decode cX9_readClauses 98 = .ok (.aload_n 0, 1) := by decide +kernel
theorem dX9_readClauses_99 : decode cX9_readClauses 99 = .ok (.getfield 32, 3) := by decide +kernel
theorem dX9_readClauses_102 : decode cX9_readClauses 102 = .ok (.goto 4, 3) := by decide +kernel
theorem dX9_readClauses_105 : decode cX9_readClauses 105 = .ok (.iconst (-1), 1) := by decide +kernel
theorem dX9_readClauses_106 : decode cX9_readClauses 106 = .ok (.ireturn, 1) := by decide +kernel
theorem dX9_moveTo_0 : decode cX9_moveTo 0 = .ok (.aload_n 0, 1) := by decide +kernel
theorem dX9_moveTo_1 : decode cX9_moveTo 1 = .ok (.iload_n 1, 1) := by decide +kernel
theorem dX9_moveTo_2 : decode cX9_moveTo 2 = .ok (.putfield 32, 3) := by decide +kernel
theorem dX9_moveTo_5 : decode cX9_moveTo 5 = .ok (.aload_n 0, 1) := by decide +kernel
theorem dX9_moveTo_6 : decode cX9_moveTo 6 = .ok (.iload_n 1, 1) := by decide +kernel
theorem dX9_moveTo_7 : decode cX9_moveTo 7 = .ok (.ifCond .lt 29, 3) := by decide +kernel
theorem dX9_moveTo_10 : decode cX9_moveTo 10 = .ok (.iload_n 1, 1) := by decide +kernel
theorem dX9_moveTo_11 : decode cX9_moveTo 11 = .ok (.aload_n 0, 1) := by decide +kernel
theorem dX9_moveTo_12 : decode cX9_moveTo 12 = .ok (.getfield 15, 3) := by decide +kernel
theorem dX9_moveTo_15 : decode cX9_moveTo 15 = .ok (.if_icmp .ge 21, 3) := by decide +kernel
theorem dX9_moveTo_18 : decode cX9_moveTo 18 = .ok (.iload_n 1, 1) := by decide +kernel
theorem dX9_moveTo_19 : decode cX9_moveTo 19 = .ok (.aload_n 0, 1) := by decide +kernel
theorem dX9_moveTo_20 : decode cX9_moveTo 20 = .ok (.getfield 9, 3) := by decide +kernel
theorem dX9_moveTo_23 : decode cX9_moveTo 23 = .ok (.arraylength, 1) := by decide +kernel
theorem dX9_moveTo_24 : decode cX9_moveTo 24 = .ok (.if_icmp .ge 12, 3) := by decide +kernel
theorem dX9_moveTo_27 : decode cX9_moveTo 27 = .ok (.aload_n 0, 1) := by decide +kernel
theorem dX9_moveTo_28 : decode cX9_moveTo 28 = .ok (.getfield 9, 3) := by decide +kernel
theorem dX9_moveTo_31 : decode cX9_moveTo 31 = .ok (.iload_n 1, 1) := by decide +kernel
theorem dX9_moveTo_32 : decode cX9_moveTo 32 = .ok (.baload, 1) := by decide +kernel
theorem dX9_moveTo_33 : decode cX9_moveTo 33 = .ok (.goto 4, 3) := by decide +kernel
theorem dX9_moveTo_36 : decode cX9_moveTo 36 = .ok (.iconst (-1), 1) := by decide +kernel
theorem dX9_moveTo_37 : decode cX9_moveTo 37 = .ok (.putfield 35, 3) := by decide +kernel
theorem dX9_moveTo_40 : decode cX9_moveTo 40 = .ok (.return_, 1) := by decide +kernel
theorem dX9_readClause_0 : decode cX9_readClause 0 = .ok (.aload_n 0, 1) := by decide +kernel
theorem dX9_readClause_1 : decode cX9_readClause 1 = .ok (.getfield 35, 3) := by decide +kernel
theorem dX9_readClause_4 : decode cX9_readClause 4 = .ok (.lookupswitch 129 #[(98, 92), (104, 69), (114, 115), (119, 44)], 44) := by decide +kernel
theorem dX9_readClause_48 : decode cX9_readClause 48 = .ok (.aload_n 0, 1) := by decide +kernel
theorem dX9_readClause_49 : decode cX9_readClause 49 = .ok (.ldc 51, 2) := by decide +kernel
theorem dX9_readClause_51 : decode cX9_readClause 51 = .ok (.invokevirtual 53, 3) := by decide +kernel
theorem dX9_readClause_54 : decode cX9_readClause 54 = .ok (.aload_n 0, 1) := by decide +kernel
theorem dX9_readClause_55 : decode cX9_readClause 55 = .ok (.aload_n 0, 1) := by decide +kernel
theorem dX9_readClause_56 : decode cX9_readClause 56 = .ok (.invokevirtual 57, 3) := by decide +kernel
theorem dX9_readClause_59 : decode cX9_readClause 59 = .ok (.iconst 2, 1) := by decide +kernel
theorem dX9_readClause_60 : decode cX9_readClause 60 = .ok (.invokestatic 61, 3) := by decide +kernel
theorem dX9_readClause_63 : decode cX9_readClause 63 = .ok (.iconst 5, 1) := by decide +kernel
theorem dX9_readClause_64 : decode cX9_readClause 64 = .ok (.invokestatic 67, 3) := by decide +kernel
theorem dX9_readClause_67 : decode cX9_readClause 67 = .ok (.putfield 19, 3) := by decide +kernel
theorem dX9_readClause_70 : decode cX9_readClause 70 = .ok (.goto 74, 3) := by decide +kernel
theorem dX9_readClause_73 : decode cX9_readClause 73 = .ok (.aload_n 0, 1) := by decide +kernel
theorem dX9_readClause_74 : decode cX9_readClause 74 = .ok (.ldc 70, 2) := by decide +kernel
theorem dX9_readClause_76 : decode cX9_readClause 76 = .ok (.invokevirtual 53, 3) := by decide +kernel
theorem dX9_readClause_79 : decode cX9_readClause 79 = .ok (.aload_n 0, 1) := by decide +kernel
theorem dX9_readClause_80 : decode cX9_readClause 80 = .ok (.dup, 1) := by decide +kernel
theorem dX9_readClause_81 : decode cX9_readClause 81 = .ok (.getfield 26, 3) := by decide +kernel
theorem dX9_readClause_84 : decode cX9_readClause 84 = .ok (.aload_n 0, 1) := by decide +kernel
theorem dX9_readClause_85 : decode cX9_readClause 85 = .ok (.iconst 0, 1) := by decide +kernel
theorem dX9_readClause_86 : decode cX9_readClause 86 = .ok (.invokevirtual 72, 3) := by decide +kernel
theorem dX9_readClause_89 : decode cX9_readClause 89 = .ok (.ior, 1) := by decide +kernel
theorem dX9_readClause_90 : decode cX9_readClause 90 = .ok (.putfield 26, 3) := by decide +kernel
theorem dX9_readClause_93 : decode cX9_readClause 93 = .ok (.goto 51, 3) := by decide +kernel
theorem dX9_readClause_96 : decode cX9_readClause 96 = .ok (.aload_n 0, 1) := by decide +kernel
theorem dX9_readClause_97 : decode cX9_readClause 97 = .ok (.ldc 76, 2) := by decide +kernel
theorem dX9_readClause_99 : decode cX9_readClause 99 = .ok (.invokevirtual 53, 3) := by decide +kernel
theorem dX9_readClause_102 : decode cX9_readClause 102 = .ok (.aload_n 0, 1) := by decide +kernel
theorem dX9_readClause_103 : decode cX9_readClause 103 = .ok (.dup, 1) := by decide +kernel
theorem dX9_readClause_104 : decode cX9_readClause 104 = .ok (.getfield 29, 3) := by decide +kernel
theorem dX9_readClause_107 : decode cX9_readClause 107 = .ok (.aload_n 0, 1) := by decide +kernel
theorem dX9_readClause_108 : decode cX9_readClause 108 = .ok (.iconst 0, 1) := by decide +kernel
theorem dX9_readClause_109 : decode cX9_readClause 109 = .ok (.invokevirtual 72, 3) := by decide +kernel
theorem dX9_readClause_112 : decode cX9_readClause 112 = .ok (.ior, 1) := by decide +kernel
theorem dX9_readClause_113 : decode cX9_readClause 113 = .ok (.putfield 29, 3) := by decide +kernel
theorem dX9_readClause_116 : decode cX9_readClause 116 = .ok (.goto 28, 3) := by decide +kernel
theorem dX9_readClause_119 : decode cX9_readClause 119 = .ok (.aload_n 0, 1) := by decide +kernel
theorem dX9_readClause_120 : decode cX9_readClause 120 = .ok (.ldc 78, 2) := by decide +kernel
theorem dX9_readClause_122 : decode cX9_readClause 122 = .ok (.invokevirtual 53, 3) := by decide +kernel
theorem dX9_readClause_125 : decode cX9_readClause 125 = .ok (.aload_n 0, 1) := by decide +kernel
theorem dX9_readClause_126 : decode cX9_readClause 126 = .ok (.iconst 1, 1) := by decide +kernel
theorem dX9_readClause_127 : decode cX9_readClause 127 = .ok (.putfield 22, 3) := by decide +kernel
theorem dX9_readClause_130 : decode cX9_readClause 130 = .ok (.goto 14, 3) := by decide +kernel
theorem dX9_readClause_133 : decode cX9_readClause 133 = .ok (.aload_n 0, 1) := by decide +kernel
theorem dX9_readClause_134 : decode cX9_readClause 134 = .ok (.ldc 79, 2) := by decide +kernel
theorem dX9_readClause_136 : decode cX9_readClause 136 = .ok (.invokevirtual 53, 3) := by decide +kernel
theorem dX9_readClause_139 : decode cX9_readClause 139 = .ok (.aload_n 0, 1) := by decide +kernel
theorem dX9_readClause_140 : decode cX9_readClause 140 = .ok (.iconst 0, 1) := by decide +kernel
theorem dX9_readClause_141 : decode cX9_readClause 141 = .ok (.putfield 22, 3) := by decide +kernel
theorem dX9_readClause_144 : decode cX9_readClause 144 = .ok (.return_, 1) := by decide +kernel
theorem dX9_readWord_0 : decode cX9_readWord 0 = .ok (.iconst 0, 1) := by decide +kernel
theorem dX9_readWord_1 : decode cX9_readWord 1 = .ok (.istore_n 2, 1) := by decide +kernel
theorem dX9_readWord_2 : decode cX9_readWord 2 = .ok (.iload_n 2, 1) := by decide +kernel
theorem dX9_readWord_3 : decode cX9_readWord 3 = .ok (.aload_n 1, 1) := by decide +kernel
theorem dX9_readWord_4 : decode cX9_readWord 4 = .ok (.invokevirtual 81, 3) := by decide +kernel
theorem dX9_readWord_7 : decode cX9_readWord 7 = .ok (.if_icmp .ge 46, 3) := by decide +kernel
theorem dX9_readWord_10 : decode cX9_readWord 10 = .ok (.aload_n 0, 1) := by decide +kernel
theorem dX9_readWord_11 : decode cX9_readWord 11 = .ok (.getfield 38, 3) := by decide +kernel
theorem dX9_readWord_14 : decode cX9_readWord 14 = .ok (.ifCond .ne 39, 3) := by decide +kernel
theorem dX9_readWord_17 : decode cX9_readWord 17 = .ok (.aload_n 0, 1) := by decide +kernel
theorem dX9_readWord_18 : decode cX9_readWord 18 = .ok (.getfield 35, 3) := by decide +kernel
theorem dX9_readWord_21 : decode cX9_readWord 21 = .ok (.aload_n 1, 1) := by decide +kernel
theorem dX9_readWord_22 : decode cX9_readWord 22 = .ok (.iload_n 2, 1) := by decide +kernel
theorem dX9_readWord_23 : decode cX9_readWord 23 = .ok (.invokevirtual 85, 3) := by decide +kernel
theorem dX9_readWord_26 : decode cX9_readWord 26 = .ok (.if_icmp .ne 16, 3) := by decide +kernel
theorem dX9_readWord_29 : decode cX9_readWord 29 = .ok (.aload_n 0, 1) := by decide +kernel
theorem dX9_readWord_30 : decode cX9_readWord 30 = .ok (.aload_n 0, 1) := by decide +kernel
theorem dX9_readWord_31 : decode cX9_readWord 31 = .ok (.getfield 32, 3) := by decide +kernel
theorem dX9_readWord_34 : decode cX9_readWord 34 = .ok (.iconst 1, 1) := by decide +kernel
theorem dX9_readWord_35 : decode cX9_readWord 35 = .ok (.iadd, 1) := by decide +kernel
theorem dX9_readWord_36 : decode cX9_readWord 36 = .ok (.invokevirtual 44, 3) := by decide +kernel
theorem dX9_readWord_39 : decode cX9_readWord 39 = .ok (.goto 8, 3) := by decide +kernel
theorem dX9_readWord_42 : decode cX9_readWord 42 = .ok (.aload_n 0, 1) := by decide +kernel
theorem dX9_readWord_43 : decode cX9_readWord 43 = .ok (.iconst 1, 1) := by decide +kernel
theorem dX9_readWord_44 : decode cX9_readWord 44 = .ok (.putfield 38, 3) := by decide +kernel
theorem dX9_readWord_47 : decode cX9_readWord 47 = .ok (.iinc 2 1, 3) := by decide +kernel
theorem dX9_readWord_50 : decode cX9_readWord 50 = .ok (.goto (-48), 3) := by decide +kernel
theorem dX9_readWord_53 : decode cX9_readWord 53 = .ok (.return_, 1) := by decide +kernel
theorem dX9_readNumber_0 : decode cX9_readNumber 0 = .ok (.aload_n 0, 1) := by decide +kernel
theorem dX9_readNumber_1 : decode cX9_readNumber 1 = .ok (.getfield 38, 3) := by decide +kernel
theorem dX9_readNumber_4 : decode cX9_readNumber 4 = .ok (.ifCond .ne 21, 3) := by decide +kernel
theorem dX9_readNumber_7 : decode cX9_readNumber 7 = .ok (.aload_n 0, 1) := by decide +kernel
theorem dX9_readNumber_8 : decode cX9_readNumber 8 = .ok (.getfield 35, 3) := by decide +kernel
theorem dX9_readNumber_11 : decode cX9_readNumber 11 = .ok (.bipush 48, 2) := by decide +kernel
theorem dX9_readNumber_13 : decode cX9_readNumber 13 = .ok (.if_icmp .lt 12, 3) := by decide +kernel
theorem dX9_readNumber_16 : decode cX9_readNumber 16 = .ok (.aload_n 0, 1) := by decide +kernel
theorem dX9_readNumber_17 : decode cX9_readNumber 17 = .ok (.getfield 35, 3) := by decide +kernel
theorem dX9_readNumber_20 : decode cX9_readNumber 20 = .ok (.bipush 57, 2) := by decide +kernel
theorem dX9_readNumber_22 : decode cX9_readNumber 22 = .ok (.if_icmp .le 10, 3) := by decide +kernel
theorem dX9_readNumber_25 : decode cX9_readNumber 25 = .ok (.aload_n 0, 1) := by decide +kernel
theorem dX9_readNumber_26 : decode cX9_readNumber 26 = .ok (.iconst 1, 1) := by decide +kernel
theorem dX9_readNumber_27 : decode cX9_readNumber 27 = .ok (.putfield 38, 3) := by decide +kernel
theorem dX9_readNumber_30 : decode cX9_readNumber 30 = .ok (.iconst 0, 1) := by decide +kernel
theorem dX9_readNumber_31 : decode cX9_readNumber 31 = .ok (.ireturn, 1) := by decide +kernel
theorem dX9_readNumber_32 : decode cX9_readNumber 32 = .ok (.aload_n 0, 1) := by decide +kernel
theorem dX9_readNumber_33 : decode cX9_readNumber 33 = .ok (.getfield 35, 3) := by decide +kernel
theorem dX9_readNumber_36 : decode cX9_readNumber 36 = .ok (.bipush 48, 2) := by decide +kernel
theorem dX9_readNumber_38 : decode cX9_readNumber 38 = .ok (.isub, 1) := by decide +kernel
theorem dX9_readNumber_39 : decode cX9_readNumber 39 = .ok (.istore_n 1, 1) := by decide +kernel
theorem dX9_readNumber_40 : decode cX9_readNumber 40 = .ok (.aload_n 0, 1) := by decide +kernel
theorem dX9_readNumber_41 : decode cX9_readNumber 41 = .ok (.aload_n 0, 1) := by decide +kernel
theorem dX9_readNumber_42 : decode cX9_readNumber 42 = .ok (.getfield 32, 3) := by decide +kernel
theorem dX9_readNumber_45 : decode cX9_readNumber 45 = .ok (.iconst 1, 1) := by decide +kernel
theorem dX9_readNumber_46 : decode cX9_readNumber 46 = .ok (.iadd, 1) := by decide +kernel
theorem dX9_readNumber_47 : decode cX9_readNumber 47 = .ok (.invokevirtual 44, 3) := by decide +kernel
theorem dX9_readNumber_50 : decode cX9_readNumber 50 = .ok (.aload_n 0, 1) := by decide +kernel
theorem dX9_readNumber_51 : decode cX9_readNumber 51 = .ok (.getfield 35, 3) := by decide +kernel
theorem dX9_readNumber_54 : decode cX9_readNumber 54 = .ok (.bipush 48, 2) := by decide +kernel
theorem dX9_readNumber_56 : decode cX9_readNumber 56 = .ok (.if_icmp .lt 35, 3) := by decide +kernel
theorem dX9_readNumber_59 : decode cX9_readNumber 59 = .ok (.aload_n 0, 1) := by decide +kernel
theorem dX9_readNumber_60 : decode cX9_readNumber 60 = .ok (.getfield 35, 3) := by decide +kernel
theorem dX9_readNumber_63 : decode cX9_readNumber 63 = .ok (.bipush 57, 2) := by decide +kernel
theorem dX9_readNumber_65 : decode cX9_readNumber 65 = .ok (.if_icmp .gt 26, 3) := by decide +kernel
theorem dX9_readNumber_68 : decode cX9_readNumber 68 = .ok (.iload_n 1, 1) := by decide +kernel
theorem dX9_readNumber_69 : decode cX9_readNumber 69 = .ok (.bipush 10, 2) := by decide +kernel
theorem dX9_readNumber_71 : decode cX9_readNumber 71 = .ok (.imul, 1) := by decide +kernel
theorem dX9_readNumber_72 : decode cX9_readNumber 72 = .ok (.aload_n 0, 1) := by decide +kernel
theorem dX9_readNumber_73 : decode cX9_readNumber 73 = .ok (.getfield 35, 3) := by decide +kernel
theorem dX9_readNumber_76 : decode cX9_readNumber 76 = .ok (.iadd, 1) := by decide +kernel
theorem dX9_readNumber_77 : decode cX9_readNumber 77 = .ok (.bipush 48, 2) := by decide +kernel
theorem dX9_readNumber_79 : decode cX9_readNumber 79 = .ok (.isub, 1) := by decide +kernel
theorem dX9_readNumber_80 : decode cX9_readNumber 80 = .ok (.istore_n 1, 1) := by decide +kernel
theorem dX9_readNumber_81 : decode cX9_readNumber 81 = .ok (.aload_n 0, 1) := by decide +kernel
theorem dX9_readNumber_82 : decode cX9_readNumber 82 = .ok (.aload_n 0, 1) := by decide +kernel
theorem dX9_readNumber_83 : decode cX9_readNumber 83 = .ok (.getfield 32, 3) := by decide +kernel
theorem dX9_readNumber_86 : decode cX9_readNumber 86 = .ok (.iconst 1, 1) := by decide +kernel
theorem dX9_readNumber_87 : decode cX9_readNumber 87 = .ok (.iadd, 1) := by decide +kernel
theorem dX9_readNumber_88 : decode cX9_readNumber 88 = .ok (.invokevirtual 44, 3) := by decide +kernel
theorem dX9_readNumber_91 : decode cX9_readNumber 91 = .ok (.iload_n 1, 1) := by decide +kernel
theorem dX9_readNumber_92 : decode cX9_readNumber 92 = .ok (.ireturn, 1) := by decide +kernel
theorem dX9_readAny_0 : decode cX9_readAny 0 = .ok (.iconst 0, 1) := by decide +kernel
theorem dX9_readAny_1 : decode cX9_readAny 1 = .ok (.istore_n 2, 1) := by decide +kernel
theorem dX9_readAny_2 : decode cX9_readAny 2 = .ok (.aload_n 0, 1) := by decide +kernel
theorem dX9_readAny_3 : decode cX9_readAny 3 = .ok (.iload_n 1, 1) := by decide +kernel
theorem dX9_readAny_4 : decode cX9_readAny 4 = .ok (.invokevirtual 89, 3) := by decide +kernel
theorem dX9_readAny_7 : decode cX9_readAny 7 = .ok (.istore_n 3, 1) := by decide +kernel
theorem dX9_readAny_8 : decode cX9_readAny 8 = .ok (.iconst 0, 1) := by decide +kernel
theorem dX9_readAny_9 : decode cX9_readAny 9 = .ok (.istore 4, 2) := by decide +kernel
theorem dX9_readAny_11 : decode cX9_readAny 11 = .ok (.iload 4, 2) := by decide +kernel
theorem dX9_readAny_13 : decode cX9_readAny 13 = .ok (.aload_n 0, 1) := by decide +kernel
theorem dX9_readAny_14 : decode cX9_readAny 14 = .ok (.getfield 9, 3) := by decide +kernel
theorem dX9_readAny_17 : decode cX9_readAny 17 = .ok (.arraylength, 1) := by decide +kernel
theorem dX9_readAny_18 : decode cX9_readAny 18 = .ok (.if_icmp .ge 73, 3) := by decide +kernel
theorem dX9_readAny_21 : decode cX9_readAny 21 = .ok (.aload_n 0, 1) := by decide +kernel
theorem dX9_readAny_22 : decode cX9_readAny 22 = .ok (.getfield 38, 3) := by decide +kernel
theorem dX9_readAny_25 : decode cX9_readAny 25 = .ok (.ifCond .ne 66, 3) := by decide +kernel
theorem dX9_readAny_28 : decode cX9_readAny 28 = .ok (.aload_n 0, 1) := by decide +kernel
theorem dX9_readAny_29 : decode cX9_readAny 29 = .ok (.getfield 35, 3) := by decide +kernel
theorem dX9_readAny_32 : decode cX9_readAny 32 = .ok (.bipush 124, 2) := by decide +kernel
theorem dX9_readAny_34 : decode cX9_readAny 34 = .ok (.if_icmp .eq 12, 3) := by decide +kernel
theorem dX9_readAny_37 : decode cX9_readAny 37 = .ok (.aload_n 0, 1) := by decide +kernel
theorem dX9_readAny_38 : decode cX9_readAny 38 = .ok (.getfield 35, 3) := by decide +kernel
theorem dX9_readAny_41 : decode cX9_readAny 41 = .ok (.bipush 38, 2) := by decide +kernel
theorem dX9_readAny_43 : decode cX9_readAny 43 = .ok (.if_icmp .ne 48, 3) := by decide +kernel
theorem dX9_readAny_46 : decode cX9_readAny 46 = .ok (.aload_n 0, 1) := by decide +kernel
theorem dX9_readAny_47 : decode cX9_readAny 47 = .ok (.getfield 35, 3) := by decide +kernel
theorem dX9_readAny_50 : decode cX9_readAny 50 = .ok (.bipush 124, 2) := by decide +kernel
theorem dX9_readAny_52 : decode cX9_readAny 52 = .ok (.if_icmp .ne 15, 3) := by decide +kernel
theorem dX9_readAny_55 : decode cX9_readAny 55 = .ok (.iload_n 2, 1) := by decide +kernel
theorem dX9_readAny_56 : decode cX9_readAny 56 = .ok (.iload_n 3, 1) := by decide +kernel
theorem dX9_readAny_57 : decode cX9_readAny 57 = .ok (.ior, 1) := by decide +kernel
theorem dX9_readAny_58 : decode cX9_readAny 58 = .ok (.istore_n 2, 1) := by decide +kernel
theorem dX9_readAny_59 : decode cX9_readAny 59 = .ok (.aload_n 0, 1) := by decide +kernel
theorem dX9_readAny_60 : decode cX9_readAny 60 = .ok (.getfield 41, 3) := by decide +kernel
theorem dX9_readAny_63 : decode cX9_readAny 63 = .ok (.invokestatic 92, 3) := by decide +kernel
theorem dX9_readAny_66 : decode cX9_readAny 66 = .ok (.istore_n 3, 1) := by decide +kernel
theorem dX9_readAny_67 : decode cX9_readAny 67 = .ok (.aload_n 0, 1) := by decide +kernel
theorem dX9_readAny_68 : decode cX9_readAny 68 = .ok (.aload_n 0, 1) := by decide +kernel
theorem dX9_readAny_69 : decode cX9_readAny 69 = .ok (.getfield 32, 3) := by decide +kernel
theorem dX9_readAny_72 : decode cX9_readAny 72 = .ok (.iconst 1, 1) := by decide +kernel
theorem dX9_readAny_73 : decode cX9_readAny 73 = .ok (.iadd, 1) := by decide +kernel
theorem dX9_readAny_74 : decode cX9_readAny 74 = .ok (.invokevirtual 44, 3) := by decide +kernel
theorem dX9_readAny_77 : decode cX9_readAny 77 = .ok (.iload_n 3, 1) := by decide +kernel
theorem dX9_readAny_78 : decode cX9_readAny 78 = .ok (.aload_n 0, 1) := by decide +kernel
theorem dX9_readAny_79 : decode cX9_readAny 79 = .ok (.iload_n 1, 1) := by decide +kernel
theorem dX9_readAny_80 : decode cX9_readAny 80 = .ok (.invokevirtual 89, 3) := by decide +kernel
theorem dX9_readAny_83 : decode cX9_readAny 83 = .ok (.iand, 1) := by decide +kernel
theorem dX9_readAny_84 : decode cX9_readAny 84 = .ok (.istore_n 3, 1) := by decide +kernel
theorem dX9_readAny_85 : decode cX9_readAny 85 = .ok (.iinc 4 1, 3) := by decide +kernel
theorem dX9_readAny_88 : decode cX9_readAny 88 = .ok (.goto (-77), 3) := by decide +kernel
theorem dX9_readAny_91 : decode cX9_readAny 91 = .ok (.iload_n 2, 1) := by decide +kernel
theorem dX9_readAny_92 : decode cX9_readAny 92 = .ok (.iload_n 3, 1) := by decide +kernel
theorem dX9_readAny_93 : decode cX9_readAny 93 = .ok (.ior, 1) := by decide +kernel
theorem dX9_readAny_94 : decode cX9_readAny 94 = .ok (.ireturn, 1) := by decide +kernel
theorem dX9_readOne_0 : decode cX9_readOne 0 = .ok (.aload_n 0, 1) := by decide +kernel
theorem dX9_readOne_1 : decode cX9_readOne 1 = .ok (.getfield 35, 3) := by decide +kernel
theorem dX9_readOne_4 : decode cX9_readOne 4 = .ok (.bipush 33, 2) := by decide +kernel
theorem dX9_readOne_6 : decode cX9_readOne 6 = .ok (.if_icmp .ne 7, 3) := by decide +kernel
theorem dX9_readOne_9 : decode cX9_readOne 9 = .ok (.iconst 1, 1) := by decide +kernel
theorem dX9_readOne_10 : decode cX9_readOne 10 = .ok (.goto 4, 3) := by decide +kernel
theorem dX9_readOne_13 : decode cX9_readOne 13 = .ok (.iconst 0, 1) := by decide +kernel
theorem dX9_readOne_14 : decode cX9_readOne 14 = .ok (.istore_n 2, 1) := by decide +kernel
theorem dX9_readOne_15 : decode cX9_readOne 15 = .ok (.aload_n 0, 1) := by decide +kernel
theorem dX9_readOne_16 : decode cX9_readOne 16 = .ok (.getfield 38, 3) := by decide +kernel
theorem dX9_readOne_19 : decode cX9_readOne 19 = .ok (.ifCond .ne 21, 3) := by decide +kernel
theorem dX9_readOne_22 : decode cX9_readOne 22 = .ok (.iload_n 1, 1) := by decide +kernel
theorem dX9_readOne_23 : decode cX9_readOne 23 = .ok (.iconst 4, 1) := by decide +kernel
theorem dX9_readOne_24 : decode cX9_readOne 24 = .ok (.if_icmp .ge 16, 3) := by decide +kernel
theorem dX9_readOne_27 : decode cX9_readOne 27 = .ok (.iload_n 2, 1) := by decide +kernel
theorem dX9_readOne_28 : decode cX9_readOne 28 = .ok (.ifCond .ne 17, 3) := by decide +kernel
theorem dX9_readOne_31 : decode cX9_readOne 31 = .ok (.aload_n 0, 1) := by decide +kernel
theorem dX9_readOne_32 : decode cX9_readOne 32 = .ok (.getfield 35, 3) := by decide +kernel
theorem dX9_readOne_35 : decode cX9_readOne 35 = .ok (.bipush 40, 2) := by decide +kernel
theorem dX9_readOne_37 : decode cX9_readOne 37 = .ok (.if_icmp .eq 8, 3) := by decide +kernel
theorem dX9_readOne_40 : decode cX9_readOne 40 = .ok (.aload_n 0, 1) := by decide +kernel
theorem dX9_readOne_41 : decode cX9_readOne 41 = .ok (.invokevirtual 95, 3) := by decide +kernel
theorem dX9_readOne_44 : decode cX9_readOne 44 = .ok (.ireturn, 1) := by decide +kernel
theorem dX9_readOne_45 : decode cX9_readOne 45 = .ok (.aload_n 0, 1) := by decide +kernel
theorem dX9_readOne_46 : decode cX9_readOne 46 = .ok (.aload_n 0, 1) := by decide +kernel
theorem dX9_readOne_47 : decode cX9_readOne 47 = .ok (.getfield 32, 3) := by decide +kernel
theorem dX9_readOne_50 : decode cX9_readOne 50 = .ok (.iconst 1, 1) := by decide +kernel
theorem dX9_readOne_51 : decode cX9_readOne 51 = .ok (.iadd, 1) := by decide +kernel
theorem dX9_readOne_52 : decode cX9_readOne 52 = .ok (.invokevirtual 44, 3) := by decide +kernel
theorem dX9_readOne_55 : decode cX9_readOne 55 = .ok (.iload_n 2, 1) := by decide +kernel
theorem dX9_readOne_56 : decode cX9_readOne 56 = .ok (.ifCond .eq 21, 3) := by decide +kernel
theorem dX9_readOne_59 : decode cX9_readOne 59 = .ok (.aload_n 0, 1) := by decide +kernel
theorem dX9_readOne_60 : decode cX9_readOne 60 = .ok (.getfield 41, 3) := by decide +kernel
theorem dX9_readOne_63 : decode cX9_readOne 63 = .ok (.invokestatic 92, 3) := by decide +kernel
theorem dX9_readOne_66 : decode cX9_readOne 66 = .ok (.aload_n 0, 1) := by decide +kernel
theorem dX9_readOne_67 : decode cX9_readOne 67 = .ok (.iload_n 1, 1) := by decide +kernel
theorem dX9_readOne_68 : decode cX9_readOne 68 = .ok (.iconst 1, 1) := by decide +kernel
theorem dX9_readOne_69 : decode cX9_readOne 69 = .ok (.iadd, 1) := by decide +kernel
theorem dX9_readOne_70 : decode cX9_readOne 70 = .ok (.invokevirtual 89, 3) := by decide +kernel
theorem dX9_readOne_73 : decode cX9_readOne 73 = .ok (.iconst (-1), 1) := by decide +kernel
theorem dX9_readOne_74 : decode cX9_readOne 74 = .ok (.ixor, 1) := by decide +kernel
theorem dX9_readOne_75 : decode cX9_readOne 75 = .ok (.iand, 1) := by decide +kernel
theorem dX9_readOne_76 : decode cX9_readOne 76 = .ok (.ireturn, 1) := by decide +kernel
theorem dX9_readOne_77 : decode cX9_readOne 77 = .ok (.aload_n 0, 1) := by decide +kernel
theorem dX9_readOne_78 : decode cX9_readOne 78 = .ok (.iload_n 1, 1) := by decide +kernel
theorem dX9_readOne_79 : decode cX9_readOne 79 = .ok (.iconst 1, 1) := by decide +kernel
theorem dX9_readOne_80 : decode cX9_readOne 80 = .ok (.iadd, 1) := by decide +kernel
theorem dX9_readOne_81 : decode cX9_readOne 81 = .ok (.invokevirtual 72, 3) := by decide +kernel
theorem dX9_readOne_84 : decode cX9_readOne 84 = .ok (.istore_n 3, 1) := by decide +kernel
theorem dX9_readOne_85 : decode cX9_readOne 85 = .ok (.aload_n 0, 1) := by decide +kernel
theorem dX9_readOne_86 : decode cX9_readOne 86 = .ok (.getfield 38, 3) := by decide +kernel
theorem dX9_readOne_89 : decode cX9_readOne 89 = .ok (.ifCond .ne 9, 3) := by decide +kernel
theorem dX9_readOne_92 : decode cX9_readOne 92 = .ok (.aload_n 0, 1) := by decide +kernel
theorem dX9_readOne_93 : decode cX9_readOne 93 = .ok (.ldc 98, 2) := by decide +kernel
theorem dX9_readOne_95 : decode cX9_readOne 95 = .ok (.invokevirtual 53, 3) := by decide +kernel
theorem dX9_readOne_98 : decode cX9_readOne 98 = .ok (.iload_n 3, 1) := by decide +kernel
theorem dX9_readOne_99 : decode cX9_readOne 99 = .ok (.ireturn, 1) := by decide +kernel
theorem dX9_readTest_0 : decode cX9_readTest 0 = .ok (.aload_n 0, 1) := by decide +kernel
theorem dX9_readTest_1 : decode cX9_readTest 1 = .ok (.getfield 35, 3) := by decide +kernel
theorem dX9_readTest_4 : decode cX9_readTest 4 = .ok (.istore_n 1, 1) := by decide +kernel
theorem dX9_readTest_5 : decode cX9_readTest 5 = .ok (.aload_n 0, 1) := by decide +kernel
theorem dX9_readTest_6 : decode cX9_readTest 6 = .ok (.getfield 38, 3) := by decide +kernel
theorem dX9_readTest_9 : decode cX9_readTest 9 = .ok (.ifCond .ne 11, 3) := by decide +kernel
theorem dX9_readTest_12 : decode cX9_readTest 12 = .ok (.aload_n 0, 1) := by decide +kernel
theorem dX9_readTest_13 : decode cX9_readTest 13 = .ok (.iload_n 1, 1) := by decide +kernel
theorem dX9_readTest_14 : decode cX9_readTest 14 = .ok (.invokevirtual 100, 3) := by decide +kernel
theorem dX9_readTest_17 : decode cX9_readTest 17 = .ok (.ifCond .ne 10, 3) := by decide +kernel
theorem dX9_readTest_20 : decode cX9_readTest 20 = .ok (.aload_n 0, 1) := by decide +kernel
theorem dX9_readTest_21 : decode cX9_readTest 21 = .ok (.iconst 1, 1) := by decide +kernel
theorem dX9_readTest_22 : decode cX9_readTest 22 = .ok (.putfield 38, 3) := by decide +kernel
theorem dX9_readTest_25 : decode cX9_readTest 25 = .ok (.iconst 0, 1) := by decide +kernel
theorem dX9_readTest_26 : decode cX9_readTest 26 = .ok (.ireturn, 1) := by decide +kernel
theorem dX9_readTest_27 : decode cX9_readTest 27 = .ok (.aload_n 0, 1) := by decide +kernel
theorem dX9_readTest_28 : decode cX9_readTest 28 = .ok (.aload_n 0, 1) := by decide +kernel
theorem dX9_readTest_29 : decode cX9_readTest 29 = .ok (.getfield 32, 3) := by decide +kernel
theorem dX9_readTest_32 : decode cX9_readTest 32 = .ok (.iconst 1, 1) := by decide +kernel
theorem dX9_readTest_33 : decode cX9_readTest 33 = .ok (.iadd, 1) := by decide +kernel
theorem dX9_readTest_34 : decode cX9_readTest 34 = .ok (.invokevirtual 44, 3) := by decide +kernel
theorem dX9_readTest_37 : decode cX9_readTest 37 = .ok (.aload_n 0, 1) := by decide +kernel
theorem dX9_readTest_38 : decode cX9_readTest 38 = .ok (.getfield 35, 3) := by decide +kernel
theorem dX9_readTest_41 : decode cX9_readTest 41 = .ok (.istore_n 2, 1) := by decide +kernel
theorem dX9_readTest_42 : decode cX9_readTest 42 = .ok (.iload_n 2, 1) := by decide +kernel
theorem dX9_readTest_43 : decode cX9_readTest 43 = .ok (.bipush 60, 2) := by decide +kernel
theorem dX9_readTest_45 : decode cX9_readTest 45 = .ok (.if_icmp .eq 22, 3) := by decide +kernel
theorem dX9_readTest_48 : decode cX9_readTest 48 = .ok (.iload_n 2, 1) := by decide +kernel
theorem dX9_readTest_49 : decode cX9_readTest 49 = .ok (.bipush 61, 2) := by decide +kernel
theorem dX9_readTest_51 : decode cX9_readTest 51 = .ok (.if_icmp .eq 16, 3) := by decide +kernel
theorem dX9_readTest_54 : decode cX9_readTest 54 = .ok (.iload_n 2, 1) := by decide +kernel
theorem dX9_readTest_55 : decode cX9_readTest 55 = .ok (.bipush 62, 2) := by decide +kernel
theorem dX9_readTest_57 : decode cX9_readTest 57 = .ok (.if_icmp .eq 10, 3) := by decide +kernel
theorem dX9_readTest_60 : decode cX9_readTest 60 = .ok (.aload_n 0, 1) := by decide +kernel
theorem dX9_readTest_61 : decode cX9_readTest 61 = .ok (.iconst 1, 1) := by decide +kernel
theorem dX9_readTest_62 : decode cX9_readTest 62 = .ok (.putfield 38, 3) := by decide +kernel
theorem dX9_readTest_65 : decode cX9_readTest 65 = .ok (.iconst 0, 1) := by decide +kernel
theorem dX9_readTest_66 : decode cX9_readTest 66 = .ok (.ireturn, 1) := by decide +kernel
theorem dX9_readTest_67 : decode cX9_readTest 67 = .ok (.aload_n 0, 1) := by decide +kernel
theorem dX9_readTest_68 : decode cX9_readTest 68 = .ok (.aload_n 0, 1) := by decide +kernel
theorem dX9_readTest_69 : decode cX9_readTest 69 = .ok (.getfield 32, 3) := by decide +kernel
theorem dX9_readTest_72 : decode cX9_readTest 72 = .ok (.iconst 1, 1) := by decide +kernel
theorem dX9_readTest_73 : decode cX9_readTest 73 = .ok (.iadd, 1) := by decide +kernel
theorem dX9_readTest_74 : decode cX9_readTest 74 = .ok (.invokevirtual 44, 3) := by decide +kernel
theorem dX9_readTest_77 : decode cX9_readTest 77 = .ok (.aload_n 0, 1) := by decide +kernel
theorem dX9_readTest_78 : decode cX9_readTest 78 = .ok (.invokevirtual 57, 3) := by decide +kernel
theorem dX9_readTest_81 : decode cX9_readTest 81 = .ok (.istore_n 3, 1) := by decide +kernel
theorem dX9_readTest_82 : decode cX9_readTest 82 = .ok (.aload_n 0, 1) := by decide +kernel
theorem dX9_readTest_83 : decode cX9_readTest 83 = .ok (.getfield 38, 3) := by decide +kernel
theorem dX9_readTest_86 : decode cX9_readTest 86 = .ok (.ifCond .eq 7, 3) := by decide +kernel
theorem dX9_readTest_89 : decode cX9_readTest 89 = .ok (.iconst 0, 1) := by decide +kernel
theorem dX9_readTest_90 : decode cX9_readTest 90 = .ok (.goto 10, 3) := by decide +kernel
theorem dX9_readTest_93 : decode cX9_readTest 93 = .ok (.aload_n 0, 1) := by decide +kernel
theorem dX9_readTest_94 : decode cX9_readTest 94 = .ok (.iload_n 1, 1) := by decide +kernel
theorem dX9_readTest_95 : decode cX9_readTest 95 = .ok (.iload_n 2, 1) := by decide +kernel
theorem dX9_readTest_96 : decode cX9_readTest 96 = .ok (.iload_n 3, 1) := by decide +kernel
theorem dX9_readTest_97 : decode cX9_readTest 97 = .ok (.invokevirtual 104, 3) := by decide +kernel
theorem dX9_readTest_100 : decode cX9_readTest 100 = .ok (.ireturn, 1) := by decide +kernel
theorem dX9_isLetter_0 : decode cX9_isLetter 0 = .ok (.iload_n 1, 1) := by decide +kernel
theorem dX9_isLetter_1 : decode cX9_isLetter 1 = .ok (.bipush 120, 2) := by decide +kernel
theorem dX9_isLetter_3 : decode cX9_isLetter 3 = .ok (.if_icmp .eq 33, 3) := by decide +kernel
theorem dX9_isLetter_6 : decode cX9_isLetter 6 = .ok (.iload_n 1, 1) := by decide +kernel
theorem dX9_isLetter_7 : decode cX9_isLetter 7 = .ok (.bipush 121, 2) := by decide +kernel
theorem dX9_isLetter_9 : decode cX9_isLetter 9 = .ok (.if_icmp .eq 27, 3) := by decide +kernel
theorem dX9_isLetter_12 : decode cX9_isLetter 12 = .ok (.iload_n 1, 1) := by decide +kernel
theorem dX9_isLetter_13 : decode cX9_isLetter 13 = .ok (.bipush 115, 2) := by decide +kernel
theorem dX9_isLetter_15 : decode cX9_isLetter 15 = .ok (.if_icmp .eq 21, 3) := by decide +kernel
theorem dX9_isLetter_18 : decode cX9_isLetter 18 = .ok (.iload_n 1, 1) := by decide +kernel
theorem dX9_isLetter_19 : decode cX9_isLetter 19 = .ok (.bipush 100, 2) := by decide +kernel
theorem dX9_isLetter_21 : decode cX9_isLetter 21 = .ok (.if_icmp .eq 15, 3) := by decide +kernel
theorem dX9_isLetter_24 : decode cX9_isLetter 24 = .ok (.iload_n 1, 1) := by decide +kernel
theorem dX9_isLetter_25 : decode cX9_isLetter 25 = .ok (.bipush 110, 2) := by decide +kernel
theorem dX9_isLetter_27 : decode cX9_isLetter 27 = .ok (.if_icmp .eq 9, 3) := by decide +kernel
theorem dX9_isLetter_30 : decode cX9_isLetter 30 = .ok (.iload_n 1, 1) := by decide +kernel
theorem dX9_isLetter_31 : decode cX9_isLetter 31 = .ok (.bipush 119, 2) := by decide +kernel
theorem dX9_isLetter_33 : decode cX9_isLetter 33 = .ok (.if_icmp .ne 7, 3) := by decide +kernel
theorem dX9_isLetter_36 : decode cX9_isLetter 36 = .ok (.iconst 1, 1) := by decide +kernel
theorem dX9_isLetter_37 : decode cX9_isLetter 37 = .ok (.goto 4, 3) := by decide +kernel
theorem dX9_isLetter_40 : decode cX9_isLetter 40 = .ok (.iconst 0, 1) := by decide +kernel
theorem dX9_isLetter_41 : decode cX9_isLetter 41 = .ok (.ireturn, 1) := by decide +kernel
theorem dX9_squaresOf_0 : decode cX9_squaresOf 0 = .ok (.iconst 0, 1) := by decide +kernel
theorem dX9_squaresOf_1 : decode cX9_squaresOf 1 = .ok (.istore 4, 2) := by decide +kernel
theorem dX9_squaresOf_3 : decode cX9_squaresOf 3 = .ok (.iconst 0, 1) := by decide +kernel
theorem dX9_squaresOf_4 : decode cX9_squaresOf 4 = .ok (.istore 5, 2) := by decide +kernel
theorem dX9_squaresOf_6 : decode cX9_squaresOf 6 = .ok (.iload 5, 2) := by decide +kernel
theorem dX9_squaresOf_8 : decode cX9_squaresOf 8 = .ok (.aload_n 0, 1) := by decide +kernel
theorem dX9_squaresOf_9 : decode cX9_squaresOf 9 = .ok (.getfield 41, 3) := by decide +kernel
theorem dX9_squaresOf_12 : decode cX9_squaresOf 12 = .ok (.if_icmp .ge 91, 3) := by decide +kernel
theorem dX9_squaresOf_15 : decode cX9_squaresOf 15 = .ok (.iconst 0, 1) := by decide +kernel
theorem dX9_squaresOf_16 : decode cX9_squaresOf 16 = .ok (.istore 6, 2) := by decide +kernel
theorem dX9_squaresOf_18 : decode cX9_squaresOf 18 = .ok (.iload 6, 2) := by decide +kernel
theorem dX9_squaresOf_20 : decode cX9_squaresOf 20 = .ok (.aload_n 0, 1) := by decide +kernel
theorem dX9_squaresOf_21 : decode cX9_squaresOf 21 = .ok (.getfield 41, 3) := by decide +kernel
theorem dX9_squaresOf_24 : decode cX9_squaresOf 24 = .ok (.if_icmp .ge 73, 3) := by decide +kernel
theorem dX9_squaresOf_27 : decode cX9_squaresOf 27 = .ok (.aload_n 0, 1) := by decide +kernel
theorem dX9_squaresOf_28 : decode cX9_squaresOf 28 = .ok (.iload_n 1, 1) := by decide +kernel
theorem dX9_squaresOf_29 : decode cX9_squaresOf 29 = .ok (.iload 6, 2) := by decide +kernel
theorem dX9_squaresOf_31 : decode cX9_squaresOf 31 = .ok (.iload 5, 2) := by decide +kernel
theorem dX9_squaresOf_33 : decode cX9_squaresOf 33 = .ok (.invokevirtual 108, 3) := by decide +kernel
theorem dX9_squaresOf_36 : decode cX9_squaresOf 36 = .ok (.istore 7, 2) := by decide +kernel
theorem dX9_squaresOf_38 : decode cX9_squaresOf 38 = .ok (.iload_n 2, 1) := by decide +kernel
theorem dX9_squaresOf_39 : decode cX9_squaresOf 39 = .ok (.bipush 60, 2) := by decide +kernel
theorem dX9_squaresOf_41 : decode cX9_squaresOf 41 = .ok (.if_icmp .ne 9, 3) := by decide +kernel
theorem dX9_squaresOf_44 : decode cX9_squaresOf 44 = .ok (.iload 7, 2) := by decide +kernel
theorem dX9_squaresOf_46 : decode cX9_squaresOf 46 = .ok (.iload_n 3, 1) := by decide +kernel
theorem dX9_squaresOf_47 : decode cX9_squaresOf 47 = .ok (.if_icmp .lt 27, 3) := by decide +kernel
theorem dX9_squaresOf_50 : decode cX9_squaresOf 50 = .ok (.iload_n 2, 1) := by decide +kernel
theorem dX9_squaresOf_51 : decode cX9_squaresOf 51 = .ok (.bipush 61, 2) := by decide +kernel
theorem dX9_squaresOf_53 : decode cX9_squaresOf 53 = .ok (.if_icmp .ne 9, 3) := by decide +kernel
theorem dX9_squaresOf_56 : decode cX9_squaresOf 56 = .ok (.iload 7, 2) := by decide +kernel
theorem dX9_squaresOf_58 : decode cX9_squaresOf 58 = .ok (.iload_n 3, 1) := by decide +kernel
theorem dX9_squaresOf_59 : decode cX9_squaresOf 59 = .ok (.if_icmp .eq 15, 3) := by decide +kernel
theorem dX9_squaresOf_62 : decode cX9_squaresOf 62 = .ok (.iload_n 2, 1) := by decide +kernel
theorem dX9_squaresOf_63 : decode cX9_squaresOf 63 = .ok (.bipush 62, 2) := by decide +kernel
theorem dX9_squaresOf_65 : decode cX9_squaresOf 65 = .ok (.if_icmp .ne 26, 3) := by decide +kernel
theorem dX9_squaresOf_68 : decode cX9_squaresOf 68 = .ok (.iload 7, 2) := by decide +kernel
theorem dX9_squaresOf_70 : decode cX9_squaresOf 70 = .ok (.iload_n 3, 1) := by decide +kernel
theorem dX9_squaresOf_71 : decode cX9_squaresOf 71 = .ok (.if_icmp .le 20, 3) := by decide +kernel
theorem dX9_squaresOf_74 : decode cX9_squaresOf 74 = .ok (.iload 4, 2) := by decide +kernel
theorem dX9_squaresOf_76 : decode cX9_squaresOf 76 = .ok (.iconst 1, 1) := by decide +kernel
theorem dX9_squaresOf_77 : decode cX9_squaresOf 77 = .ok (.iload 5, 2) := by decide +kernel
theorem dX9_squaresOf_79 : decode cX9_squaresOf 79 = .ok (.aload_n 0, 1) := by decide +kernel
theorem dX9_squaresOf_80 : decode cX9_squaresOf 80 = .ok (.getfield 41, 3) := by decide +kernel
theorem dX9_squaresOf_83 : decode cX9_squaresOf 83 = .ok (.imul, 1) := by decide +kernel
theorem dX9_squaresOf_84 : decode cX9_squaresOf 84 = .ok (.iload 6, 2) := by decide +kernel
theorem dX9_squaresOf_86 : decode cX9_squaresOf 86 = .ok (.iadd, 1) := by decide +kernel
theorem dX9_squaresOf_87 : decode cX9_squaresOf 87 = .ok (.ishl, 1) := by decide +kernel
theorem dX9_squaresOf_88 : decode cX9_squaresOf 88 = .ok (.ior, 1) := by decide +kernel
theorem dX9_squaresOf_89 : decode cX9_squaresOf 89 = .ok (.istore 4, 2) := by decide +kernel
theorem dX9_squaresOf_91 : decode cX9_squaresOf 91 = .ok (.iinc 6 1, 3) := by decide +kernel
theorem dX9_squaresOf_94 : decode cX9_squaresOf 94 = .ok (.goto (-76), 3) := by decide +kernel
theorem dX9_squaresOf_97 : decode cX9_squaresOf 97 = .ok (.iinc 5 1, 3) := by decide +kernel
theorem dX9_squaresOf_100 : decode cX9_squaresOf 100 = .ok (.goto (-94), 3) := by decide +kernel
theorem dX9_squaresOf_103 : decode cX9_squaresOf 103 = .ok (.iload 4, 2) := by decide +kernel
theorem dX9_squaresOf_105 : decode cX9_squaresOf 105 = .ok (.ireturn, 1) := by decide +kernel
theorem dX9_numberOf_0 : decode cX9_numberOf 0 = .ok (.iload_n 1, 1) := by decide +kernel
theorem dX9_numberOf_1 : decode cX9_numberOf 1 = .ok (.lookupswitch 83 #[(100, 59), (110, 74), (115, 55), (120, 51), (121, 53)], 51) := by decide +kernel
theorem dX9_numberOf_52 : decode cX9_numberOf 52 = .ok (.iload_n 2, 1) := by decide +kernel
theorem dX9_numberOf_53 : decode cX9_numberOf 53 = .ok (.ireturn, 1) := by decide +kernel
theorem dX9_numberOf_54 : decode cX9_numberOf 54 = .ok (.iload_n 3, 1) := by decide +kernel
theorem dX9_numberOf_55 : decode cX9_numberOf 55 = .ok (.ireturn, 1) := by decide +kernel
theorem dX9_numberOf_56 : decode cX9_numberOf 56 = .ok (.iload_n 2, 1) := by decide +kernel
theorem dX9_numberOf_57 : decode cX9_numberOf 57 = .ok (.iload_n 3, 1) := by decide +kernel
theorem dX9_numberOf_58 : decode cX9_numberOf 58 = .ok (.iadd, 1) := by decide +kernel
theorem dX9_numberOf_59 : decode cX9_numberOf 59 = .ok (.ireturn, 1) := by decide +kernel
theorem dX9_numberOf_60 : decode cX9_numberOf 60 = .ok (.iload_n 2, 1) := by decide +kernel
theorem dX9_numberOf_61 : decode cX9_numberOf 61 = .ok (.iload_n 3, 1) := by decide +kernel
theorem dX9_numberOf_62 : decode cX9_numberOf 62 = .ok (.if_icmp .ge 9, 3) := by decide +kernel
theorem dX9_numberOf_65 : decode cX9_numberOf 65 = .ok (.iload_n 3, 1) := by decide +kernel
theorem dX9_numberOf_66 : decode cX9_numberOf 66 = .ok (.iload_n 2, 1) := by decide +kernel
theorem dX9_numberOf_67 : decode cX9_numberOf 67 = .ok (.isub, 1) := by decide +kernel
theorem dX9_numberOf_68 : decode cX9_numberOf 68 = .ok (.goto 6, 3) := by decide +kernel
theorem dX9_numberOf_71 : decode cX9_numberOf 71 = .ok (.iload_n 2, 1) := by decide +kernel
theorem dX9_numberOf_72 : decode cX9_numberOf 72 = .ok (.iload_n 3, 1) := by decide +kernel
theorem dX9_numberOf_73 : decode cX9_numberOf 73 = .ok (.isub, 1) := by decide +kernel
theorem dX9_numberOf_74 : decode cX9_numberOf 74 = .ok (.ireturn, 1) := by decide +kernel
theorem dX9_numberOf_75 : decode cX9_numberOf 75 = .ok (.iload_n 3, 1) := by decide +kernel
theorem dX9_numberOf_76 : decode cX9_numberOf 76 = .ok (.aload_n 0, 1) := by decide +kernel
theorem dX9_numberOf_77 : decode cX9_numberOf 77 = .ok (.getfield 41, 3) := by decide +kernel
theorem dX9_numberOf_80 : decode cX9_numberOf 80 = .ok (.imul, 1) := by decide +kernel
theorem dX9_numberOf_81 : decode cX9_numberOf 81 = .ok (.iload_n 2, 1) := by decide +kernel
theorem dX9_numberOf_82 : decode cX9_numberOf 82 = .ok (.iadd, 1) := by decide +kernel
theorem dX9_numberOf_83 : decode cX9_numberOf 83 = .ok (.ireturn, 1) := by decide +kernel
theorem dX9_numberOf_84 : decode cX9_numberOf 84 = .ok (.aload_n 0, 1) := by decide +kernel
theorem dX9_numberOf_85 : decode cX9_numberOf 85 = .ok (.getfield 41, 3) := by decide +kernel
theorem dX9_numberOf_88 : decode cX9_numberOf 88 = .ok (.ireturn, 1) := by decide +kernel
theorem dJ6_bitCount_0f7a4_0 : decode cJ6_bitCount_0f7a4 0 = .ok (.iload_n 0, 1) := by decide +kernel
theorem dJ6_bitCount_0f7a4_1 : decode cJ6_bitCount_0f7a4 1 = .ok (.iload_n 0, 1) := by decide +kernel
theorem dJ6_bitCount_0f7a4_2 : decode cJ6_bitCount_0f7a4 2 = .ok (.iconst 1, 1) := by decide +kernel
theorem dJ6_bitCount_0f7a4_3 : decode cJ6_bitCount_0f7a4 3 = .ok (.iushr, 1) := by decide +kernel
theorem dJ6_bitCount_0f7a4_4 : decode cJ6_bitCount_0f7a4 4 = .ok (.ldc_w 265, 3) := by decide +kernel
theorem dJ6_bitCount_0f7a4_7 : decode cJ6_bitCount_0f7a4 7 = .ok (.iand, 1) := by decide +kernel
theorem dJ6_bitCount_0f7a4_8 : decode cJ6_bitCount_0f7a4 8 = .ok (.isub, 1) := by decide +kernel
theorem dJ6_bitCount_0f7a4_9 : decode cJ6_bitCount_0f7a4 9 = .ok (.istore_n 0, 1) := by decide +kernel
theorem dJ6_bitCount_0f7a4_10 : decode cJ6_bitCount_0f7a4 10 = .ok (.iload_n 0, 1) := by decide +kernel
theorem dJ6_bitCount_0f7a4_11 : decode cJ6_bitCount_0f7a4 11 = .ok (.ldc_w 266, 3) := by decide +kernel
theorem dJ6_bitCount_0f7a4_14 : decode cJ6_bitCount_0f7a4 14 = .ok (.iand, 1) := by decide +kernel
theorem dJ6_bitCount_0f7a4_15 : decode cJ6_bitCount_0f7a4 15 = .ok (.iload_n 0, 1) := by decide +kernel
theorem dJ6_bitCount_0f7a4_16 : decode cJ6_bitCount_0f7a4 16 = .ok (.iconst 2, 1) := by decide +kernel
theorem dJ6_bitCount_0f7a4_17 : decode cJ6_bitCount_0f7a4 17 = .ok (.iushr, 1) := by decide +kernel
theorem dJ6_bitCount_0f7a4_18 : decode cJ6_bitCount_0f7a4 18 = .ok (.ldc_w 266, 3) := by decide +kernel
theorem dJ6_bitCount_0f7a4_21 : decode cJ6_bitCount_0f7a4 21 = .ok (.iand, 1) := by decide +kernel
theorem dJ6_bitCount_0f7a4_22 : decode cJ6_bitCount_0f7a4 22 = .ok (.iadd, 1) := by decide +kernel
theorem dJ6_bitCount_0f7a4_23 : decode cJ6_bitCount_0f7a4 23 = .ok (.istore_n 0, 1) := by decide +kernel
theorem dJ6_bitCount_0f7a4_24 : decode cJ6_bitCount_0f7a4 24 = .ok (.iload_n 0, 1) := by decide +kernel
theorem dJ6_bitCount_0f7a4_25 : decode cJ6_bitCount_0f7a4 25 = .ok (.iload_n 0, 1) := by decide +kernel
theorem dJ6_bitCount_0f7a4_26 : decode cJ6_bitCount_0f7a4 26 = .ok (.iconst 4, 1) := by decide +kernel
theorem dJ6_bitCount_0f7a4_27 : decode cJ6_bitCount_0f7a4 27 = .ok (.iushr, 1) := by decide +kernel
theorem dJ6_bitCount_0f7a4_28 : decode cJ6_bitCount_0f7a4 28 = .ok (.iadd, 1) := by decide +kernel
theorem dJ6_bitCount_0f7a4_29 : decode cJ6_bitCount_0f7a4 29 = .ok (.ldc_w 267, 3) := by decide +kernel
theorem dJ6_bitCount_0f7a4_32 : decode cJ6_bitCount_0f7a4 32 = .ok (.iand, 1) := by decide +kernel
theorem dJ6_bitCount_0f7a4_33 : decode cJ6_bitCount_0f7a4 33 = .ok (.istore_n 0, 1) := by decide +kernel
theorem dJ6_bitCount_0f7a4_34 : decode cJ6_bitCount_0f7a4 34 = .ok (.iload_n 0, 1) := by decide +kernel
theorem dJ6_bitCount_0f7a4_35 : decode cJ6_bitCount_0f7a4 35 = .ok (.iload_n 0, 1) := by decide +kernel
theorem dJ6_bitCount_0f7a4_36 : decode cJ6_bitCount_0f7a4 36 = .ok (.bipush 8, 2) := by decide +kernel
theorem dJ6_bitCount_0f7a4_38 : decode cJ6_bitCount_0f7a4 38 = .ok (.iushr, 1) := by decide +kernel
theorem dJ6_bitCount_0f7a4_39 : decode cJ6_bitCount_0f7a4 39 = .ok (.iadd, 1) := by decide +kernel
theorem dJ6_bitCount_0f7a4_40 : decode cJ6_bitCount_0f7a4 40 = .ok (.istore_n 0, 1) := by decide +kernel
theorem dJ6_bitCount_0f7a4_41 : decode cJ6_bitCount_0f7a4 41 = .ok (.iload_n 0, 1) := by decide +kernel
theorem dJ6_bitCount_0f7a4_42 : decode cJ6_bitCount_0f7a4 42 = .ok (.iload_n 0, 1) := by decide +kernel
theorem dJ6_bitCount_0f7a4_43 : decode cJ6_bitCount_0f7a4 43 = .ok (.bipush 16, 2) := by decide +kernel
theorem dJ6_bitCount_0f7a4_45 : decode cJ6_bitCount_0f7a4 45 = .ok (.iushr, 1) := by decide +kernel
theorem dJ6_bitCount_0f7a4_46 : decode cJ6_bitCount_0f7a4 46 = .ok (.iadd, 1) := by decide +kernel
theorem dJ6_bitCount_0f7a4_47 : decode cJ6_bitCount_0f7a4 47 = .ok (.istore_n 0, 1) := by decide +kernel
theorem dJ6_bitCount_0f7a4_48 : decode cJ6_bitCount_0f7a4 48 = .ok (.iload_n 0, 1) := by decide +kernel
theorem dJ6_bitCount_0f7a4_49 : decode cJ6_bitCount_0f7a4 49 = .ok (.bipush 63, 2) := by decide +kernel
theorem dJ6_bitCount_0f7a4_51 : decode cJ6_bitCount_0f7a4 51 = .ok (.iand, 1) := by decide +kernel
theorem dJ6_bitCount_0f7a4_52 : decode cJ6_bitCount_0f7a4 52 = .ok (.ireturn, 1) := by decide +kernel
theorem dJ9_floorMod_7cf53_0 : decode cJ9_floorMod_7cf53 0 = .ok (.iload_n 0, 1) := by decide +kernel
theorem dJ9_floorMod_7cf53_1 : decode cJ9_floorMod_7cf53 1 = .ok (.iload_n 1, 1) := by decide +kernel
theorem dJ9_floorMod_7cf53_2 : decode cJ9_floorMod_7cf53 2 = .ok (.irem, 1) := by decide +kernel
theorem dJ9_floorMod_7cf53_3 : decode cJ9_floorMod_7cf53 3 = .ok (.istore_n 2, 1) := by decide +kernel
theorem dJ9_floorMod_7cf53_4 : decode cJ9_floorMod_7cf53 4 = .ok (.iload_n 0, 1) := by decide +kernel
theorem dJ9_floorMod_7cf53_5 : decode cJ9_floorMod_7cf53 5 = .ok (.iload_n 1, 1) := by decide +kernel
theorem dJ9_floorMod_7cf53_6 : decode cJ9_floorMod_7cf53 6 = .ok (.ixor, 1) := by decide +kernel
theorem dJ9_floorMod_7cf53_7 : decode cJ9_floorMod_7cf53 7 = .ok (.ifCond .ge 11, 3) := by decide +kernel
theorem dJ9_floorMod_7cf53_10 : decode cJ9_floorMod_7cf53 10 = .ok (.iload_n 2, 1) := by decide +kernel
theorem dJ9_floorMod_7cf53_11 : decode cJ9_floorMod_7cf53 11 = .ok (.ifCond .eq 7, 3) := by decide +kernel
theorem dJ9_floorMod_7cf53_14 : decode cJ9_floorMod_7cf53 14 = .ok (.iload_n 2, 1) := by decide +kernel
theorem dJ9_floorMod_7cf53_15 : decode cJ9_floorMod_7cf53 15 = .ok (.iload_n 1, 1) := by decide +kernel
theorem dJ9_floorMod_7cf53_16 : decode cJ9_floorMod_7cf53 16 = .ok (.iadd, 1) := by decide +kernel
theorem dJ9_floorMod_7cf53_17 : decode cJ9_floorMod_7cf53 17 = .ok (.ireturn, 1) := by decide +kernel
theorem dJ9_floorMod_7cf53_18 : decode cJ9_floorMod_7cf53 18 = .ok (.iload_n 2, 1) := by decide +kernel
theorem dJ9_floorMod_7cf53_19 : decode cJ9_floorMod_7cf53 19 = .ok (.ireturn, 1) := by decide +kernel
theorem dJ9_max_7cf53_0 : decode cJ9_max_7cf53 0 = .ok (.iload_n 0, 1) := by decide +kernel
theorem dJ9_max_7cf53_1 : decode cJ9_max_7cf53 1 = .ok (.iload_n 1, 1) := by decide +kernel
theorem dJ9_max_7cf53_2 : decode cJ9_max_7cf53 2 = .ok (.if_icmp .lt 7, 3) := by decide +kernel
theorem dJ9_max_7cf53_5 : decode cJ9_max_7cf53 5 = .ok (.iload_n 0, 1) := by decide +kernel
theorem dJ9_max_7cf53_6 : decode cJ9_max_7cf53 6 = .ok (.goto 4, 3) := by decide +kernel
theorem dJ9_max_7cf53_9 : decode cJ9_max_7cf53 9 = .ok (.iload_n 1, 1) := by decide +kernel
theorem dJ9_max_7cf53_10 : decode cJ9_max_7cf53 10 = .ok (.ireturn, 1) := by decide +kernel
theorem dJ9_min_7cf53_0 : decode cJ9_min_7cf53 0 = .ok (.iload_n 0, 1) := by decide +kernel
theorem dJ9_min_7cf53_1 : decode cJ9_min_7cf53 1 = .ok (.iload_n 1, 1) := by decide +kernel
theorem dJ9_min_7cf53_2 : decode cJ9_min_7cf53 2 = .ok (.if_icmp .gt 7, 3) := by decide +kernel
theorem dJ9_min_7cf53_5 : decode cJ9_min_7cf53 5 = .ok (.iload_n 0, 1) := by decide +kernel
theorem dJ9_min_7cf53_6 : decode cJ9_min_7cf53 6 = .ok (.goto 4, 3) := by decide +kernel
theorem dJ9_min_7cf53_9 : decode cJ9_min_7cf53 9 = .ok (.iload_n 1, 1) := by decide +kernel
theorem dJ9_min_7cf53_10 : decode cJ9_min_7cf53 10 = .ok (.ireturn, 1) := by decide +kernel
theorem dJ0_length_8abf5_0 : decode cJ0_length_8abf5 0 = .ok (.aload_n 0, 1) := by decide +kernel
theorem dJ0_length_8abf5_1 : decode cJ0_length_8abf5 1 = .ok (.getfield 9, 3) := by decide +kernel
theorem dJ0_length_8abf5_4 : decode cJ0_length_8abf5 4 = .ok (.arraylength, 1) := by decide +kernel
theorem dJ0_length_8abf5_5 : decode cJ0_length_8abf5 5 = .ok (.aload_n 0, 1) := by decide +kernel
theorem dJ0_length_8abf5_6 : decode cJ0_length_8abf5 6 = .ok (.invokevirtual 335, 3) := by decide +kernel
theorem dJ0_length_8abf5_9 : decode cJ0_length_8abf5 9 = .ok (.ishr, 1) := by decide +kernel
theorem dJ0_length_8abf5_10 : decode cJ0_length_8abf5 10 = .ok (.ireturn, 1) := by decide +kernel
theorem dJ0_charAt_5068e_0 : decode cJ0_charAt_5068e 0 = .ok (.aload_n 0, 1) := by decide +kernel
theorem dJ0_charAt_5068e_1 : decode cJ0_charAt_5068e 1 = .ok (.invokevirtual 492, 3) := by decide +kernel
theorem dJ0_charAt_5068e_4 : decode cJ0_charAt_5068e 4 = .ok (.ifCond .eq 12, 3) := by decide +kernel
theorem dJ0_charAt_5068e_7 : decode cJ0_charAt_5068e 7 = .ok (.aload_n 0, 1) := by decide +kernel
theorem dJ0_charAt_5068e_8 : decode cJ0_charAt_5068e 8 = .ok (.getfield 9, 3) := by decide +kernel
theorem dJ0_charAt_5068e_11 : decode cJ0_charAt_5068e 11 = .ok (.iload_n 1, 1) := by decide +kernel
theorem dJ0_charAt_5068e_12 : decode cJ0_charAt_5068e 12 = .ok (.invokestatic 495, 3) := by decide +kernel
theorem dJ0_charAt_5068e_15 : decode cJ0_charAt_5068e 15 = .ok (.ireturn, 1) := by decide +kernel
theorem dJ0_charAt_5068e_16 : decode cJ0_charAt_5068e 16 = .ok (.aload_n 0, 1) := by decide +kernel
theorem dJ0_charAt_5068e_17 : decode cJ0_charAt_5068e 17 = .ok (.getfield 9, 3) := by decide +kernel
theorem dJ0_charAt_5068e_20 : decode cJ0_charAt_5068e 20 = .ok (.iload_n 1, 1) := by decide +kernel
theorem dJ0_charAt_5068e_21 : decode cJ0_charAt_5068e 21 = .ok (.invokestatic 498, 3) := by decide +kernel
theorem dJ0_charAt_5068e_24 : decode cJ0_charAt_5068e 24 = .ok (.ireturn, 1) := by decide +kernel
theorem dJ0_coder_7d493_0 : decode cJ0_coder_7d493 0 = .ok (.getstatic 38, 3) := by decide +kernel
theorem dJ0_coder_7d493_3 : decode cJ0_coder_7d493 3 = .ok (.ifCond .eq 10, 3) := by decide +kernel
theorem dJ0_coder_7d493_6 : decode cJ0_coder_7d493 6 = .ok (.aload_n 0, 1) := by decide +kernel
theorem dJ0_coder_7d493_7 : decode cJ0_coder_7d493 7 = .ok (.getfield 15, 3) := by decide +kernel
theorem dJ0_coder_7d493_10 : decode cJ0_coder_7d493 10 = .ok (.goto 4, 3) := by decide +kernel
theorem dJ0_coder_7d493_13 : decode cJ0_coder_7d493 13 = .ok (.iconst 1, 1) := by decide +kernel
theorem dJ0_coder_7d493_14 : decode cJ0_coder_7d493 14 = .ok (.ireturn, 1) := by decide +kernel
theorem dJ0_isLatin1_aae02_0 : decode cJ0_isLatin1_aae02 0 = .ok (.getstatic 38, 3) := by decide +kernel
theorem dJ0_isLatin1_aae02_3 : decode cJ0_isLatin1_aae02 3 = .ok (.ifCond .eq 14, 3) := by decide +kernel
theorem dJ0_isLatin1_aae02_6 : decode cJ0_isLatin1_aae02 6 = .ok (.aload_n 0, 1) := by decide +kernel
theorem dJ0_isLatin1_aae02_7 : decode cJ0_isLatin1_aae02 7 = .ok (.getfield 15, 3) := by decide +kernel
theorem dJ0_isLatin1_aae02_10 : decode cJ0_isLatin1_aae02 10 = .ok (.ifCond .ne 7, 3) := by decide +kernel
theorem dJ0_isLatin1_aae02_13 : decode cJ0_isLatin1_aae02 13 = .ok (.iconst 1, 1) := by decide +kernel
theorem dJ0_isLatin1_aae02_14 : decode cJ0_isLatin1_aae02 14 = .ok (.goto 4, 3) := by decide +kernel
theorem dJ0_isLatin1_aae02_17 : decode cJ0_isLatin1_aae02 17 = .ok (.iconst 0, 1) := by decide +kernel
theorem dJ0_isLatin1_aae02_18 : decode cJ0_isLatin1_aae02 18 = .ok (.ireturn, 1) := by decide +kernel
theorem dJ0_checkIndex_df160_0 : decode cJ0_checkIndex_df160 0 = .ok (.iload_n 0, 1) := by decide +kernel
theorem dJ0_checkIndex_df160_1 : decode cJ0_checkIndex_df160 1 = .ok (.iload_n 1, 1) := by decide +kernel
theorem dJ0_checkIndex_df160_2 : decode cJ0_checkIndex_df160 2 = .ok (.getstatic 1053, 3) := by decide +kernel
theorem dJ0_checkIndex_df160_5 : decode cJ0_checkIndex_df160 5 = .ok (.invokestatic 1059, 3) := by decide +kernel
theorem dJ0_checkIndex_df160_8 : decode cJ0_checkIndex_df160 8 = .ok (.pop, 1) := by decide +kernel
theorem dJ0_checkIndex_df160_9 : decode cJ0_checkIndex_df160 9 = .ok (.return_, 1) := by decide +kernel
theorem dJ1_charAt_3b067_0 : decode cJ1_charAt_3b067 0 = .ok (.iload_n 1, 1) := by decide +kernel
theorem dJ1_charAt_3b067_1 : decode cJ1_charAt_3b067 1 = .ok (.aload_n 0, 1) := by decide +kernel
theorem dJ1_charAt_3b067_2 : decode cJ1_charAt_3b067 2 = .ok (.arraylength, 1) := by decide +kernel
theorem dJ1_charAt_3b067_3 : decode cJ1_charAt_3b067 3 = .ok (.invokestatic 9, 3) := by decide +kernel
theorem dJ1_charAt_3b067_6 : decode cJ1_charAt_3b067 6 = .ok (.aload_n 0, 1) := by decide +kernel
theorem dJ1_charAt_3b067_7 : decode cJ1_charAt_3b067 7 = .ok (.iload_n 1, 1) := by decide +kernel
theorem dJ1_charAt_3b067_8 : decode cJ1_charAt_3b067 8 = .ok (.baload, 1) := by decide +kernel
theorem dJ1_charAt_3b067_9 : decode cJ1_charAt_3b067 9 = .ok (.sipush 255, 3) := by decide +kernel
theorem dJ1_charAt_3b067_12 : decode cJ1_charAt_3b067 12 = .ok (.iand, 1) := by decide +kernel
theorem dJ1_charAt_3b067_13 : decode cJ1_charAt_3b067 13 = .ok (.i2c, 1) := by decide +kernel
theorem dJ1_charAt_3b067_14 : decode cJ1_charAt_3b067 14 = .ok (.ireturn, 1) := by decide +kernel
theorem dJ2_getChar_3b067_0 : decode cJ2_getChar_3b067 0 = .ok (.getstatic 44, 3) := by decide +kernel
theorem dJ2_getChar_3b067_3 : decode cJ2_getChar_3b067 3 = .ok (.ifCond .ne 25, 3) := by decide +kernel
theorem dJ2_getChar_3b067_6 : decode cJ2_getChar_3b067 6 = .ok (.iload_n 1, 1) := by decide +kernel
theorem dJ2_getChar_3b067_7 : decode cJ2_getChar_3b067 7 = .ok (.ifCond .lt 11, 3) := by decide +kernel
theorem dJ2_getChar_3b067_10 : decode cJ2_getChar_3b067 10 = .ok (.iload_n 1, 1) := by decide +kernel
theorem dJ2_getChar_3b067_11 : decode cJ2_getChar_3b067 11 = .ok (.aload_n 0, 1) := by decide +kernel
theorem dJ2_getChar_3b067_12 : decode cJ2_getChar_3b067 12 = .ok (.invokestatic 48, 3) := by decide +kernel
theorem dJ2_getChar_3b067_15 : decode cJ2_getChar_3b067 15 = .ok (.if_icmp .lt 13, 3) := by decide +kernel
theorem dJ2_getChar_3b067_18 : decode cJ2_getChar_3b067 18 = .ok (.new 52, 3) := by decide +kernel
theorem dJ2_getChar_3b067_21 : decode cJ2_getChar_3b067 21 = .ok (.dup, 1) := by decide +kernel
theorem dJ2_getChar_3b067_22 : decode cJ2_getChar_3b067 22 = .ok (.ldc 54, 2) := by decide +kernel
theorem dJ2_getChar_3b067_24 : decode cJ2_getChar_3b067 24 = .ok (.invokespecial 56, 3) := by decide +kernel
theorem dJ2_getChar_3b067_27 : decode cJ2_getChar_3b067 27 = .ok (.athrow, 1) := by decide +kernel
theorem dJ2_getChar_3b067_28 : decode cJ2_getChar_3b067 28 = .ok (.iload_n 1, 1) := by decide +kernel
theorem dJ2_getChar_3b067_29 : decode cJ2_getChar_3b067 29 = .ok (.iconst 1, 1) := by decide +kernel
theorem dJ2_getChar_3b067_30 : decode cJ2_getChar_3b067 30 = .ok (.ishl, 1) := by decide +kernel
theorem dJ2_getChar_3b067_31 : decode cJ2_getChar_3b067 31 = .ok (.istore_n 1, 1) := by decide +kernel
theorem dJ2_getChar_3b067_32 : decode cJ2_getChar_3b067 32 = .ok (.aload_n 0, 1) := by decide +kernel
theorem dJ2_getChar_3b067_33 : decode cJ2_getChar_3b067 33 = .ok (.iload_n 1, 1) := by decide +kernel
theorem dJ2_getChar_3b067_34 : decode cJ2_getChar_3b067 34 = .ok (.iinc 1 1, 3) := by decide +kernel
theorem dJ2_getChar_3b067_37 : decode cJ2_getChar_3b067 37 = .ok (.baload, 1) := by decide +kernel
theorem dJ2_getChar_3b067_38 : decode cJ2_getChar_3b067 38 = .ok (.sipush 255, 3) := by decide +kernel
theorem dJ2_getChar_3b067_41 : decode cJ2_getChar_3b067 41 = .ok (.iand, 1) := by decide +kernel
theorem dJ2_getChar_3b067_42 : decode cJ2_getChar_3b067 42 = .ok (.getstatic 59, 3) := by decide +kernel
theorem dJ2_getChar_3b067_45 : decode cJ2_getChar_3b067 45 = .ok (.ishl, 1) := by decide +kernel
theorem dJ2_getChar_3b067_46 : decode cJ2_getChar_3b067 46 = .ok (.aload_n 0, 1) := by decide +kernel
theorem dJ2_getChar_3b067_47 : decode cJ2_getChar_3b067 47 = .ok (.iload_n 1, 1) := by decide +kernel
theorem dJ2_getChar_3b067_48 : decode cJ2_getChar_3b067 48 = .ok (.baload, 1) := by decide +kernel
theorem dJ2_getChar_3b067_49 : decode cJ2_getChar_3b067 49 = .ok (.sipush 255, 3) := by decide +kernel
theorem dJ2_getChar_3b067_52 : decode cJ2_getChar_3b067 52 = .ok (.iand, 1) := by decide +kernel
theorem dJ2_getChar_3b067_53 : decode cJ2_getChar_3b067 53 = .ok (.getstatic 63, 3) := by decide +kernel
theorem dJ2_getChar_3b067_56 : decode cJ2_getChar_3b067 56 = .ok (.ishl, 1) := by decide +kernel
theorem dJ2_getChar_3b067_57 : decode cJ2_getChar_3b067 57 = .ok (.ior, 1) := by decide +kernel
theorem dJ2_getChar_3b067_58 : decode cJ2_getChar_3b067 58 = .ok (.i2c, 1) := by decide +kernel
theorem dJ2_getChar_3b067_59 : decode cJ2_getChar_3b067 59 = .ok (.ireturn, 1) := by decide +kernel
theorem dJ2_length_9d52b_0 : decode cJ2_length_9d52b 0 = .ok (.aload_n 0, 1) := by decide +kernel
theorem dJ2_length_9d52b_1 : decode cJ2_length_9d52b 1 = .ok (.arraylength, 1) := by decide +kernel
theorem dJ2_length_9d52b_2 : decode cJ2_length_9d52b 2 = .ok (.iconst 1, 1) := by decide +kernel
theorem dJ2_length_9d52b_3 : decode cJ2_length_9d52b 3 = .ok (.ishr, 1) := by decide +kernel
theorem dJ2_length_9d52b_4 : decode cJ2_length_9d52b 4 = .ok (.ireturn, 1) := by decide +kernel
theorem dJ2_charAt_3b067_0 : decode cJ2_charAt_3b067 0 = .ok (.iload_n 1, 1) := by decide +kernel
theorem dJ2_charAt_3b067_1 : decode cJ2_charAt_3b067 1 = .ok (.aload_n 0, 1) := by decide +kernel
theorem dJ2_charAt_3b067_2 : decode cJ2_charAt_3b067 2 = .ok (.invokestatic 67, 3) := by decide +kernel
theorem dJ2_charAt_3b067_5 : decode cJ2_charAt_3b067 5 = .ok (.aload_n 0, 1) := by decide +kernel
theorem dJ2_charAt_3b067_6 : decode cJ2_charAt_3b067 6 = .ok (.iload_n 1, 1) := by decide +kernel
theorem dJ2_charAt_3b067_7 : decode cJ2_charAt_3b067 7 = .ok (.invokestatic 71, 3) := by decide +kernel
theorem dJ2_charAt_3b067_10 : decode cJ2_charAt_3b067 10 = .ok (.ireturn, 1) := by decide +kernel
theorem dJ2_checkIndex_2214a_0 : decode cJ2_checkIndex_2214a 0 = .ok (.iload_n 0, 1) := by decide +kernel
theorem dJ2_checkIndex_2214a_1 : decode cJ2_checkIndex_2214a 1 = .ok (.aload_n 1, 1) := by decide +kernel
theorem dJ2_checkIndex_2214a_2 : decode cJ2_checkIndex_2214a 2 = .ok (.invokestatic 48, 3) := by decide +kernel
theorem dJ2_checkIndex_2214a_5 : decode cJ2_checkIndex_2214a 5 = .ok (.invokestatic 414, 3) := by decide +kernel
theorem dJ2_checkIndex_2214a_8 : decode cJ2_checkIndex_2214a 8 = .ok (.return_, 1) := by decide +kernel
theorem dJ7_fill_53178_0 : decode cJ7_fill_53178 0 = .ok (.iconst 0, 1) := by decide +kernel
theorem dJ7_fill_53178_1 : decode cJ7_fill_53178 1 = .ok (.istore_n 2, 1) := by decide +kernel
theorem dJ7_fill_53178_2 : decode cJ7_fill_53178 2 = .ok (.aload_n 0, 1) := by decide +kernel
theorem dJ7_fill_53178_3 : decode cJ7_fill_53178 3 = .ok (.arraylength, 1) := by decide +kernel
theorem dJ7_fill_53178_4 : decode cJ7_fill_53178 4 = .ok (.istore_n 3, 1) := by decide +kernel
theorem dJ7_fill_53178_5 : decode cJ7_fill_53178 5 = .ok (.iload_n 2, 1) := by decide +kernel
theorem dJ7_fill_53178_6 : decode cJ7_fill_53178 6 = .ok (.iload_n 3, 1) := by decide +kernel
theorem dJ7_fill_53178_7 : decode cJ7_fill_53178 7 = .ok (.if_icmp .ge 13, 3) := by decide +kernel
theorem dJ7_fill_53178_10 : decode cJ7_fill_53178 10 = .ok (.aload_n 0, 1) := by decide +kernel
theorem dJ7_fill_53178_11 : decode cJ7_fill_53178 11 = .ok (.iload_n 2, 1) := by decide +kernel
theorem dJ7_fill_53178_12 : decode cJ7_fill_53178 12 = .ok (.iload_n 1, 1) := by decide +kernel
theorem dJ7_fill_53178_13 : decode cJ7_fill_53178 13 = .ok (.iastore, 1) := by decide +kernel
theorem dJ7_fill_53178_14 : decode cJ7_fill_53178 14 = .ok (.iinc 2 1, 3) := by decide +kernel
theorem dJ7_fill_53178_17 : decode cJ7_fill_53178 17 = .ok (.goto (-12), 3) := by decide +kernel
theorem dJ7_fill_53178_20 : decode cJ7_fill_53178 20 = .ok (.return_, 1) := by decide +kernel
theorem dJ3_checkIndex_8e157_0 : decode cJ3_checkIndex_8e157 0 = .ok (.iload_n 0, 1) := by decide +kernel
theorem dJ3_checkIndex_8e157_1 : decode cJ3_checkIndex_8e157 1 = .ok (.ifCond .lt 8, 3) := by decide +kernel
theorem dJ3_checkIndex_8e157_4 : decode cJ3_checkIndex_8e157 4 = .ok (.iload_n 0, 1) := by decide +kernel
theorem dJ3_checkIndex_8e157_5 : decode cJ3_checkIndex_8e157 5 = .ok (.iload_n 1, 1) := by decide +kernel
theorem dJ3_checkIndex_8e157_6 : decode cJ3_checkIndex_8e157 6 = .ok (.if_icmp .lt 10, 3) := by decide +kernel
theorem dJ3_checkIndex_8e157_9 : decode cJ3_checkIndex_8e157 9 = .ok (.aload_n 2, 1) := by decide +kernel
theorem dJ3_checkIndex_8e157_10 : decode cJ3_checkIndex_8e157 10 = .ok (.iload_n 0, 1) := by decide +kernel
theorem dJ3_checkIndex_8e157_11 : decode cJ3_checkIndex_8e157 11 = .ok (.iload_n 1, 1) := by decide +kernel
theorem dJ3_checkIndex_8e157_12 : decode cJ3_checkIndex_8e157 12 = .ok (.invokestatic 95, 3) := by decide +kernel
theorem dJ3_checkIndex_8e157_15 : decode cJ3_checkIndex_8e157 15 = .ok (.athrow, 1) := by decide +kernel
theorem dJ3_checkIndex_8e157_16 : decode cJ3_checkIndex_8e157 16 = .ok (.iload_n 0, 1) := by decide +kernel
theorem dJ3_checkIndex_8e157_17 : decode cJ3_checkIndex_8e157 17 = .ok (.ireturn, 1) := by decide +kernel
