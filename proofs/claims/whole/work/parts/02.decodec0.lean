theorem dX11_init_0 : decode cX11_init 0 = .ok (.aload_n 0, 1) := by decide +kernel
theorem dX11_init_1 : decode cX11_init 1 = .ok (.invokespecial 1, 3) := by decide +kernel
theorem dX11_init_4 : decode cX11_init 4 = .ok (.aload_n 0, 1) := by decide +kernel
theorem dX11_init_5 : decode cX11_init 5 = .ok (.iconst 0, 1) := by decide +kernel
theorem dX11_init_6 : decode cX11_init 6 = .ok (.putfield 7, 3) := by decide +kernel
theorem dX11_init_9 : decode cX11_init 9 = .ok (.aload_n 0, 1) := by decide +kernel
theorem dX11_init_10 : decode cX11_init 10 = .ok (.iconst 4, 1) := by decide +kernel
theorem dX11_init_11 : decode cX11_init 11 = .ok (.putfield 13, 3) := by decide +kernel
theorem dX11_init_14 : decode cX11_init 14 = .ok (.aload_n 0, 1) := by decide +kernel
theorem dX11_init_15 : decode cX11_init 15 = .ok (.iconst 0, 1) := by decide +kernel
theorem dX11_init_16 : decode cX11_init 16 = .ok (.putfield 16, 3) := by decide +kernel
theorem dX11_init_19 : decode cX11_init 19 = .ok (.aload_n 0, 1) := by decide +kernel
theorem dX11_init_20 : decode cX11_init 20 = .ok (.iconst 0, 1) := by decide +kernel
theorem dX11_init_21 : decode cX11_init 21 = .ok (.putfield 19, 3) := by decide +kernel
theorem dX11_init_24 : decode cX11_init 24 = .ok (.aload_n 0, 1) := by decide +kernel
theorem dX11_init_25 : decode cX11_init 25 = .ok (.iconst 0, 1) := by decide +kernel
theorem dX11_init_26 : decode cX11_init 26 = .ok (.putfield 22, 3) := by decide +kernel
theorem dX11_init_29 : decode cX11_init 29 = .ok (.aload_n 0, 1) := by decide +kernel
theorem dX11_init_30 : decode cX11_init 30 = .ok (.bipush 6, 2) := by decide +kernel
theorem dX11_init_32 : decode cX11_init 32 = .ok (.newarray .int, 2) := by decide +kernel
theorem dX11_init_34 : decode cX11_init 34 = .ok (.putfield 26, 3) := by decide +kernel
theorem dX11_init_37 : decode cX11_init 37 = .ok (.aload_n 0, 1) := by decide +kernel
theorem dX11_init_38 : decode cX11_init 38 = .ok (.bipush 6, 2) := by decide +kernel
theorem dX11_init_40 : decode cX11_init 40 = .ok (.newarray .int, 2) := by decide +kernel
theorem dX11_init_42 : decode cX11_init 42 = .ok (.putfield 30, 3) := by decide +kernel
theorem dX11_init_45 : decode cX11_init 45 = .ok (.aload_n 0, 1) := by decide +kernel
theorem dX11_init_46 : decode cX11_init 46 = .ok (.bipush 48, 2) := by decide +kernel
theorem dX11_init_48 : decode cX11_init 48 = .ok (.newarray .int, 2) := by decide +kernel
theorem dX11_init_50 : decode cX11_init 50 = .ok (.putfield 33, 3) := by decide +kernel
theorem dX11_init_53 : decode cX11_init 53 = .ok (.aload_n 0, 1) := by decide +kernel
theorem dX11_init_54 : decode cX11_init 54 = .ok (.bipush 25, 2) := by decide +kernel
theorem dX11_init_56 : decode cX11_init 56 = .ok (.newarray .int, 2) := by decide +kernel
theorem dX11_init_58 : decode cX11_init 58 = .ok (.dup, 1) := by decide +kernel
theorem dX11_init_59 : decode cX11_init 59 = .ok (.iconst 0, 1) := by decide +kernel
theorem dX11_init_60 : decode cX11_init 60 = .ok (.iconst (-1), 1) := by decide +kernel
theorem dX11_init_61 : decode cX11_init 61 = .ok (.iastore, 1) := by decide +kernel
theorem dX11_init_62 : decode cX11_init 62 = .ok (.dup, 1) := by decide +kernel
theorem dX11_init_63 : decode cX11_init 63 = .ok (.iconst 1, 1) := by decide +kernel
theorem dX11_init_64 : decode cX11_init 64 = .ok (.iconst (-1), 1) := by decide +kernel
theorem dX11_init_65 : decode cX11_init 65 = .ok (.iastore, 1) := by decide +kernel
theorem dX11_init_66 : decode cX11_init 66 = .ok (.dup, 1) := by decide +kernel
theorem dX11_init_67 : decode cX11_init 67 = .ok (.iconst 2, 1) := by decide +kernel
theorem dX11_init_68 : decode cX11_init 68 = .ok (.iconst (-1), 1) := by decide +kernel
theorem dX11_init_69 : decode cX11_init 69 = .ok (.iastore, 1) := by decide +kernel
theorem dX11_init_70 : decode cX11_init 70 = .ok (.dup, 1) := by decide +kernel
theorem dX11_init_71 : decode cX11_init 71 = .ok (.iconst 3, 1) := by decide +kernel
theorem dX11_init_72 : decode cX11_init 72 = .ok (.iconst (-1), 1) := by decide +kernel
theorem dX11_init_73 : decode cX11_init 73 = .ok (.iastore, 1) := by decide +kernel
theorem dX11_init_74 : decode cX11_init 74 = .ok (.dup, 1) := by decide +kernel
theorem dX11_init_75 : decode cX11_init 75 = .ok (.iconst 4, 1) := by decide +kernel
theorem dX11_init_76 : decode cX11_init 76 = .ok (.iconst (-1), 1) := by decide +kernel
theorem dX11_init_77 : decode cX11_init 77 = .ok (.iastore, 1) := by decide +kernel
theorem dX11_init_78 : decode cX11_init 78 = .ok (.dup, 1) := by decide +kernel
theorem dX11_init_79 : decode cX11_init 79 = .ok (.iconst 5, 1) := by decide +kernel
theorem dX11_init_80 : decode cX11_init 80 = .ok (.iconst (-1), 1) := by decide +kernel
theorem dX11_init_81 : decode cX11_init 81 = .ok (.iastore, 1) := by decide +kernel
theorem dX11_init_82 : decode cX11_init 82 = .ok (.dup, 1) := by decide +kernel
theorem dX11_init_83 : decode cX11_init 83 = .ok (.bipush 6, 2) := by decide +kernel
theorem dX11_init_85 : decode cX11_init 85 = .ok (.iconst (-1), 1) := by decide +kernel
theorem dX11_init_86 : decode cX11_init 86 = .ok (.iastore, 1) := by decide +kernel
theorem dX11_init_87 : decode cX11_init 87 = .ok (.dup, 1) := by decide +kernel
theorem dX11_init_88 : decode cX11_init 88 = .ok (.bipush 7, 2) := by decide +kernel
theorem dX11_init_90 : decode cX11_init 90 = .ok (.iconst (-1), 1) := by decide +kernel
theorem dX11_init_91 : decode cX11_init 91 = .ok (.iastore, 1) := by decide +kernel
theorem dX11_init_92 : decode cX11_init 92 = .ok (.dup, 1) := by decide +kernel
theorem dX11_init_93 : decode cX11_init 93 = .ok (.bipush 8, 2) := by decide +kernel
theorem dX11_init_95 : decode cX11_init 95 = .ok (.iconst (-1), 1) := by decide +kernel
theorem dX11_init_96 : decode cX11_init 96 = .ok (.iastore, 1) := by decide +kernel
theorem dX11_init_97 : decode cX11_init 97 = .ok (.dup, 1) := by decide +kernel
theorem dX11_init_98 : decode cX11_init 98 = .ok (.bipush 9, 2) := by decide +kernel
theorem dX11_init_100 : decode cX11_init 100 = .ok (.iconst (-1), 1) := by decide +kernel
theorem dX11_init_101 : decode cX11_init 101 = .ok (.iastore, 1) := by decide +kernel
theorem dX11_init_102 : decode cX11_init 102 = .ok (.dup, 1) := by decide +kernel
theorem dX11_init_103 : decode cX11_init 103 = .ok (.bipush 10, 2) := by decide +kernel
theorem dX11_init_105 : decode cX11_init 105 = .ok (.iconst (-1), 1) := by decide +kernel
theorem dX11_init_106 : decode cX11_init 106 = .ok (.iastore, 1) := by decide +kernel
theorem dX11_init_107 : decode cX11_init 107 = .ok (.dup, 1) := by decide +kernel
theorem dX11_init_108 : decode cX11_init 108 = .ok (.bipush 11, 2) := by decide +kernel
theorem dX11_init_110 : decode cX11_init 110 = .ok (.iconst (-1), 1) := by decide +kernel
theorem dX11_init_111 : decode cX11_init 111 = .ok (.iastore, 1) := by decide +kernel
theorem dX11_init_112 : decode cX11_init 112 = .ok (.dup, 1) := by decide +kernel
theorem dX11_init_113 : decode cX11_init 113 = .ok (.bipush 12, 2) := by decide +kernel
theorem dX11_init_115 : decode cX11_init 115 = .ok (.iconst (-1), 1) := by decide +kernel
theorem dX11_init_116 : decode cX11_init 116 = .ok (.iastore, 1) := by decide +kernel
theorem dX11_init_117 : decode cX11_init 117 = .ok (.dup, 1) := by decide +kernel
theorem dX11_init_118 : decode cX11_init 118 = .ok (.bipush 13, 2) := by decide +kernel
theorem dX11_init_120 : decode cX11_init 120 = .ok (.iconst (-1), 1) := by decide +kernel
theorem dX11_init_121 : decode cX11_init 121 = .ok (.iastore, 1) := by decide +kernel
theorem dX11_init_122 : decode cX11_init 122 = .ok (.dup, 1) := by decide +kernel
theorem dX11_init_123 : decode cX11_init 123 = .ok (.bipush 14, 2) := by decide +kernel
theorem dX11_init_125 : decode cX11_init 125 = .ok (.iconst (-1), 1) := by decide +kernel
theorem dX11_init_126 : decode cX11_init 126 = .ok (.iastore, 1) := by decide +kernel
theorem dX11_init_127 : decode cX11_init 127 = .ok (.dup, 1) := by decide +kernel
theorem dX11_init_128 : decode cX11_init 128 = .ok (.bipush 15, 2) := by decide +kernel
theorem dX11_init_130 : decode cX11_init 130 = .ok (.iconst (-1), 1) := by decide +kernel
theorem dX11_init_131 : decode cX11_init 131 = .ok (.iastore, 1) := by decide +kernel
theorem dX11_init_132 : decode cX11_init 132 = .ok (.dup, 1) := by decide +kernel
theorem dX11_init_133 : decode cX11_init 133 = .ok (.bipush 16, 2) := by decide +kernel
theorem dX11_init_135 : decode cX11_init 135 = .ok (.iconst (-1), 1) := by decide +kernel
theorem dX11_init_136 : decode cX11_init 136 = .ok (.iastore, 1) := by decide +kernel
theorem dX11_init_137 : decode cX11_init 137 = .ok (.dup, 1) := by decide +kernel
theorem dX11_init_138 : decode cX11_init 138 = .ok (.bipush 17, 2) := by decide +kernel
theorem dX11_init_140 : decode cX11_init 140 = .ok (.iconst (-1), 1) := by decide +kernel
theorem dX11_init_141 : decode cX11_init 141 = .ok (.iastore, 1) := by decide +kernel
theorem dX11_init_142 : decode cX11_init 142 = .ok (.dup, 1) := by decide +kernel
theorem dX11_init_143 : decode cX11_init 143 = .ok (.bipush 18, 2) := by decide +kernel
theorem dX11_init_145 : decode cX11_init 145 = .ok (.iconst (-1), 1) := by decide +kernel
theorem dX11_init_146 : decode cX11_init 146 = .ok (.iastore, 1) := by decide +kernel
theorem dX11_init_147 : decode cX11_init 147 = .ok (.dup, 1) := by decide +kernel
theorem dX11_init_148 : decode cX11_init 148 = .ok (.bipush 19, 2) := by decide +kernel
theorem dX11_init_150 : decode cX11_init 150 = .ok (.iconst (-1), 1) := by decide +kernel
theorem dX11_init_151 : decode cX11_init 151 = .ok (.iastore, 1) := by decide +kernel
theorem dX11_init_152 : decode cX11_init 152 = .ok (.dup, 1) := by decide +kernel
theorem dX11_init_153 : decode cX11_init 153 = .ok (.bipush 20, 2) := by decide +kernel
theorem dX11_init_155 : decode cX11_init 155 = .ok (.iconst (-1), 1) := by decide +kernel
theorem dX11_init_156 : decode cX11_init 156 = .ok (.iastore, 1) := by decide +kernel
theorem dX11_init_157 : decode cX11_init 157 = .ok (.dup, 1) := by decide +kernel
theorem dX11_init_158 : decode cX11_init 158 = .ok (.bipush 21, 2) := by decide +kernel
theorem dX11_init_160 : decode cX11_init 160 = .ok (.iconst (-1), 1) := by decide +kernel
theorem dX11_init_161 : decode cX11_init 161 = .ok (.iastore, 1) := by decide +kernel
theorem dX11_init_162 : decode cX11_init 162 = .ok (.dup, 1) := by decide +kernel
theorem dX11_init_163 : decode cX11_init 163 = .ok (.bipush 22, 2) := by decide +kernel
theorem dX11_init_165 : decode cX11_init 165 = .ok (.iconst (-1), 1) := by decide +kernel
theorem dX11_init_166 : decode cX11_init 166 = .ok (.iastore, 1) := by decide +kernel
theorem dX11_init_167 : decode cX11_init 167 = .ok (.dup, 1) := by decide +kernel
theorem dX11_init_168 : decode cX11_init 168 = .ok (.bipush 23, 2) := by decide +kernel
theorem dX11_init_170 : decode cX11_init 170 = .ok (.iconst (-1), 1) := by decide +kernel
theorem dX11_init_171 : decode cX11_init 171 = .ok (.iastore, 1) := by decide +kernel
theorem dX11_init_172 : decode cX11_init 172 = .ok (.dup, 1) := by decide +kernel
theorem dX11_init_173 : decode cX11_init 173 = .ok (.bipush 24, 2) := by decide +kernel
theorem dX11_init_175 : decode cX11_init 175 = .ok (.iconst (-1), 1) := by decide +kernel
theorem dX11_init_176 : decode cX11_init 176 = .ok (.iastore, 1) := by decide +kernel
theorem dX11_init_177 : decode cX11_init 177 = .ok (.putfield 36, 3) := by decide +kernel
theorem dX11_init_180 : decode cX11_init 180 = .ok (.aload_n 0, 1) := by decide +kernel
theorem dX11_init_181 : decode cX11_init 181 = .ok (.iconst 0, 1) := by decide +kernel
theorem dX11_init_182 : decode cX11_init 182 = .ok (.putfield 39, 3) := by decide +kernel
theorem dX11_init_185 : decode cX11_init 185 = .ok (.aload_n 0, 1) := by decide +kernel
theorem dX11_init_186 : decode cX11_init 186 = .ok (.iconst (-1), 1) := by decide +kernel
theorem dX11_init_187 : decode cX11_init 187 = .ok (.putfield 42, 3) := by decide +kernel
theorem dX11_init_190 : decode cX11_init 190 = .ok (.aload_n 0, 1) := by decide +kernel
theorem dX11_init_191 : decode cX11_init 191 = .ok (.iconst 0, 1) := by decide +kernel
theorem dX11_init_192 : decode cX11_init 192 = .ok (.putfield 45, 3) := by decide +kernel
theorem dX11_init_195 : decode cX11_init 195 = .ok (.aload_n 0, 1) := by decide +kernel
theorem dX11_init_196 : decode cX11_init 196 = .ok (.iconst 0, 1) := by decide +kernel
theorem dX11_init_197 : decode cX11_init 197 = .ok (.putfield 48, 3) := by decide +kernel
theorem dX11_init_200 : decode cX11_init 200 = .ok (.aload_n 0, 1) := by decide +kernel
theorem dX11_init_201 : decode cX11_init 201 = .ok (.iconst 0, 1) := by decide +kernel
theorem dX11_init_202 : decode cX11_init 202 = .ok (.putfield 51, 3) := by decide +kernel
theorem dX11_init_205 : decode cX11_init 205 = .ok (.aload_n 0, 1) := by decide +kernel
theorem dX11_init_206 : decode cX11_init 206 = .ok (.bipush 100, 2) := by decide +kernel
theorem dX11_init_208 : decode cX11_init 208 = .ok (.newarray .int, 2) := by decide +kernel
theorem dX11_init_210 : decode cX11_init 210 = .ok (.putfield 54, 3) := by decide +kernel
theorem dX11_init_213 : decode cX11_init 213 = .ok (.aload_n 0, 1) := by decide +kernel
theorem dX11_init_214 : decode cX11_init 214 = .ok (.bipush 6, 2) := by decide +kernel
theorem dX11_init_216 : decode cX11_init 216 = .ok (.newarray .int, 2) := by decide +kernel
theorem dX11_init_218 : decode cX11_init 218 = .ok (.putfield 57, 3) := by decide +kernel
theorem dX11_init_221 : decode cX11_init 221 = .ok (.aload_n 0, 1) := by decide +kernel
theorem dX11_init_222 : decode cX11_init 222 = .ok (.bipush 60, 2) := by decide +kernel
theorem dX11_init_224 : decode cX11_init 224 = .ok (.newarray .int, 2) := by decide +kernel
theorem dX11_init_226 : decode cX11_init 226 = .ok (.putfield 60, 3) := by decide +kernel
theorem dX11_init_229 : decode cX11_init 229 = .ok (.aload_n 0, 1) := by decide +kernel
theorem dX11_init_230 : decode cX11_init 230 = .ok (.bipush 60, 2) := by decide +kernel
theorem dX11_init_232 : decode cX11_init 232 = .ok (.newarray .int, 2) := by decide +kernel
theorem dX11_init_234 : decode cX11_init 234 = .ok (.putfield 63, 3) := by decide +kernel
theorem dX11_init_237 : decode cX11_init 237 = .ok (.aload_n 0, 1) := by decide +kernel
theorem dX11_init_238 : decode cX11_init 238 = .ok (.bipush 60, 2) := by decide +kernel
theorem dX11_init_240 : decode cX11_init 240 = .ok (.newarray .int, 2) := by decide +kernel
theorem dX11_init_242 : decode cX11_init 242 = .ok (.putfield 66, 3) := by decide +kernel
theorem dX11_init_245 : decode cX11_init 245 = .ok (.aload_n 0, 1) := by decide +kernel
theorem dX11_init_246 : decode cX11_init 246 = .ok (.bipush 60, 2) := by decide +kernel
theorem dX11_init_248 : decode cX11_init 248 = .ok (.newarray .int, 2) := by decide +kernel
theorem dX11_init_250 : decode cX11_init 250 = .ok (.putfield 69, 3) := by decide +kernel
theorem dX11_init_253 : decode cX11_init 253 = .ok (.aload_n 0, 1) := by decide +kernel
theorem dX11_init_254 : decode cX11_init 254 = .ok (.sipush 600, 3) := by decide +kernel
theorem dX11_init_257 : decode cX11_init 257 = .ok (.newarray .int, 2) := by decide +kernel
theorem dX11_init_259 : decode cX11_init 259 = .ok (.putfield 72, 3) := by decide +kernel
theorem dX11_init_262 : decode cX11_init 262 = .ok (.aload_n 0, 1) := by decide +kernel
theorem dX11_init_263 : decode cX11_init 263 = .ok (.bipush 101, 2) := by decide +kernel
theorem dX11_init_265 : decode cX11_init 265 = .ok (.newarray .int, 2) := by decide +kernel
theorem dX11_init_267 : decode cX11_init 267 = .ok (.putfield 75, 3) := by decide +kernel
theorem dX11_init_270 : decode cX11_init 270 = .ok (.aload_n 0, 1) := by decide +kernel
theorem dX11_init_271 : decode cX11_init 271 = .ok (.iconst 0, 1) := by decide +kernel
theorem dX11_init_272 : decode cX11_init 272 = .ok (.putfield 78, 3) := by decide +kernel
theorem dX11_init_275 : decode cX11_init 275 = .ok (.aload_n 0, 1) := by decide +kernel
theorem dX11_init_276 : decode cX11_init 276 = .ok (.iconst 0, 1) := by decide +kernel
theorem dX11_init_277 : decode cX11_init 277 = .ok (.putfield 81, 3) := by decide +kernel
theorem dX11_init_280 : decode cX11_init 280 = .ok (.aload_n 0, 1) := by decide +kernel
theorem dX11_init_281 : decode cX11_init 281 = .ok (.iconst 0, 1) := by decide +kernel
theorem dX11_init_282 : decode cX11_init 282 = .ok (.putfield 84, 3) := by decide +kernel
theorem dX11_init_285 : decode cX11_init 285 = .ok (.aload_n 0, 1) := by decide +kernel
theorem dX11_init_286 : decode cX11_init 286 = .ok (.bipush 20, 2) := by decide +kernel
theorem dX11_init_288 : decode cX11_init 288 = .ok (.newarray .int, 2) := by decide +kernel
theorem dX11_init_290 : decode cX11_init 290 = .ok (.dup, 1) := by decide +kernel
theorem dX11_init_291 : decode cX11_init 291 = .ok (.iconst 0, 1) := by decide +kernel
theorem dX11_init_292 : decode cX11_init 292 = .ok (.bipush 119, 2) := by decide +kernel
theorem dX11_init_294 : decode cX11_init 294 = .ok (.iastore, 1) := by decide +kernel
theorem dX11_init_295 : decode cX11_init 295 = .ok (.dup, 1) := by decide +kernel
theorem dX11_init_296 : decode cX11_init 296 = .ok (.iconst 1, 1) := by decide +kernel
theorem dX11_init_297 : decode cX11_init 297 = .ok (.bipush 105, 2) := by decide +kernel
theorem dX11_init_299 : decode cX11_init 299 = .ok (.iastore, 1) := by decide +kernel
theorem dX11_init_300 : decode cX11_init 300 = .ok (.dup, 1) := by decide +kernel
theorem dX11_init_301 : decode cX11_init 301 = .ok (.iconst 2, 1) := by decide +kernel
theorem dX11_init_302 : decode cX11_init 302 = .ok (.bipush 100, 2) := by decide +kernel
theorem dX11_init_304 : decode cX11_init 304 = .ok (.iastore, 1) := by decide +kernel
theorem dX11_init_305 : decode cX11_init 305 = .ok (.dup, 1) := by decide +kernel
theorem dX11_init_306 : decode cX11_init 306 = .ok (.iconst 3, 1) := by decide +kernel
theorem dX11_init_307 : decode cX11_init 307 = .ok (.bipush 101, 2) := by decide +kernel
theorem dX11_init_309 : decode cX11_init 309 = .ok (.iastore, 1) := by decide +kernel
theorem dX11_init_310 : decode cX11_init 310 = .ok (.dup, 1) := by decide +kernel
theorem dX11_init_311 : decode cX11_init 311 = .ok (.iconst 4, 1) := by decide +kernel
theorem dX11_init_312 : decode cX11_init 312 = .ok (.bipush 104, 2) := by decide +kernel
theorem dX11_init_314 : decode cX11_init 314 = .ok (.iastore, 1) := by decide +kernel
theorem dX11_init_315 : decode cX11_init 315 = .ok (.dup, 1) := by decide +kernel
theorem dX11_init_316 : decode cX11_init 316 = .ok (.iconst 5, 1) := by decide +kernel
theorem dX11_init_317 : decode cX11_init 317 = .ok (.bipush 111, 2) := by decide +kernel
theorem dX11_init_319 : decode cX11_init 319 = .ok (.iastore, 1) := by decide +kernel
theorem dX11_init_320 : decode cX11_init 320 = .ok (.dup, 1) := by decide +kernel
theorem dX11_init_321 : decode cX11_init 321 = .ok (.bipush 6, 2) := by decide +kernel
theorem dX11_init_323 : decode cX11_init 323 = .ok (.bipush 108, 2) := by decide +kernel
theorem dX11_init_325 : decode cX11_init 325 = .ok (.iastore, 1) := by decide +kernel
theorem dX11_init_326 : decode cX11_init 326 = .ok (.dup, 1) := by decide +kernel
theorem dX11_init_327 : decode cX11_init 327 = .ok (.bipush 7, 2) := by decide +kernel
theorem dX11_init_329 : decode cX11_init 329 = .ok (.bipush 101, 2) := by decide +kernel
theorem dX11_init_331 : decode cX11_init 331 = .ok (.iastore, 1) := by decide +kernel
theorem dX11_init_332 : decode cX11_init 332 = .ok (.dup, 1) := by decide +kernel
theorem dX11_init_333 : decode cX11_init 333 = .ok (.bipush 8, 2) := by decide +kernel
theorem dX11_init_335 : decode cX11_init 335 = .ok (.bipush 98, 2) := by decide +kernel
theorem dX11_init_337 : decode cX11_init 337 = .ok (.iastore, 1) := by decide +kernel
theorem dX11_init_338 : decode cX11_init 338 = .ok (.dup, 1) := by decide +kernel
theorem dX11_init_339 : decode cX11_init 339 = .ok (.bipush 9, 2) := by decide +kernel
theorem dX11_init_341 : decode cX11_init 341 = .ok (.bipush 97, 2) := by decide +kernel
theorem dX11_init_343 : decode cX11_init 343 = .ok (.iastore, 1) := by decide +kernel
theorem dX11_init_344 : decode cX11_init 344 = .ok (.dup, 1) := by decide +kernel
theorem dX11_init_345 : decode cX11_init 345 = .ok (.bipush 10, 2) := by decide +kernel
theorem dX11_init_347 : decode cX11_init 347 = .ok (.bipush 114, 2) := by decide +kernel
theorem dX11_init_349 : decode cX11_init 349 = .ok (.iastore, 1) := by decide +kernel
theorem dX11_init_350 : decode cX11_init 350 = .ok (.dup, 1) := by decide +kernel
theorem dX11_init_351 : decode cX11_init 351 = .ok (.bipush 11, 2) := by decide +kernel
theorem dX11_init_353 : decode cX11_init 353 = .ok (.bipush 114, 2) := by decide +kernel
theorem dX11_init_355 : decode cX11_init 355 = .ok (.iastore, 1) := by decide +kernel
theorem dX11_init_356 : decode cX11_init 356 = .ok (.dup, 1) := by decide +kernel
theorem dX11_init_357 : decode cX11_init 357 = .ok (.bipush 12, 2) := by decide +kernel
theorem dX11_init_359 : decode cX11_init 359 = .ok (.bipush 111, 2) := by decide +kernel
theorem dX11_init_361 : decode cX11_init 361 = .ok (.iastore, 1) := by decide +kernel
theorem dX11_init_362 : decode cX11_init 362 = .ok (.dup, 1) := by decide +kernel
theorem dX11_init_363 : decode cX11_init 363 = .ok (.bipush 13, 2) := by decide +kernel
theorem dX11_init_365 : decode cX11_init 365 = .ok (.bipush 117, 2) := by decide +kernel
theorem dX11_init_367 : decode cX11_init 367 = .ok (.iastore, 1) := by decide +kernel
theorem dX11_init_368 : decode cX11_init 368 = .ok (.dup, 1) := by decide +kernel
theorem dX11_init_369 : decode cX11_init 369 = .ok (.bipush 14, 2) := by decide +kernel
theorem dX11_init_371 : decode cX11_init 371 = .ok (.bipush 110, 2) := by decide +kernel
theorem dX11_init_373 : decode cX11_init 373 = .ok (.iastore, 1) := by decide +kernel
theorem dX11_init_374 : decode cX11_init 374 = .ok (.dup, 1) := by decide +kernel
theorem dX11_init_375 : decode cX11_init 375 = .ok (.bipush 15, 2) := by decide +kernel
theorem dX11_init_377 : decode cX11_init 377 = .ok (.bipush 100, 2) := by decide +kernel
theorem dX11_init_379 : decode cX11_init 379 = .ok (.iastore, 1) := by decide +kernel
theorem dX11_init_380 : decode cX11_init 380 = .ok (.dup, 1) := by decide +kernel
theorem dX11_init_381 : decode cX11_init 381 = .ok (.bipush 16, 2) := by decide +kernel
theorem dX11_init_383 : decode cX11_init 383 = .ok (.bipush 102, 2) := by decide +kernel
theorem dX11_init_385 : decode cX11_init 385 = .ok (.iastore, 1) := by decide +kernel
theorem dX11_init_386 : decode cX11_init 386 = .ok (.dup, 1) := by decide +kernel
theorem dX11_init_387 : decode cX11_init 387 = .ok (.bipush 17, 2) := by decide +kernel
theorem dX11_init_389 : decode cX11_init 389 = .ok (.bipush 108, 2) := by decide +kernel
theorem dX11_init_391 : decode cX11_init 391 = .ok (.iastore, 1) := by decide +kernel
theorem dX11_init_392 : decode cX11_init 392 = .ok (.dup, 1) := by decide +kernel
theorem dX11_init_393 : decode cX11_init 393 = .ok (.bipush 18, 2) := by decide +kernel
theorem dX11_init_395 : decode cX11_init 395 = .ok (.bipush 97, 2) := by decide +kernel
theorem dX11_init_397 : decode cX11_init 397 = .ok (.iastore, 1) := by decide +kernel
theorem dX11_init_398 : decode cX11_init 398 = .ok (.dup, 1) := by decide +kernel
theorem dX11_init_399 : decode cX11_init 399 = .ok (.bipush 19, 2) := by decide +kernel
theorem dX11_init_401 : decode cX11_init 401 = .ok (.bipush 116, 2) := by decide +kernel
theorem dX11_init_403 : decode cX11_init 403 = .ok (.iastore, 1) := by decide +kernel
theorem dX11_init_404 : decode cX11_init 404 = .ok (.putfield 87, 3) := by decide +kernel
theorem dX11_init_407 : decode cX11_init 407 = .ok (.aload_n 0, 1) := by decide +kernel
theorem dX11_init_408 : decode cX11_init 408 = .ok (.bipush 100, 2) := by decide +kernel
theorem dX11_init_410 : decode cX11_init 410 = .ok (.newarray .boolean, 2) := by decide +kernel
theorem dX11_init_412 : decode cX11_init 412 = .ok (.putfield 90, 3) := by decide +kernel
theorem dX11_init_415 : decode cX11_init 415 = .ok (.aload_n 0, 1) := by decide +kernel
theorem dX11_init_416 : decode cX11_init 416 = .ok (.bipush 8, 2) := by decide +kernel
theorem dX11_init_418 : decode cX11_init 418 = .ok (.newarray .int, 2) := by decide +kernel
theorem dX11_init_420 : decode cX11_init 420 = .ok (.dup, 1) := by decide +kernel
theorem dX11_init_421 : decode cX11_init 421 = .ok (.iconst 0, 1) := by decide +kernel
theorem dX11_init_422 : decode cX11_init 422 = .ok (.iconst 1, 1) := by decide +kernel
theorem dX11_init_423 : decode cX11_init 423 = .ok (.iastore, 1) := by decide +kernel
theorem dX11_init_424 : decode cX11_init 424 = .ok (.dup, 1) := by decide +kernel
theorem dX11_init_425 : decode cX11_init 425 = .ok (.iconst 1, 1) := by decide +kernel
theorem dX11_init_426 : decode cX11_init 426 = .ok (.iconst 0, 1) := by decide +kernel
theorem dX11_init_427 : decode cX11_init 427 = .ok (.iastore, 1) := by decide +kernel
theorem dX11_init_428 : decode cX11_init 428 = .ok (.dup, 1) := by decide +kernel
theorem dX11_init_429 : decode cX11_init 429 = .ok (.iconst 2, 1) := by decide +kernel
theorem dX11_init_430 : decode cX11_init 430 = .ok (.iconst (-1), 1) := by decide +kernel
theorem dX11_init_431 : decode cX11_init 431 = .ok (.iastore, 1) := by decide +kernel
theorem dX11_init_432 : decode cX11_init 432 = .ok (.dup, 1) := by decide +kernel
theorem dX11_init_433 : decode cX11_init 433 = .ok (.iconst 3, 1) := by decide +kernel
theorem dX11_init_434 : decode cX11_init 434 = .ok (.iconst 0, 1) := by decide +kernel
theorem dX11_init_435 : decode cX11_init 435 = .ok (.iastore, 1) := by decide +kernel
theorem dX11_init_436 : decode cX11_init 436 = .ok (.dup, 1) := by decide +kernel
theorem dX11_init_437 : decode cX11_init 437 = .ok (.iconst 4, 1) := by decide +kernel
theorem dX11_init_438 : decode cX11_init 438 = .ok (.iconst 1, 1) := by decide +kernel
theorem dX11_init_439 : decode cX11_init 439 = .ok (.iastore, 1) := by decide +kernel
theorem dX11_init_440 : decode cX11_init 440 = .ok (.dup, 1) := by decide +kernel
theorem dX11_init_441 : decode cX11_init 441 = .ok (.iconst 5, 1) := by decide +kernel
theorem dX11_init_442 : decode cX11_init 442 = .ok (.iconst (-1), 1) := by decide +kernel
theorem dX11_init_443 : decode cX11_init 443 = .ok (.iastore, 1) := by decide +kernel
theorem dX11_init_444 : decode cX11_init 444 = .ok (.dup, 1) := by decide +kernel
theorem dX11_init_445 : decode cX11_init 445 = .ok (.bipush 6, 2) := by decide +kernel
theorem dX11_init_447 : decode cX11_init 447 = .ok (.iconst (-1), 1) := by decide +kernel
theorem dX11_init_448 : decode cX11_init 448 = .ok (.iastore, 1) := by decide +kernel
theorem dX11_init_449 : decode cX11_init 449 = .ok (.dup, 1) := by decide +kernel
theorem dX11_init_450 : decode cX11_init 450 = .ok (.bipush 7, 2) := by decide +kernel
theorem dX11_init_452 : decode cX11_init 452 = .ok (.iconst 1, 1) := by decide +kernel
theorem dX11_init_453 : decode cX11_init 453 = .ok (.iastore, 1) := by decide +kernel
theorem dX11_init_454 : decode cX11_init 454 = .ok (.putfield 94, 3) := by decide +kernel
theorem dX11_init_457 : decode cX11_init 457 = .ok (.aload_n 0, 1) := by decide +kernel
theorem dX11_init_458 : decode cX11_init 458 = .ok (.bipush 8, 2) := by decide +kernel
theorem dX11_init_460 : decode cX11_init 460 = .ok (.newarray .int, 2) := by decide +kernel
theorem dX11_init_462 : decode cX11_init 462 = .ok (.dup, 1) := by decide +kernel
theorem dX11_init_463 : decode cX11_init 463 = .ok (.iconst 0, 1) := by decide +kernel
theorem dX11_init_464 : decode cX11_init 464 = .ok (.iconst 0, 1) := by decide +kernel
theorem dX11_init_465 : decode cX11_init 465 = .ok (.iastore, 1) := by decide +kernel
theorem dX11_init_466 : decode cX11_init 466 = .ok (.dup, 1) := by decide +kernel
theorem dX11_init_467 : decode cX11_init 467 = .ok (.iconst 1, 1) := by decide +kernel
theorem dX11_init_468 : decode cX11_init 468 = .ok (.iconst 1, 1) := by decide +kernel
theorem dX11_init_469 : decode cX11_init 469 = .ok (.iastore, 1) := by decide +kernel
theorem dX11_init_470 : decode cX11_init 470 = .ok (.dup, 1) := by decide +kernel
theorem dX11_init_471 : decode cX11_init 471 = .ok (.iconst 2, 1) := by decide +kernel
theorem dX11_init_472 : decode cX11_init 472 = .ok (.iconst 0, 1) := by decide +kernel
theorem dX11_init_473 : decode cX11_init 473 = .ok (.iastore, 1) := by decide +kernel
theorem dX11_init_474 : decode cX11_init 474 = .ok (.dup, 1) := by decide +kernel
theorem dX11_init_475 : decode cX11_init 475 = .ok (.iconst 3, 1) := by decide +kernel
theorem dX11_init_476 : decode cX11_init 476 = .ok (.iconst (-1), 1) := by decide +kernel
theorem dX11_init_477 : decode cX11_init 477 = .ok (.iastore, 1) := by decide +kernel
theorem dX11_init_478 : decode cX11_init 478 = .ok (.dup, 1) := by decide +kernel
theorem dX11_init_479 : decode cX11_init 479 = .ok (.iconst 4, 1) := by decide +kernel
theorem dX11_init_480 : decode cX11_init 480 = .ok (.iconst 1, 1) := by decide +kernel
theorem dX11_init_481 : decode cX11_init 481 = .ok (.iastore, 1) := by decide +kernel
theorem dX11_init_482 : decode cX11_init 482 = .ok (.dup, 1) := by decide +kernel
theorem dX11_init_483 : decode cX11_init 483 = .ok (.iconst 5, 1) := by decide +kernel
theorem dX11_init_484 : decode cX11_init 484 = .ok (.iconst 1, 1) := by decide +kernel
theorem dX11_init_485 : decode cX11_init 485 = .ok (.iastore, 1) := by decide +kernel
theorem dX11_init_486 : decode cX11_init 486 = .ok (.dup, 1) := by decide +kernel
theorem dX11_init_487 : decode cX11_init 487 = .ok (.bipush 6, 2) := by decide +kernel
theorem dX11_init_489 : decode cX11_init 489 = .ok (.iconst (-1), 1) := by decide +kernel
theorem dX11_init_490 : decode cX11_init 490 = .ok (.iastore, 1) := by decide +kernel
theorem dX11_init_491 : decode cX11_init 491 = .ok (.dup, 1) := by decide +kernel
theorem dX11_init_492 : decode cX11_init 492 = .ok (.bipush 7, 2) := by decide +kernel
theorem dX11_init_494 : decode cX11_init 494 = .ok (.iconst (-1), 1) := by decide +kernel
theorem dX11_init_495 : decode cX11_init 495 = .ok (.iastore, 1) := by decide +kernel
theorem dX11_init_496 : decode cX11_init 496 = .ok (.putfield 97, 3) := by decide +kernel
theorem dX11_init_499 : decode cX11_init 499 = .ok (.aload_n 0, 1) := by decide +kernel
theorem dX11_init_500 : decode cX11_init 500 = .ok (.bipush 25, 2) := by decide +kernel
theorem dX11_init_502 : decode cX11_init 502 = .ok (.newarray .int, 2) := by decide +kernel
theorem dX11_init_504 : decode cX11_init 504 = .ok (.putfield 100, 3) := by decide +kernel
theorem dX11_init_507 : decode cX11_init 507 = .ok (.aload_n 0, 1) := by decide +kernel
theorem dX11_init_508 : decode cX11_init 508 = .ok (.iconst 5, 1) := by decide +kernel
theorem dX11_init_509 : decode cX11_init 509 = .ok (.newarray .int, 2) := by decide +kernel
theorem dX11_init_511 : decode cX11_init 511 = .ok (.putfield 103, 3) := by decide +kernel
theorem dX11_init_514 : decode cX11_init 514 = .ok (.aload_n 0, 1) := by decide +kernel
theorem dX11_init_515 : decode cX11_init 515 = .ok (.iconst 5, 1) := by decide +kernel
theorem dX11_init_516 : decode cX11_init 516 = .ok (.newarray .int, 2) := by decide +kernel
theorem dX11_init_518 : decode cX11_init 518 = .ok (.putfield 106, 3) := by decide +kernel
theorem dX11_init_521 : decode cX11_init 521 = .ok (.aload_n 0, 1) := by decide +kernel
theorem dX11_init_522 : decode cX11_init 522 = .ok (.bipush 60, 2) := by decide +kernel
theorem dX11_init_524 : decode cX11_init 524 = .ok (.newarray .int, 2) := by decide +kernel
theorem dX11_init_526 : decode cX11_init 526 = .ok (.putfield 109, 3) := by decide +kernel
theorem dX11_init_529 : decode cX11_init 529 = .ok (.aload_n 0, 1) := by decide +kernel
theorem dX11_init_530 : decode cX11_init 530 = .ok (.bipush 60, 2) := by decide +kernel
theorem dX11_init_532 : decode cX11_init 532 = .ok (.newarray .int, 2) := by decide +kernel
theorem dX11_init_534 : decode cX11_init 534 = .ok (.putfield 112, 3) := by decide +kernel
theorem dX11_init_537 : decode cX11_init 537 = .ok (.aload_n 0, 1) := by decide +kernel
theorem dX11_init_538 : decode cX11_init 538 = .ok (.bipush 25, 2) := by decide +kernel
theorem dX11_init_540 : decode cX11_init 540 = .ok (.newarray .int, 2) := by decide +kernel
theorem dX11_init_542 : decode cX11_init 542 = .ok (.putfield 115, 3) := by decide +kernel
theorem dX11_init_545 : decode cX11_init 545 = .ok (.aload_n 0, 1) := by decide +kernel
theorem dX11_init_546 : decode cX11_init 546 = .ok (.iconst 0, 1) := by decide +kernel
theorem dX11_init_547 : decode cX11_init 547 = .ok (.putfield 118, 3) := by decide +kernel
theorem dX11_init_550 : decode cX11_init 550 = .ok (.aload_n 0, 1) := by decide +kernel
theorem dX11_init_551 : decode cX11_init 551 = .ok (.iconst 0, 1) := by decide +kernel
theorem dX11_init_552 : decode cX11_init 552 = .ok (.putfield 121, 3) := by decide +kernel
theorem dX11_init_555 : decode cX11_init 555 = .ok (.aload_n 0, 1) := by decide +kernel
theorem dX11_init_556 : decode cX11_init 556 = .ok (.bipush 25, 2) := by decide +kernel
theorem dX11_init_558 : decode cX11_init 558 = .ok (.newarray .int, 2) := by decide +kernel
theorem dX11_init_560 : decode cX11_init 560 = .ok (.putfield 124, 3) := by decide +kernel
theorem dX11_init_563 : decode cX11_init 563 = .ok (.aload_n 0, 1) := by decide +kernel
theorem dX11_init_564 : decode cX11_init 564 = .ok (.iconst 0, 1) := by decide +kernel
theorem dX11_init_565 : decode cX11_init 565 = .ok (.putfield 127, 3) := by decide +kernel
theorem dX11_init_568 : decode cX11_init 568 = .ok (.aload_n 0, 1) := by decide +kernel
theorem dX11_init_569 : decode cX11_init 569 = .ok (.bipush 9, 2) := by decide +kernel
theorem dX11_init_571 : decode cX11_init 571 = .ok (.newarray .int, 2) := by decide +kernel
theorem dX11_init_573 : decode cX11_init 573 = .ok (.putfield 130, 3) := by decide +kernel
theorem dX11_init_576 : decode cX11_init 576 = .ok (.aload_n 0, 1) := by decide +kernel
theorem dX11_init_577 : decode cX11_init 577 = .ok (.bipush 9, 2) := by decide +kernel
theorem dX11_init_579 : decode cX11_init 579 = .ok (.newarray .int, 2) := by decide +kernel
theorem dX11_init_581 : decode cX11_init 581 = .ok (.putfield 133, 3) := by decide +kernel
theorem dX11_init_584 : decode cX11_init 584 = .ok (.aload_n 0, 1) := by decide +kernel
theorem dX11_init_585 : decode cX11_init 585 = .ok (.sipush 512, 3) := by decide +kernel
theorem dX11_init_588 : decode cX11_init 588 = .ok (.newarray .boolean, 2) := by decide +kernel
theorem dX11_init_590 : decode cX11_init 590 = .ok (.putfield 136, 3) := by decide +kernel
theorem dX11_init_593 : decode cX11_init 593 = .ok (.aload_n 0, 1) := by decide +kernel
theorem dX11_init_594 : decode cX11_init 594 = .ok (.iconst 0, 1) := by decide +kernel
theorem dX11_init_595 : decode cX11_init 595 = .ok (.putfield 139, 3) := by decide +kernel
theorem dX11_init_598 : decode cX11_init 598 = .ok (.aload_n 0, 1) := by decide +kernel
theorem dX11_init_599 : decode cX11_init 599 = .ok (.iconst 5, 1) := by decide +kernel
theorem dX11_init_600 : decode cX11_init 600 = .ok (.newarray .int, 2) := by decide +kernel
theorem dX11_init_602 : decode cX11_init 602 = .ok (.putfield 142, 3) := by decide +kernel
theorem dX11_init_605 : decode cX11_init 605 = .ok (.aload_n 0, 1) := by decide +kernel
theorem dX11_init_606 : decode cX11_init 606 = .ok (.bipush 25, 2) := by decide +kernel
theorem dX11_init_608 : decode cX11_init 608 = .ok (.newarray .int, 2) := by decide +kernel
theorem dX11_init_610 : decode cX11_init 610 = .ok (.putfield 145, 3) := by decide +kernel
theorem dX11_init_613 : decode cX11_init 613 = .ok (.aload_n 0, 1) := by decide +kernel
theorem dX11_init_614 : decode cX11_init 614 = .ok (.bipush 25, 2) := by decide +kernel
theorem dX11_init_616 : decode cX11_init 616 = .ok (.newarray .int, 2) := by decide +kernel
theorem dX11_init_618 : decode cX11_init 618 = .ok (.putfield 148, 3) := by decide +kernel
theorem dX11_init_621 : decode cX11_init 621 = .ok (.aload_n 0, 1) := by decide +kernel
theorem dX11_init_622 : decode cX11_init 622 = .ok (.iconst 5, 1) := by decide +kernel
theorem dX11_init_623 : decode cX11_init 623 = .ok (.newarray .int, 2) := by decide +kernel
theorem dX11_init_625 : decode cX11_init 625 = .ok (.putfield 151, 3) := by decide +kernel
theorem dX11_init_628 : decode cX11_init 628 = .ok (.aload_n 0, 1) := by decide +kernel
theorem dX11_init_629 : decode cX11_init 629 = .ok (.iconst 0, 1) := by decide +kernel
theorem dX11_init_630 : decode cX11_init 630 = .ok (.putfield 154, 3) := by decide +kernel
theorem dX11_init_633 : decode cX11_init 633 = .ok (.aload_n 0, 1) := by decide +kernel
theorem dX11_init_634 : decode cX11_init 634 = .ok (.bipush 8, 2) := by decide +kernel
theorem dX11_init_636 : decode cX11_init 636 = .ok (.newarray .int, 2) := by decide +kernel
theorem dX11_init_638 : decode cX11_init 638 = .ok (.putfield 157, 3) := by decide +kernel
theorem dX11_init_641 : decode cX11_init 641 = .ok (.aload_n 0, 1) := by decide +kernel
theorem dX11_init_642 : decode cX11_init 642 = .ok (.bipush 8, 2) := by decide +kernel
theorem dX11_init_644 : decode cX11_init 644 = .ok (.newarray .int, 2) := by decide +kernel
theorem dX11_init_646 : decode cX11_init 646 = .ok (.putfield 160, 3) := by decide +kernel
theorem dX11_init_649 : decode cX11_init 649 = .ok (.aload_n 0, 1) := by decide +kernel
theorem dX11_init_650 : decode cX11_init 650 = .ok (.iconst 0, 1) := by decide +kernel
theorem dX11_init_651 : decode cX11_init 651 = .ok (.putfield 163, 3) := by decide +kernel
theorem dX11_init_654 : decode cX11_init 654 = .ok (.aload_n 0, 1) := by decide +kernel
theorem dX11_init_655 : decode cX11_init 655 = .ok (.bipush 12, 2) := by decide +kernel
theorem dX11_init_657 : decode cX11_init 657 = .ok (.newarray .int, 2) := by decide +kernel
theorem dX11_init_659 : decode cX11_init 659 = .ok (.putfield 166, 3) := by decide +kernel
theorem dX11_init_662 : decode cX11_init 662 = .ok (.aload_n 0, 1) := by decide +kernel
theorem dX11_init_663 : decode cX11_init 663 = .ok (.iconst 0, 1) := by decide +kernel
theorem dX11_init_664 : decode cX11_init 664 = .ok (.putfield 169, 3) := by decide +kernel
theorem dX11_init_667 : decode cX11_init 667 = .ok (.aload_n 0, 1) := by decide +kernel
theorem dX11_init_668 : decode cX11_init 668 = .ok (.iconst (-1), 1) := by decide +kernel
theorem dX11_init_669 : decode cX11_init 669 = .ok (.putfield 172, 3) := by decide +kernel
theorem dX11_init_672 : decode cX11_init 672 = .ok (.aload_n 0, 1) := by decide +kernel
theorem dX11_init_673 : decode cX11_init 673 = .ok (.iconst 0, 1) := by decide +kernel
theorem dX11_init_674 : decode cX11_init 674 = .ok (.putfield 175, 3) := by decide +kernel
theorem dX11_init_677 : decode cX11_init 677 = .ok (.aload_n 0, 1) := by decide +kernel
theorem dX11_init_678 : decode cX11_init 678 = .ok (.iconst 0, 1) := by decide +kernel
theorem dX11_init_679 : decode cX11_init 679 = .ok (.putfield 178, 3) := by decide +kernel
theorem dX11_init_682 : decode cX11_init 682 = .ok (.aload_n 0, 1) := by decide +kernel
theorem dX11_init_683 : decode cX11_init 683 = .ok (.iconst 0, 1) := by decide +kernel
theorem dX11_init_684 : decode cX11_init 684 = .ok (.putfield 181, 3) := by decide +kernel
theorem dX11_init_687 : decode cX11_init 687 = .ok (.aload_n 0, 1) := by decide +kernel
theorem dX11_init_688 : decode cX11_init 688 = .ok (.iconst 0, 1) := by decide +kernel
theorem dX11_init_689 : decode cX11_init 689 = .ok (.putfield 184, 3) := by decide +kernel
theorem dX11_init_692 : decode cX11_init 692 = .ok (.aload_n 0, 1) := by decide +kernel
theorem dX11_init_693 : decode cX11_init 693 = .ok (.bipush 6, 2) := by decide +kernel
theorem dX11_init_695 : decode cX11_init 695 = .ok (.newarray .int, 2) := by decide +kernel
theorem dX11_init_697 : decode cX11_init 697 = .ok (.putfield 187, 3) := by decide +kernel
theorem dX11_init_700 : decode cX11_init 700 = .ok (.aload_n 0, 1) := by decide +kernel
theorem dX11_init_701 : decode cX11_init 701 = .ok (.bipush 6, 2) := by decide +kernel
theorem dX11_init_703 : decode cX11_init 703 = .ok (.newarray .int, 2) := by decide +kernel
theorem dX11_init_705 : decode cX11_init 705 = .ok (.putfield 190, 3) := by decide +kernel
theorem dX11_init_708 : decode cX11_init 708 = .ok (.aload_n 0, 1) := by decide +kernel
theorem dX11_init_709 : decode cX11_init 709 = .ok (.bipush 48, 2) := by decide +kernel
theorem dX11_init_711 : decode cX11_init 711 = .ok (.newarray .int, 2) := by decide +kernel
theorem dX11_init_713 : decode cX11_init 713 = .ok (.putfield 193, 3) := by decide +kernel
theorem dX11_init_716 : decode cX11_init 716 = .ok (.aload_n 0, 1) := by decide +kernel
theorem dX11_init_717 : decode cX11_init 717 = .ok (.bipush 25, 2) := by decide +kernel
theorem dX11_init_719 : decode cX11_init 719 = .ok (.newarray .int, 2) := by decide +kernel
theorem dX11_init_721 : decode cX11_init 721 = .ok (.putfield 196, 3) := by decide +kernel
theorem dX11_init_724 : decode cX11_init 724 = .ok (.aload_n 0, 1) := by decide +kernel
theorem dX11_init_725 : decode cX11_init 725 = .ok (.iconst 5, 1) := by decide +kernel
theorem dX11_init_726 : decode cX11_init 726 = .ok (.newarray .int, 2) := by decide +kernel
theorem dX11_init_728 : decode cX11_init 728 = .ok (.putfield 199, 3) := by decide +kernel
theorem dX11_init_731 : decode cX11_init 731 = .ok (.aload_n 0, 1) := by decide +kernel
theorem dX11_init_732 : decode cX11_init 732 = .ok (.bipush 8, 2) := by decide +kernel
theorem dX11_init_734 : decode cX11_init 734 = .ok (.newarray .int, 2) := by decide +kernel
theorem dX11_init_736 : decode cX11_init 736 = .ok (.putfield 202, 3) := by decide +kernel
theorem dX11_init_739 : decode cX11_init 739 = .ok (.aload_n 0, 1) := by decide +kernel
theorem dX11_init_740 : decode cX11_init 740 = .ok (.bipush 8, 2) := by decide +kernel
theorem dX11_init_742 : decode cX11_init 742 = .ok (.newarray .int, 2) := by decide +kernel
theorem dX11_init_744 : decode cX11_init 744 = .ok (.putfield 205, 3) := by decide +kernel
theorem dX11_init_747 : decode cX11_init 747 = .ok (.aload_n 0, 1) := by decide +kernel
theorem dX11_init_748 : decode cX11_init 748 = .ok (.bipush 12, 2) := by decide +kernel
theorem dX11_init_750 : decode cX11_init 750 = .ok (.newarray .int, 2) := by decide +kernel
theorem dX11_init_752 : decode cX11_init 752 = .ok (.putfield 208, 3) := by decide +kernel
theorem dX11_init_755 : decode cX11_init 755 = .ok (.aload_n 0, 1) := by decide +kernel
theorem dX11_init_756 : decode cX11_init 756 = .ok (.iconst 0, 1) := by decide +kernel
theorem dX11_init_757 : decode cX11_init 757 = .ok (.putfield 211, 3) := by decide +kernel
theorem dX11_init_760 : decode cX11_init 760 = .ok (.aload_n 0, 1) := by decide +kernel
theorem dX11_init_761 : decode cX11_init 761 = .ok (.bipush 20, 2) := by decide +kernel
theorem dX11_init_763 : decode cX11_init 763 = .ok (.newarray .int, 2) := by decide +kernel
theorem dX11_init_765 : decode cX11_init 765 = .ok (.putfield 214, 3) := by decide +kernel
theorem dX11_init_768 : decode cX11_init 768 = .ok (.aload_n 0, 1) := by decide +kernel
theorem dX11_init_769 : decode cX11_init 769 = .ok (.bipush 6, 2) := by decide +kernel
theorem dX11_init_771 : decode cX11_init 771 = .ok (.newarray .int, 2) := by decide +kernel
theorem dX11_init_773 : decode cX11_init 773 = .ok (.dup, 1) := by decide +kernel
theorem dX11_init_774 : decode cX11_init 774 = .ok (.iconst 0, 1) := by decide +kernel
theorem dX11_init_775 : decode cX11_init 775 = .ok (.iconst (-1), 1) := by decide +kernel
theorem dX11_init_776 : decode cX11_init 776 = .ok (.iastore, 1) := by decide +kernel
theorem dX11_init_777 : decode cX11_init 777 = .ok (.dup, 1) := by decide +kernel
theorem dX11_init_778 : decode cX11_init 778 = .ok (.iconst 1, 1) := by decide +kernel
theorem dX11_init_779 : decode cX11_init 779 = .ok (.iconst (-1), 1) := by decide +kernel
theorem dX11_init_780 : decode cX11_init 780 = .ok (.iastore, 1) := by decide +kernel
theorem dX11_init_781 : decode cX11_init 781 = .ok (.dup, 1) := by decide +kernel
theorem dX11_init_782 : decode cX11_init 782 = .ok (.iconst 2, 1) := by decide +kernel
theorem dX11_init_783 : decode cX11_init 783 = .ok (.iconst (-1), 1) := by decide +kernel
theorem dX11_init_784 : decode cX11_init 784 = .ok (.iastore, 1) := by decide +kernel
theorem dX11_init_785 : decode cX11_init 785 = .ok (.dup, 1) := by decide +kernel
theorem dX11_init_786 : decode cX11_init 786 = .ok (.iconst 3, 1) := by decide +kernel
theorem dX11_init_787 : decode cX11_init 787 = .ok (.iconst (-1), 1) := by decide +kernel
theorem dX11_init_788 : decode cX11_init 788 = .ok (.iastore, 1) := by decide +kernel
theorem dX11_init_789 : decode cX11_init 789 = .ok (.dup, 1) := by decide +kernel
theorem dX11_init_790 : decode cX11_init 790 = .ok (.iconst 4, 1) := by decide +kernel
theorem dX11_init_791 : decode cX11_init 791 = .ok (.iconst (-1), 1) := by decide +kernel
theorem dX11_init_792 : decode cX11_init 792 = .ok (.iastore, 1) := by decide +kernel
theorem dX11_init_793 : decode cX11_init 793 = .ok (.dup, 1) := by decide +kernel
theorem dX11_init_794 : decode cX11_init 794 = .ok (.iconst 5, 1) := by decide +kernel
theorem dX11_init_795 : decode cX11_init 795 = .ok (.iconst (-1), 1) := by decide +kernel
theorem dX11_init_796 : decode cX11_init 796 = .ok (.iastore, 1) := by decide +kernel
theorem dX11_init_797 : decode cX11_init 797 = .ok (.putfield 217, 3) := by decide +kernel
theorem dX11_init_800 : decode cX11_init 800 = .ok (.aload_n 0, 1) := by decide +kernel
theorem dX11_init_801 : decode cX11_init 801 = .ok (.bipush 6, 2) := by decide +kernel
theorem dX11_init_803 : decode cX11_init 803 = .ok (.newarray .int, 2) := by decide +kernel
theorem dX11_init_805 : decode cX11_init 805 = .ok (.putfield 220, 3) := by decide +kernel
theorem dX11_init_808 : decode cX11_init 808 = .ok (.aload_n 0, 1) := by decide +kernel
theorem dX11_init_809 : decode cX11_init 809 = .ok (.sipush 360, 3) := by decide +kernel
theorem dX11_init_812 : decode cX11_init 812 = .ok (.newarray .long, 2) := by decide +kernel
theorem dX11_init_814 : decode cX11_init 814 = .ok (.putfield 223, 3) := by decide +kernel
theorem dX11_init_817 : decode cX11_init 817 = .ok (.aload_n 0, 1) := by decide +kernel
theorem dX11_init_818 : decode cX11_init 818 = .ok (.bipush 60, 2) := by decide +kernel
theorem dX11_init_820 : decode cX11_init 820 = .ok (.newarray .long, 2) := by decide +kernel
theorem dX11_init_822 : decode cX11_init 822 = .ok (.putfield 227, 3) := by decide +kernel
theorem dX11_init_825 : decode cX11_init 825 = .ok (.return_, 1) := by decide +kernel
theorem dX11_in_0 : decode cX11_in 0 = .ok (.iload_n 1, 1) := by decide +kernel
theorem dX11_in_1 : decode cX11_in 1 = .ok (.iload_n 2, 1) := by decide +kernel
theorem dX11_in_2 : decode cX11_in 2 = .ok (.if_icmp .lt 12, 3) := by decide +kernel
theorem dX11_in_5 : decode cX11_in 5 = .ok (.iload_n 1, 1) := by decide +kernel
theorem dX11_in_6 : decode cX11_in 6 = .ok (.iload_n 3, 1) := by decide +kernel
theorem dX11_in_7 : decode cX11_in 7 = .ok (.if_icmp .gt 7, 3) := by decide +kernel
theorem dX11_in_10 : decode cX11_in 10 = .ok (.iconst 1, 1) := by decide +kernel
theorem dX11_in_11 : decode cX11_in 11 = .ok (.goto 4, 3) := by decide +kernel
theorem dX11_in_14 : decode cX11_in 14 = .ok (.iconst 0, 1) := by decide +kernel
theorem dX11_in_15 : decode cX11_in 15 = .ok (.ireturn, 1) := by decide +kernel
theorem dX11_has_0 : decode cX11_has 0 = .ok (.iload_n 1, 1) := by decide +kernel
theorem dX11_has_1 : decode cX11_has 1 = .ok (.iload_n 2, 1) := by decide +kernel
theorem dX11_has_2 : decode cX11_has 2 = .ok (.ishr, 1) := by decide +kernel
theorem dX11_has_3 : decode cX11_has 3 = .ok (.iconst 1, 1) := by decide +kernel
theorem dX11_has_4 : decode cX11_has 4 = .ok (.iand, 1) := by decide +kernel
theorem dX11_has_5 : decode cX11_has 5 = .ok (.iconst 1, 1) := by decide +kernel
theorem dX11_has_6 : decode cX11_has 6 = .ok (.if_icmp .ne 7, 3) := by decide +kernel
theorem dX11_has_9 : decode cX11_has 9 = .ok (.iconst 1, 1) := by decide +kernel
theorem dX11_has_10 : decode cX11_has 10 = .ok (.goto 4, 3) := by decide +kernel
theorem dX11_has_13 : decode cX11_has 13 = .ok (.iconst 0, 1) := by decide +kernel
theorem dX11_has_14 : decode cX11_has 14 = .ok (.ireturn, 1) := by decide +kernel
theorem dX11_ones_0 : decode cX11_ones 0 = .ok (.iconst 0, 1) := by decide +kernel
theorem dX11_ones_1 : decode cX11_ones 1 = .ok (.istore_n 2, 1) := by decide +kernel
theorem dX11_ones_2 : decode cX11_ones 2 = .ok (.iload_n 1, 1) := by decide +kernel
theorem dX11_ones_3 : decode cX11_ones 3 = .ok (.istore_n 3, 1) := by decide +kernel
theorem dX11_ones_4 : decode cX11_ones 4 = .ok (.iload_n 3, 1) := by decide +kernel
theorem dX11_ones_5 : decode cX11_ones 5 = .ok (.ifCond .eq 15, 3) := by decide +kernel
theorem dX11_ones_8 : decode cX11_ones 8 = .ok (.iinc 2 1, 3) := by decide +kernel
theorem dX11_ones_11 : decode cX11_ones 11 = .ok (.iload_n 3, 1) := by decide +kernel
theorem dX11_ones_12 : decode cX11_ones 12 = .ok (.iload_n 3, 1) := by decide +kernel
theorem dX11_ones_13 : decode cX11_ones 13 = .ok (.iconst 1, 1) := by decide +kernel
theorem dX11_ones_14 : decode cX11_ones 14 = .ok (.isub, 1) := by decide +kernel
theorem dX11_ones_15 : decode cX11_ones 15 = .ok (.iand, 1) := by decide +kernel
theorem dX11_ones_16 : decode cX11_ones 16 = .ok (.istore_n 3, 1) := by decide +kernel
theorem dX11_ones_17 : decode cX11_ones 17 = .ok (.goto (-13), 3) := by decide +kernel
theorem dX11_ones_20 : decode cX11_ones 20 = .ok (.iload_n 2, 1) := by decide +kernel
theorem dX11_ones_21 : decode cX11_ones 21 = .ok (.ireturn, 1) := by decide +kernel
theorem dX11_isPlan_0 : decode cX11_isPlan 0 = .ok (.aload_n 0, 1) := by decide +kernel
theorem dX11_isPlan_1 : decode cX11_isPlan 1 = .ok (.iload_n 1, 1) := by decide +kernel
theorem dX11_isPlan_2 : decode cX11_isPlan 2 = .ok (.iconst 0, 1) := by decide +kernel
theorem dX11_isPlan_3 : decode cX11_isPlan 3 = .ok (.aload_n 0, 1) := by decide +kernel
theorem dX11_isPlan_4 : decode cX11_isPlan 4 = .ok (.getfield 7, 3) := by decide +kernel
theorem dX11_isPlan_7 : decode cX11_isPlan 7 = .ok (.iconst 1, 1) := by decide +kernel
theorem dX11_isPlan_8 : decode cX11_isPlan 8 = .ok (.isub, 1) := by decide +kernel
theorem dX11_isPlan_9 : decode cX11_isPlan 9 = .ok (.invokevirtual 230, 3) := by decide +kernel
theorem dX11_isPlan_12 : decode cX11_isPlan 12 = .ok (.ireturn, 1) := by decide +kernel
theorem dX11_isSquare_0 : decode cX11_isSquare 0 = .ok (.aload_n 0, 1) := by decide +kernel
theorem dX11_isSquare_1 : decode cX11_isSquare 1 = .ok (.iload_n 1, 1) := by decide +kernel
theorem dX11_isSquare_2 : decode cX11_isSquare 2 = .ok (.iconst 0, 1) := by decide +kernel
theorem dX11_isSquare_3 : decode cX11_isSquare 3 = .ok (.aload_n 0, 1) := by decide +kernel
theorem dX11_isSquare_4 : decode cX11_isSquare 4 = .ok (.getfield 13, 3) := by decide +kernel
theorem dX11_isSquare_7 : decode cX11_isSquare 7 = .ok (.aload_n 0, 1) := by decide +kernel
theorem dX11_isSquare_8 : decode cX11_isSquare 8 = .ok (.getfield 13, 3) := by decide +kernel
theorem dX11_isSquare_11 : decode cX11_isSquare 11 = .ok (.imul, 1) := by decide +kernel
theorem dX11_isSquare_12 : decode cX11_isSquare 12 = .ok (.iconst 1, 1) := by decide +kernel
theorem dX11_isSquare_13 : decode cX11_isSquare 13 = .ok (.isub, 1) := by decide +kernel
theorem dX11_isSquare_14 : decode cX11_isSquare 14 = .ok (.invokevirtual 230, 3) := by decide +kernel
theorem dX11_isSquare_17 : decode cX11_isSquare 17 = .ok (.ireturn, 1) := by decide +kernel
theorem dX11_plan_0 : decode cX11_plan 0 = .ok (.aload_n 0, 1) := by decide +kernel
theorem dX11_plan_1 : decode cX11_plan 1 = .ok (.iload_n 1, 1) := by decide +kernel
theorem dX11_plan_2 : decode cX11_plan 2 = .ok (.iconst 0, 1) := by decide +kernel
theorem dX11_plan_3 : decode cX11_plan 3 = .ok (.bipush 6, 2) := by decide +kernel
theorem dX11_plan_5 : decode cX11_plan 5 = .ok (.invokevirtual 230, 3) := by decide +kernel
theorem dX11_plan_8 : decode cX11_plan 8 = .ok (.ifCond .ne 5, 3) := by decide +kernel
theorem dX11_plan_11 : decode cX11_plan 11 = .ok (.iconst (-1), 1) := by decide +kernel
theorem dX11_plan_12 : decode cX11_plan 12 = .ok (.ireturn, 1) := by decide +kernel
theorem dX11_plan_13 : decode cX11_plan 13 = .ok (.aload_n 0, 1) := by decide +kernel
theorem dX11_plan_14 : decode cX11_plan 14 = .ok (.iload_n 2, 1) := by decide +kernel
theorem dX11_plan_15 : decode cX11_plan 15 = .ok (.iconst 0, 1) := by decide +kernel
theorem dX11_plan_16 : decode cX11_plan 16 = .ok (.bipush 9, 2) := by decide +kernel
theorem dX11_plan_18 : decode cX11_plan 18 = .ok (.invokevirtual 230, 3) := by decide +kernel
theorem dX11_plan_21 : decode cX11_plan 21 = .ok (.ifCond .ne 6, 3) := by decide +kernel
theorem dX11_plan_24 : decode cX11_plan 24 = .ok (.bipush (-2), 2) := by decide +kernel
theorem dX11_plan_26 : decode cX11_plan 26 = .ok (.ireturn, 1) := by decide +kernel
theorem dX11_plan_27 : decode cX11_plan 27 = .ok (.aload_n 0, 1) := by decide +kernel
theorem dX11_plan_28 : decode cX11_plan 28 = .ok (.getfield 7, 3) := by decide +kernel
theorem dX11_plan_31 : decode cX11_plan 31 = .ok (.bipush 6, 2) := by decide +kernel
theorem dX11_plan_33 : decode cX11_plan 33 = .ok (.if_icmp .ne 6, 3) := by decide +kernel
theorem dX11_plan_36 : decode cX11_plan 36 = .ok (.bipush (-4), 2) := by decide +kernel
theorem dX11_plan_38 : decode cX11_plan 38 = .ok (.ireturn, 1) := by decide +kernel
theorem dX11_plan_39 : decode cX11_plan 39 = .ok (.aload_n 0, 1) := by decide +kernel
theorem dX11_plan_40 : decode cX11_plan 40 = .ok (.getfield 26, 3) := by decide +kernel
theorem dX11_plan_43 : decode cX11_plan 43 = .ok (.aload_n 0, 1) := by decide +kernel
theorem dX11_plan_44 : decode cX11_plan 44 = .ok (.getfield 7, 3) := by decide +kernel
theorem dX11_plan_47 : decode cX11_plan 47 = .ok (.iload_n 1, 1) := by decide +kernel
theorem dX11_plan_48 : decode cX11_plan 48 = .ok (.iastore, 1) := by decide +kernel
theorem dX11_plan_49 : decode cX11_plan 49 = .ok (.aload_n 0, 1) := by decide +kernel
theorem dX11_plan_50 : decode cX11_plan 50 = .ok (.getfield 30, 3) := by decide +kernel
theorem dX11_plan_53 : decode cX11_plan 53 = .ok (.aload_n 0, 1) := by decide +kernel
theorem dX11_plan_54 : decode cX11_plan 54 = .ok (.getfield 7, 3) := by decide +kernel
theorem dX11_plan_57 : decode cX11_plan 57 = .ok (.iload_n 2, 1) := by decide +kernel
theorem dX11_plan_58 : decode cX11_plan 58 = .ok (.iastore, 1) := by decide +kernel
theorem dX11_plan_59 : decode cX11_plan 59 = .ok (.iconst 0, 1) := by decide +kernel
theorem dX11_plan_60 : decode cX11_plan 60 = .ok (.istore_n 3, 1) := by decide +kernel
theorem dX11_plan_61 : decode cX11_plan 61 = .ok (.iload_n 3, 1) := by decide +kernel
theorem dX11_plan_62 : decode cX11_plan 62 = .ok (.bipush 8, 2) := by decide +kernel
theorem dX11_plan_64 : decode cX11_plan 64 = .ok (.if_icmp .ge 24, 3) := by decide +kernel
theorem dX11_plan_67 : decode cX11_plan 67 = .ok (.aload_n 0, 1) := by decide +kernel
theorem dX11_plan_68 : decode cX11_plan 68 = .ok (.getfield 33, 3) := by decide +kernel
theorem dX11_plan_71 : decode cX11_plan 71 = .ok (.bipush 8, 2) := by decide +kernel
theorem dX11_plan_73 : decode cX11_plan 73 = .ok (.aload_n 0, 1) := by decide +kernel
theorem dX11_plan_74 : decode cX11_plan 74 = .ok (.getfield 7, 3) := by decide +kernel
theorem dX11_plan_77 : decode cX11_plan 77 = .ok (.imul, 1) := by decide +kernel
theorem dX11_plan_78 : decode cX11_plan 78 = .ok (.iload_n 3, 1) := by decide +kernel
theorem dX11_plan_79 : decode cX11_plan 79 = .ok (.iadd, 1) := by decide +kernel
theorem dX11_plan_80 : decode cX11_plan 80 = .ok (.iconst 1, 1) := by decide +kernel
theorem dX11_plan_81 : decode cX11_plan 81 = .ok (.iastore, 1) := by decide +kernel
theorem dX11_plan_82 : decode cX11_plan 82 = .ok (.iinc 3 1, 3) := by decide +kernel
theorem dX11_plan_85 : decode cX11_plan 85 = .ok (.goto (-24), 3) := by decide +kernel
theorem dX11_plan_88 : decode cX11_plan 88 = .ok (.aload_n 0, 1) := by decide +kernel
theorem dX11_plan_89 : decode cX11_plan 89 = .ok (.dup, 1) := by decide +kernel
theorem dX11_plan_90 : decode cX11_plan 90 = .ok (.getfield 7, 3) := by decide +kernel
theorem dX11_plan_93 : decode cX11_plan 93 = .ok (.iconst 1, 1) := by decide +kernel
theorem dX11_plan_94 : decode cX11_plan 94 = .ok (.iadd, 1) := by decide +kernel
theorem dX11_plan_95 : decode cX11_plan 95 = .ok (.putfield 7, 3) := by decide +kernel
theorem dX11_plan_98 : decode cX11_plan 98 = .ok (.aload_n 0, 1) := by decide +kernel
theorem dX11_plan_99 : decode cX11_plan 99 = .ok (.getfield 7, 3) := by decide +kernel
theorem dX11_plan_102 : decode cX11_plan 102 = .ok (.iconst 1, 1) := by decide +kernel
theorem dX11_plan_103 : decode cX11_plan 103 = .ok (.isub, 1) := by decide +kernel
theorem dX11_plan_104 : decode cX11_plan 104 = .ok (.ireturn, 1) := by decide +kernel
theorem dX11_row_0 : decode cX11_row 0 = .ok (.aload_n 0, 1) := by decide +kernel
theorem dX11_row_1 : decode cX11_row 1 = .ok (.iload_n 1, 1) := by decide +kernel
theorem dX11_row_2 : decode cX11_row 2 = .ok (.invokevirtual 234, 3) := by decide +kernel
theorem dX11_row_5 : decode cX11_row 5 = .ok (.ifCond .eq 14, 3) := by decide +kernel
theorem dX11_row_8 : decode cX11_row 8 = .ok (.aload_n 0, 1) := by decide +kernel
theorem dX11_row_9 : decode cX11_row 9 = .ok (.iload_n 2, 1) := by decide +kernel
theorem dX11_row_10 : decode cX11_row 10 = .ok (.iconst 0, 1) := by decide +kernel
theorem dX11_row_11 : decode cX11_row 11 = .ok (.bipush 7, 2) := by decide +kernel
theorem dX11_row_13 : decode cX11_row 13 = .ok (.invokevirtual 230, 3) := by decide +kernel
theorem dX11_row_16 : decode cX11_row 16 = .ok (.ifCond .ne 5, 3) := by decide +kernel
theorem dX11_row_19 : decode cX11_row 19 = .ok (.iconst (-1), 1) := by decide +kernel
theorem dX11_row_20 : decode cX11_row 20 = .ok (.ireturn, 1) := by decide +kernel
theorem dX11_row_21 : decode cX11_row 21 = .ok (.aload_n 0, 1) := by decide +kernel
theorem dX11_row_22 : decode cX11_row 22 = .ok (.iload_n 3, 1) := by decide +kernel
theorem dX11_row_23 : decode cX11_row 23 = .ok (.iconst 0, 1) := by decide +kernel
theorem dX11_row_24 : decode cX11_row 24 = .ok (.iconst 1, 1) := by decide +kernel
theorem dX11_row_25 : decode cX11_row 25 = .ok (.invokevirtual 230, 3) := by decide +kernel
theorem dX11_row_28 : decode cX11_row 28 = .ok (.ifCond .ne 6, 3) := by decide +kernel
theorem dX11_row_31 : decode cX11_row 31 = .ok (.bipush (-2), 2) := by decide +kernel
theorem dX11_row_33 : decode cX11_row 33 = .ok (.ireturn, 1) := by decide +kernel
theorem dX11_row_34 : decode cX11_row 34 = .ok (.aload_n 0, 1) := by decide +kernel
theorem dX11_row_35 : decode cX11_row 35 = .ok (.getfield 26, 3) := by decide +kernel
theorem dX11_row_38 : decode cX11_row 38 = .ok (.iload_n 1, 1) := by decide +kernel
theorem dX11_row_39 : decode cX11_row 39 = .ok (.iaload, 1) := by decide +kernel
theorem dX11_row_40 : decode cX11_row 40 = .ok (.bipush 6, 2) := by decide +kernel
theorem dX11_row_42 : decode cX11_row 42 = .ok (.if_icmp .eq 6, 3) := by decide +kernel
theorem dX11_row_45 : decode cX11_row 45 = .ok (.bipush (-3), 2) := by decide +kernel
theorem dX11_row_47 : decode cX11_row 47 = .ok (.ireturn, 1) := by decide +kernel
theorem dX11_row_48 : decode cX11_row 48 = .ok (.aload_n 0, 1) := by decide +kernel
theorem dX11_row_49 : decode cX11_row 49 = .ok (.getfield 33, 3) := by decide +kernel
theorem dX11_row_52 : decode cX11_row 52 = .ok (.bipush 8, 2) := by decide +kernel
theorem dX11_row_54 : decode cX11_row 54 = .ok (.iload_n 1, 1) := by decide +kernel
theorem dX11_row_55 : decode cX11_row 55 = .ok (.imul, 1) := by decide +kernel
theorem dX11_row_56 : decode cX11_row 56 = .ok (.iload_n 2, 1) := by decide +kernel
theorem dX11_row_57 : decode cX11_row 57 = .ok (.iadd, 1) := by decide +kernel
theorem dX11_row_58 : decode cX11_row 58 = .ok (.iaload, 1) := by decide +kernel
theorem dX11_row_59 : decode cX11_row 59 = .ok (.istore 4, 2) := by decide +kernel
theorem dX11_row_61 : decode cX11_row 61 = .ok (.aload_n 0, 1) := by decide +kernel
theorem dX11_row_62 : decode cX11_row 62 = .ok (.getfield 33, 3) := by decide +kernel
theorem dX11_row_65 : decode cX11_row 65 = .ok (.bipush 8, 2) := by decide +kernel
theorem dX11_row_67 : decode cX11_row 67 = .ok (.iload_n 1, 1) := by decide +kernel
theorem dX11_row_68 : decode cX11_row 68 = .ok (.imul, 1) := by decide +kernel
theorem dX11_row_69 : decode cX11_row 69 = .ok (.iload_n 2, 1) := by decide +kernel
theorem dX11_row_70 : decode cX11_row 70 = .ok (.iadd, 1) := by decide +kernel
theorem dX11_row_71 : decode cX11_row 71 = .ok (.iload_n 3, 1) := by decide +kernel
theorem dX11_row_72 : decode cX11_row 72 = .ok (.iastore, 1) := by decide +kernel
theorem dX11_row_73 : decode cX11_row 73 = .ok (.iload 4, 2) := by decide +kernel
theorem dX11_row_75 : decode cX11_row 75 = .ok (.ireturn, 1) := by decide +kernel
theorem dX11_men_0 : decode cX11_men 0 = .ok (.iconst 0, 1) := by decide +kernel
theorem dX11_men_1 : decode cX11_men 1 = .ok (.istore_n 1, 1) := by decide +kernel
theorem dX11_men_2 : decode cX11_men 2 = .ok (.iconst 0, 1) := by decide +kernel
theorem dX11_men_3 : decode cX11_men 3 = .ok (.istore_n 2, 1) := by decide +kernel
theorem dX11_men_4 : decode cX11_men 4 = .ok (.iload_n 2, 1) := by decide +kernel
theorem dX11_men_5 : decode cX11_men 5 = .ok (.bipush 25, 2) := by decide +kernel
theorem dX11_men_7 : decode cX11_men 7 = .ok (.if_icmp .ge 28, 3) := by decide +kernel
theorem dX11_men_10 : decode cX11_men 10 = .ok (.iload_n 1, 1) := by decide +kernel
theorem dX11_men_11 : decode cX11_men 11 = .ok (.aload_n 0, 1) := by decide +kernel
theorem dX11_men_12 : decode cX11_men 12 = .ok (.getfield 36, 3) := by decide +kernel
theorem dX11_men_15 : decode cX11_men 15 = .ok (.iload_n 2, 1) := by decide +kernel
theorem dX11_men_16 : decode cX11_men 16 = .ok (.iaload, 1) := by decide +kernel
theorem dX11_men_17 : decode cX11_men 17 = .ok (.ifCond .lt 9, 3) := by decide +kernel
theorem dX11_men_20 : decode cX11_men 20 = .ok (.iconst 1, 1) := by decide +kernel
theorem dX11_men_21 : decode cX11_men 21 = .ok (.iload_n 2, 1) := by decide +kernel
theorem dX11_men_22 : decode cX11_men 22 = .ok (.ishl, 1) := by decide +kernel
theorem dX11_men_23 : decode cX11_men 23 = .ok (.goto 4, 3) := by decide +kernel
theorem dX11_men_26 : decode cX11_men 26 = .ok (.iconst 0, 1) := by decide +kernel
theorem dX11_men_27 : decode cX11_men 27 = .ok (.ior, 1) := by decide +kernel
theorem dX11_men_28 : decode cX11_men 28 = .ok (.istore_n 1, 1) := by decide +kernel
theorem dX11_men_29 : decode cX11_men 29 = .ok (.iinc 2 1, 3) := by decide +kernel
theorem dX11_men_32 : decode cX11_men 32 = .ok (.goto (-28), 3) := by decide +kernel
theorem dX11_men_35 : decode cX11_men 35 = .ok (.iload_n 1, 1) := by decide +kernel
theorem dX11_men_36 : decode cX11_men 36 = .ok (.ireturn, 1) := by decide +kernel
theorem dX11_takeAll_0 : decode cX11_takeAll 0 = .ok (.aload_n 0, 1) := by decide +kernel
theorem dX11_takeAll_1 : decode cX11_takeAll 1 = .ok (.aload_n 0, 1) := by decide +kernel
theorem dX11_takeAll_2 : decode cX11_takeAll 2 = .ok (.invokevirtual 238, 3) := by decide +kernel
theorem dX11_takeAll_5 : decode cX11_takeAll 5 = .ok (.invokevirtual 242, 3) := by decide +kernel
theorem dX11_takeAll_8 : decode cX11_takeAll 8 = .ok (.istore_n 1, 1) := by decide +kernel
theorem dX11_takeAll_9 : decode cX11_takeAll 9 = .ok (.iconst 0, 1) := by decide +kernel
theorem dX11_takeAll_10 : decode cX11_takeAll 10 = .ok (.istore_n 2, 1) := by decide +kernel
theorem dX11_takeAll_11 : decode cX11_takeAll 11 = .ok (.iload_n 2, 1) := by decide +kernel
theorem dX11_takeAll_12 : decode cX11_takeAll 12 = .ok (.bipush 25, 2) := by decide +kernel
theorem dX11_takeAll_14 : decode cX11_takeAll 14 = .ok (.if_icmp .ge 16, 3) := by decide +kernel
theorem dX11_takeAll_17 : decode cX11_takeAll 17 = .ok (.aload_n 0, 1) := by decide +kernel
theorem dX11_takeAll_18 : decode cX11_takeAll 18 = .ok (.getfield 36, 3) := by decide +kernel
theorem dX11_takeAll_21 : decode cX11_takeAll 21 = .ok (.iload_n 2, 1) := by decide +kernel
theorem dX11_takeAll_22 : decode cX11_takeAll 22 = .ok (.iconst (-1), 1) := by decide +kernel
theorem dX11_takeAll_23 : decode cX11_takeAll 23 = .ok (.iastore, 1) := by decide +kernel
theorem dX11_takeAll_24 : decode cX11_takeAll 24 = .ok (.iinc 2 1, 3) := by decide +kernel
theorem dX11_takeAll_27 : decode cX11_takeAll 27 = .ok (.goto (-16), 3) := by decide +kernel
theorem dX11_takeAll_30 : decode cX11_takeAll 30 = .ok (.iload_n 1, 1) := by decide +kernel
theorem dX11_takeAll_31 : decode cX11_takeAll 31 = .ok (.ireturn, 1) := by decide +kernel
theorem dX11_clear_0 : decode cX11_clear 0 = .ok (.aload_n 0, 1) := by decide +kernel
theorem dX11_clear_1 : decode cX11_clear 1 = .ok (.invokevirtual 246, 3) := by decide +kernel
theorem dX11_clear_4 : decode cX11_clear 4 = .ok (.ireturn, 1) := by decide +kernel
theorem dX11_of_0 : decode cX11_of 0 = .ok (.aload_n 0, 1) := by decide +kernel
theorem dX11_of_1 : decode cX11_of 1 = .ok (.iload_n 1, 1) := by decide +kernel
theorem dX11_of_2 : decode cX11_of 2 = .ok (.invokevirtual 234, 3) := by decide +kernel
theorem dX11_of_5 : decode cX11_of 5 = .ok (.ifCond .ne 5, 3) := by decide +kernel
theorem dX11_of_8 : decode cX11_of 8 = .ok (.iconst (-1), 1) := by decide +kernel
theorem dX11_of_9 : decode cX11_of 9 = .ok (.ireturn, 1) := by decide +kernel
theorem dX11_of_10 : decode cX11_of 10 = .ok (.iload_n 2, 1) := by decide +kernel
theorem dX11_of_11 : decode cX11_of 11 = .ok (.ifCond .eq 8, 3) := by decide +kernel
theorem dX11_of_14 : decode cX11_of 14 = .ok (.iload_n 2, 1) := by decide +kernel
theorem dX11_of_15 : decode cX11_of 15 = .ok (.iconst 1, 1) := by decide +kernel
theorem dX11_of_16 : decode cX11_of 16 = .ok (.if_icmp .ne 23, 3) := by decide +kernel
theorem dX11_of_19 : decode cX11_of 19 = .ok (.iload_n 2, 1) := by decide +kernel
theorem dX11_of_20 : decode cX11_of 20 = .ok (.ifCond .ne 12, 3) := by decide +kernel
theorem dX11_of_23 : decode cX11_of 23 = .ok (.aload_n 0, 1) := by decide +kernel
theorem dX11_of_24 : decode cX11_of 24 = .ok (.getfield 26, 3) := by decide +kernel
theorem dX11_of_27 : decode cX11_of 27 = .ok (.iload_n 1, 1) := by decide +kernel
theorem dX11_of_28 : decode cX11_of 28 = .ok (.iaload, 1) := by decide +kernel
theorem dX11_of_29 : decode cX11_of 29 = .ok (.goto 9, 3) := by decide +kernel
theorem dX11_of_32 : decode cX11_of 32 = .ok (.aload_n 0, 1) := by decide +kernel
theorem dX11_of_33 : decode cX11_of 33 = .ok (.getfield 30, 3) := by decide +kernel
theorem dX11_of_36 : decode cX11_of 36 = .ok (.iload_n 1, 1) := by decide +kernel
theorem dX11_of_37 : decode cX11_of 37 = .ok (.iaload, 1) := by decide +kernel
theorem dX11_of_38 : decode cX11_of 38 = .ok (.ireturn, 1) := by decide +kernel
theorem dX11_of_39 : decode cX11_of 39 = .ok (.iload_n 2, 1) := by decide +kernel
theorem dX11_of_40 : decode cX11_of 40 = .ok (.iconst 2, 1) := by decide +kernel
theorem dX11_of_41 : decode cX11_of 41 = .ok (.if_icmp .eq 5, 3) := by decide +kernel
theorem dX11_of_44 : decode cX11_of 44 = .ok (.iconst (-1), 1) := by decide +kernel
theorem dX11_of_45 : decode cX11_of 45 = .ok (.ireturn, 1) := by decide +kernel
theorem dX11_of_46 : decode cX11_of 46 = .ok (.iconst 0, 1) := by decide +kernel
theorem dX11_of_47 : decode cX11_of 47 = .ok (.istore_n 3, 1) := by decide +kernel
theorem dX11_of_48 : decode cX11_of 48 = .ok (.iconst 0, 1) := by decide +kernel
theorem dX11_of_49 : decode cX11_of 49 = .ok (.istore 4, 2) := by decide +kernel
theorem dX11_of_51 : decode cX11_of 51 = .ok (.iload 4, 2) := by decide +kernel
theorem dX11_of_53 : decode cX11_of 53 = .ok (.bipush 25, 2) := by decide +kernel
theorem dX11_of_55 : decode cX11_of 55 = .ok (.if_icmp .ge 28, 3) := by decide +kernel
theorem dX11_of_58 : decode cX11_of 58 = .ok (.iload_n 3, 1) := by decide +kernel
theorem dX11_of_59 : decode cX11_of 59 = .ok (.aload_n 0, 1) := by decide +kernel
theorem dX11_of_60 : decode cX11_of 60 = .ok (.getfield 36, 3) := by decide +kernel
theorem dX11_of_63 : decode cX11_of 63 = .ok (.iload 4, 2) := by decide +kernel
theorem dX11_of_65 : decode cX11_of 65 = .ok (.iaload, 1) := by decide +kernel
theorem dX11_of_66 : decode cX11_of 66 = .ok (.iload_n 1, 1) := by decide +kernel
theorem dX11_of_67 : decode cX11_of 67 = .ok (.if_icmp .ne 7, 3) := by decide +kernel
theorem dX11_of_70 : decode cX11_of 70 = .ok (.iconst 1, 1) := by decide +kernel
theorem dX11_of_71 : decode cX11_of 71 = .ok (.goto 4, 3) := by decide +kernel
theorem dX11_of_74 : decode cX11_of 74 = .ok (.iconst 0, 1) := by decide +kernel
theorem dX11_of_75 : decode cX11_of 75 = .ok (.iadd, 1) := by decide +kernel
theorem dX11_of_76 : decode cX11_of 76 = .ok (.istore_n 3, 1) := by decide +kernel
theorem dX11_of_77 : decode cX11_of 77 = .ok (.iinc 4 1, 3) := by decide +kernel
theorem dX11_of_80 : decode cX11_of 80 = .ok (.goto (-29), 3) := by decide +kernel
theorem dX11_of_83 : decode cX11_of 83 = .ok (.iload_n 3, 1) := by decide +kernel
theorem dX11_of_84 : decode cX11_of 84 = .ok (.ireturn, 1) := by decide +kernel
theorem dX11_feed_0 : decode cX11_feed 0 = .ok (.aload_n 0, 1) := by decide +kernel
theorem dX11_feed_1 : decode cX11_feed 1 = .ok (.iload_n 1, 1) := by decide +kernel
theorem dX11_feed_2 : decode cX11_feed 2 = .ok (.iconst 0, 1) := by decide +kernel
theorem dX11_feed_3 : decode cX11_feed 3 = .ok (.bipush 127, 2) := by decide +kernel
theorem dX11_feed_5 : decode cX11_feed 5 = .ok (.invokevirtual 230, 3) := by decide +kernel
theorem dX11_feed_8 : decode cX11_feed 8 = .ok (.ifCond .ne 6, 3) := by decide +kernel
theorem dX11_feed_11 : decode cX11_feed 11 = .ok (.bipush (-2), 2) := by decide +kernel
theorem dX11_feed_13 : decode cX11_feed 13 = .ok (.ireturn, 1) := by decide +kernel
theorem dX11_feed_14 : decode cX11_feed 14 = .ok (.aload_n 0, 1) := by decide +kernel
theorem dX11_feed_15 : decode cX11_feed 15 = .ok (.getfield 45, 3) := by decide +kernel
theorem dX11_feed_18 : decode cX11_feed 18 = .ok (.bipush 100, 2) := by decide +kernel
theorem dX11_feed_20 : decode cX11_feed 20 = .ok (.if_icmp .ne 6, 3) := by decide +kernel
theorem dX11_feed_23 : decode cX11_feed 23 = .ok (.bipush (-4), 2) := by decide +kernel
theorem dX11_feed_25 : decode cX11_feed 25 = .ok (.ireturn, 1) := by decide +kernel
theorem dX11_feed_26 : decode cX11_feed 26 = .ok (.aload_n 0, 1) := by decide +kernel
theorem dX11_feed_27 : decode cX11_feed 27 = .ok (.getfield 54, 3) := by decide +kernel
theorem dX11_feed_30 : decode cX11_feed 30 = .ok (.aload_n 0, 1) := by decide +kernel
theorem dX11_feed_31 : decode cX11_feed 31 = .ok (.getfield 45, 3) := by decide +kernel
theorem dX11_feed_34 : decode cX11_feed 34 = .ok (.iload_n 1, 1) := by decide +kernel
theorem dX11_feed_35 : decode cX11_feed 35 = .ok (.iastore, 1) := by decide +kernel
theorem dX11_feed_36 : decode cX11_feed 36 = .ok (.aload_n 0, 1) := by decide +kernel
theorem dX11_feed_37 : decode cX11_feed 37 = .ok (.dup, 1) := by decide +kernel
theorem dX11_feed_38 : decode cX11_feed 38 = .ok (.getfield 45, 3) := by decide +kernel
theorem dX11_feed_41 : decode cX11_feed 41 = .ok (.iconst 1, 1) := by decide +kernel
theorem dX11_feed_42 : decode cX11_feed 42 = .ok (.iadd, 1) := by decide +kernel
theorem dX11_feed_43 : decode cX11_feed 43 = .ok (.putfield 45, 3) := by decide +kernel
theorem dX11_feed_46 : decode cX11_feed 46 = .ok (.aload_n 0, 1) := by decide +kernel
theorem dX11_feed_47 : decode cX11_feed 47 = .ok (.getfield 45, 3) := by decide +kernel
theorem dX11_feed_50 : decode cX11_feed 50 = .ok (.ireturn, 1) := by decide +kernel
theorem dX11_next_0 : decode cX11_next 0 = .ok (.aload_n 0, 1) := by decide +kernel
theorem dX11_next_1 : decode cX11_next 1 = .ok (.getfield 48, 3) := by decide +kernel
theorem dX11_next_4 : decode cX11_next 4 = .ok (.aload_n 0, 1) := by decide +kernel
theorem dX11_next_5 : decode cX11_next 5 = .ok (.getfield 45, 3) := by decide +kernel
theorem dX11_next_8 : decode cX11_next 8 = .ok (.if_icmp .ge 15, 3) := by decide +kernel
theorem dX11_next_11 : decode cX11_next 11 = .ok (.aload_n 0, 1) := by decide +kernel
theorem dX11_next_12 : decode cX11_next 12 = .ok (.getfield 54, 3) := by decide +kernel
theorem dX11_next_15 : decode cX11_next 15 = .ok (.aload_n 0, 1) := by decide +kernel
theorem dX11_next_16 : decode cX11_next 16 = .ok (.getfield 48, 3) := by decide +kernel
theorem dX11_next_19 : decode cX11_next 19 = .ok (.iaload, 1) := by decide +kernel
theorem dX11_next_20 : decode cX11_next 20 = .ok (.goto 4, 3) := by decide +kernel
theorem dX11_next_23 : decode cX11_next 23 = .ok (.iconst (-1), 1) := by decide +kernel
theorem dX11_next_24 : decode cX11_next 24 = .ok (.ireturn, 1) := by decide +kernel
theorem dX11_takes_0 : decode cX11_takes 0 = .ok (.aload_n 0, 1) := by decide +kernel
theorem dX11_takes_1 : decode cX11_takes 1 = .ok (.invokevirtual 249, 3) := by decide +kernel
theorem dX11_takes_4 : decode cX11_takes 4 = .ok (.iload_n 1, 1) := by decide +kernel
theorem dX11_takes_5 : decode cX11_takes 5 = .ok (.if_icmp .eq 5, 3) := by decide +kernel
theorem dX11_takes_8 : decode cX11_takes 8 = .ok (.iconst 0, 1) := by decide +kernel
theorem dX11_takes_9 : decode cX11_takes 9 = .ok (.ireturn, 1) := by decide +kernel
theorem dX11_takes_10 : decode cX11_takes 10 = .ok (.aload_n 0, 1) := by decide +kernel
theorem dX11_takes_11 : decode cX11_takes 11 = .ok (.dup, 1) := by decide +kernel
theorem dX11_takes_12 : decode cX11_takes 12 = .ok (.getfield 48, 3) := by decide +kernel
theorem dX11_takes_15 : decode cX11_takes 15 = .ok (.iconst 1, 1) := by decide +kernel
theorem dX11_takes_16 : decode cX11_takes 16 = .ok (.iadd, 1) := by decide +kernel
theorem dX11_takes_17 : decode cX11_takes 17 = .ok (.putfield 48, 3) := by decide +kernel
theorem dX11_takes_20 : decode cX11_takes 20 = .ok (.iconst 1, 1) := by decide +kernel
theorem dX11_takes_21 : decode cX11_takes 21 = .ok (.ireturn, 1) := by decide +kernel
theorem dX11_takesAlone_0 : decode cX11_takesAlone 0 = .ok (.iconst 0, 1) := by decide +kernel
theorem dX11_takesAlone_1 : decode cX11_takesAlone 1 = .ok (.istore_n 3, 1) := by decide +kernel
theorem dX11_takesAlone_2 : decode cX11_takesAlone 2 = .ok (.iload_n 3, 1) := by decide +kernel
theorem dX11_takesAlone_3 : decode cX11_takesAlone 3 = .ok (.iload_n 2, 1) := by decide +kernel
theorem dX11_takesAlone_4 : decode cX11_takesAlone 4 = .ok (.if_icmp .ge 26, 3) := by decide +kernel
theorem dX11_takesAlone_7 : decode cX11_takesAlone 7 = .ok (.aload_n 0, 1) := by decide +kernel
theorem dX11_takesAlone_8 : decode cX11_takesAlone 8 = .ok (.aload_n 0, 1) := by decide +kernel
theorem dX11_takesAlone_9 : decode cX11_takesAlone 9 = .ok (.getfield 87, 3) := by decide +kernel
theorem dX11_takesAlone_12 : decode cX11_takesAlone 12 = .ok (.iload_n 1, 1) := by decide +kernel
theorem dX11_takesAlone_13 : decode cX11_takesAlone 13 = .ok (.iload_n 3, 1) := by decide +kernel
theorem dX11_takesAlone_14 : decode cX11_takesAlone 14 = .ok (.iadd, 1) := by decide +kernel
theorem dX11_takesAlone_15 : decode cX11_takesAlone 15 = .ok (.iaload, 1) := by decide +kernel
theorem dX11_takesAlone_16 : decode cX11_takesAlone 16 = .ok (.invokevirtual 252, 3) := by decide +kernel
theorem dX11_takesAlone_19 : decode cX11_takesAlone 19 = .ok (.ifCond .ne 5, 3) := by decide +kernel
theorem dX11_takesAlone_22 : decode cX11_takesAlone 22 = .ok (.iconst 0, 1) := by decide +kernel
theorem dX11_takesAlone_23 : decode cX11_takesAlone 23 = .ok (.ireturn, 1) := by decide +kernel
theorem dX11_takesAlone_24 : decode cX11_takesAlone 24 = .ok (.iinc 3 1, 3) := by decide +kernel
theorem dX11_takesAlone_27 : decode cX11_takesAlone 27 = .ok (.goto (-25), 3) := by decide +kernel
theorem dX11_takesAlone_30 : decode cX11_takesAlone 30 = .ok (.iconst 1, 1) := by decide +kernel
theorem dX11_takesAlone_31 : decode cX11_takesAlone 31 = .ok (.ireturn, 1) := by decide +kernel
theorem dX11_takesWord_0 : decode cX11_takesWord 0 = .ok (.aload_n 0, 1) := by decide +kernel
theorem dX11_takesWord_1 : decode cX11_takesWord 1 = .ok (.iload_n 1, 1) := by decide +kernel
theorem dX11_takesWord_2 : decode cX11_takesWord 2 = .ok (.iload_n 2, 1) := by decide +kernel
theorem dX11_takesWord_3 : decode cX11_takesWord 3 = .ok (.invokevirtual 255, 3) := by decide +kernel
theorem dX11_takesWord_6 : decode cX11_takesWord 6 = .ok (.ifCond .eq 16, 3) := by decide +kernel
theorem dX11_takesWord_9 : decode cX11_takesWord 9 = .ok (.aload_n 0, 1) := by decide +kernel
theorem dX11_takesWord_10 : decode cX11_takesWord 10 = .ok (.bipush 32, 2) := by decide +kernel
theorem dX11_takesWord_12 : decode cX11_takesWord 12 = .ok (.invokevirtual 252, 3) := by decide +kernel
theorem dX11_takesWord_15 : decode cX11_takesWord 15 = .ok (.ifCond .eq 7, 3) := by decide +kernel
theorem dX11_takesWord_18 : decode cX11_takesWord 18 = .ok (.iconst 1, 1) := by decide +kernel
theorem dX11_takesWord_19 : decode cX11_takesWord 19 = .ok (.goto 4, 3) := by decide +kernel
theorem dX11_takesWord_22 : decode cX11_takesWord 22 = .ok (.iconst 0, 1) := by decide +kernel
theorem dX11_takesWord_23 : decode cX11_takesWord 23 = .ok (.ireturn, 1) := by decide +kernel
theorem dX11_isDigit_0 : decode cX11_isDigit 0 = .ok (.aload_n 0, 1) := by decide +kernel
theorem dX11_isDigit_1 : decode cX11_isDigit 1 = .ok (.aload_n 0, 1) := by decide +kernel
theorem dX11_isDigit_2 : decode cX11_isDigit 2 = .ok (.invokevirtual 249, 3) := by decide +kernel
theorem dX11_isDigit_5 : decode cX11_isDigit 5 = .ok (.bipush 48, 2) := by decide +kernel
theorem dX11_isDigit_7 : decode cX11_isDigit 7 = .ok (.bipush 57, 2) := by decide +kernel
theorem dX11_isDigit_9 : decode cX11_isDigit 9 = .ok (.invokevirtual 230, 3) := by decide +kernel
theorem dX11_isDigit_12 : decode cX11_isDigit 12 = .ok (.ireturn, 1) := by decide +kernel
theorem dX11_takesNumber_0 : decode cX11_takesNumber 0 = .ok (.aload_n 0, 1) := by decide +kernel
theorem dX11_takesNumber_1 : decode cX11_takesNumber 1 = .ok (.invokevirtual 259, 3) := by decide +kernel
theorem dX11_takesNumber_4 : decode cX11_takesNumber 4 = .ok (.ifCond .ne 5, 3) := by decide +kernel
theorem dX11_takesNumber_7 : decode cX11_takesNumber 7 = .ok (.iconst 0, 1) := by decide +kernel
theorem dX11_takesNumber_8 : decode cX11_takesNumber 8 = .ok (.ireturn, 1) := by decide +kernel
theorem dX11_takesNumber_9 : decode cX11_takesNumber 9 = .ok (.aload_n 0, 1) := by decide +kernel
theorem dX11_takesNumber_10 : decode cX11_takesNumber 10 = .ok (.iconst 0, 1) := by decide +kernel
theorem dX11_takesNumber_11 : decode cX11_takesNumber 11 = .ok (.putfield 51, 3) := by decide +kernel
theorem dX11_takesNumber_14 : decode cX11_takesNumber 14 = .ok (.iconst 0, 1) := by decide +kernel
theorem dX11_takesNumber_15 : decode cX11_takesNumber 15 = .ok (.istore_n 1, 1) := by decide +kernel
theorem dX11_takesNumber_16 : decode cX11_takesNumber 16 = .ok (.iload_n 1, 1) := by decide +kernel
theorem dX11_takesNumber_17 : decode cX11_takesNumber 17 = .ok (.iconst 2, 1) := by decide +kernel
theorem dX11_takesNumber_18 : decode cX11_takesNumber 18 = .ok (.if_icmp .ge 45, 3) := by decide +kernel
theorem dX11_takesNumber_21 : decode cX11_takesNumber 21 = .ok (.aload_n 0, 1) := by decide +kernel
theorem dX11_takesNumber_22 : decode cX11_takesNumber 22 = .ok (.invokevirtual 259, 3) := by decide +kernel
theorem dX11_takesNumber_25 : decode cX11_takesNumber 25 = .ok (.ifCond .eq 38, 3) := by decide +kernel
theorem dX11_takesNumber_28 : decode cX11_takesNumber 28 = .ok (.aload_n 0, 1) := by decide +kernel
theorem dX11_takesNumber_29 : decode cX11_takesNumber 29 = .ok (.bipush 10, 2) := by decide +kernel
theorem dX11_takesNumber_31 : decode cX11_takesNumber 31 = .ok (.aload_n 0, 1) := by decide +kernel
theorem dX11_takesNumber_32 : decode cX11_takesNumber 32 = .ok (.getfield 51, 3) := by decide +kernel
theorem dX11_takesNumber_35 : decode cX11_takesNumber 35 = .ok (.imul, 1) := by decide +kernel
theorem dX11_takesNumber_36 : decode cX11_takesNumber 36 = .ok (.aload_n 0, 1) := by decide +kernel
theorem dX11_takesNumber_37 : decode cX11_takesNumber 37 = .ok (.invokevirtual 249, 3) := by decide +kernel
theorem dX11_takesNumber_40 : decode cX11_takesNumber 40 = .ok (.iadd, 1) := by decide +kernel
theorem dX11_takesNumber_41 : decode cX11_takesNumber 41 = .ok (.bipush 48, 2) := by decide +kernel
theorem dX11_takesNumber_43 : decode cX11_takesNumber 43 = .ok (.isub, 1) := by decide +kernel
theorem dX11_takesNumber_44 : decode cX11_takesNumber 44 = .ok (.putfield 51, 3) := by decide +kernel
theorem dX11_takesNumber_47 : decode cX11_takesNumber 47 = .ok (.aload_n 0, 1) := by decide +kernel
theorem dX11_takesNumber_48 : decode cX11_takesNumber 48 = .ok (.dup, 1) := by decide +kernel
theorem dX11_takesNumber_49 : decode cX11_takesNumber 49 = .ok (.getfield 48, 3) := by decide +kernel
theorem dX11_takesNumber_52 : decode cX11_takesNumber 52 = .ok (.iconst 1, 1) := by decide +kernel
theorem dX11_takesNumber_53 : decode cX11_takesNumber 53 = .ok (.iadd, 1) := by decide +kernel
theorem dX11_takesNumber_54 : decode cX11_takesNumber 54 = .ok (.putfield 48, 3) := by decide +kernel
theorem dX11_takesNumber_57 : decode cX11_takesNumber 57 = .ok (.iinc 1 1, 3) := by decide +kernel
theorem dX11_takesNumber_60 : decode cX11_takesNumber 60 = .ok (.goto (-44), 3) := by decide +kernel
theorem dX11_takesNumber_63 : decode cX11_takesNumber 63 = .ok (.iconst 1, 1) := by decide +kernel
theorem dX11_takesNumber_64 : decode cX11_takesNumber 64 = .ok (.ireturn, 1) := by decide +kernel
theorem dX11_emits_0 : decode cX11_emits 0 = .ok (.aload_n 0, 1) := by decide +kernel
theorem dX11_emits_1 : decode cX11_emits 1 = .ok (.getfield 72, 3) := by decide +kernel
theorem dX11_emits_4 : decode cX11_emits 4 = .ok (.aload_n 0, 1) := by decide +kernel
theorem dX11_emits_5 : decode cX11_emits 5 = .ok (.getfield 78, 3) := by decide +kernel
theorem dX11_emits_8 : decode cX11_emits 8 = .ok (.iload_n 1, 1) := by decide +kernel
theorem dX11_emits_9 : decode cX11_emits 9 = .ok (.iastore, 1) := by decide +kernel
theorem dX11_emits_10 : decode cX11_emits 10 = .ok (.aload_n 0, 1) := by decide +kernel
theorem dX11_emits_11 : decode cX11_emits 11 = .ok (.dup, 1) := by decide +kernel
theorem dX11_emits_12 : decode cX11_emits 12 = .ok (.getfield 78, 3) := by decide +kernel
theorem dX11_emits_15 : decode cX11_emits 15 = .ok (.iconst 1, 1) := by decide +kernel
theorem dX11_emits_16 : decode cX11_emits 16 = .ok (.iadd, 1) := by decide +kernel
theorem dX11_emits_17 : decode cX11_emits 17 = .ok (.putfield 78, 3) := by decide +kernel
theorem dX11_emits_20 : decode cX11_emits 20 = .ok (.return_, 1) := by decide +kernel
theorem dX11_whole_0 : decode cX11_whole 0 = .ok (.aload_n 0, 1) := by decide +kernel
theorem dX11_whole_1 : decode cX11_whole 1 = .ok (.getfield 81, 3) := by decide +kernel
theorem dX11_whole_4 : decode cX11_whole 4 = .ok (.ifCond .le 48, 3) := by decide +kernel
theorem dX11_whole_7 : decode cX11_whole 7 = .ok (.aload_n 0, 1) := by decide +kernel
theorem dX11_whole_8 : decode cX11_whole 8 = .ok (.getfield 75, 3) := by decide +kernel
theorem dX11_whole_11 : decode cX11_whole 11 = .ok (.aload_n 0, 1) := by decide +kernel
theorem dX11_whole_12 : decode cX11_whole 12 = .ok (.getfield 81, 3) := by decide +kernel
theorem dX11_whole_15 : decode cX11_whole 15 = .ok (.iconst 1, 1) := by decide +kernel
theorem dX11_whole_16 : decode cX11_whole 16 = .ok (.isub, 1) := by decide +kernel
theorem dX11_whole_17 : decode cX11_whole 17 = .ok (.iaload, 1) := by decide +kernel
theorem dX11_whole_18 : decode cX11_whole 18 = .ok (.bipush 33, 2) := by decide +kernel
theorem dX11_whole_20 : decode cX11_whole 20 = .ok (.if_icmp .ne 32, 3) := by decide +kernel
theorem dX11_whole_23 : decode cX11_whole 23 = .ok (.aload_n 0, 1) := by decide +kernel
theorem dX11_whole_24 : decode cX11_whole 24 = .ok (.bipush (-33), 2) := by decide +kernel
theorem dX11_whole_26 : decode cX11_whole 26 = .ok (.invokevirtual 263, 3) := by decide +kernel
theorem dX11_whole_29 : decode cX11_whole 29 = .ok (.aload_n 0, 1) := by decide +kernel
theorem dX11_whole_30 : decode cX11_whole 30 = .ok (.dup, 1) := by decide +kernel
theorem dX11_whole_31 : decode cX11_whole 31 = .ok (.getfield 81, 3) := by decide +kernel
theorem dX11_whole_34 : decode cX11_whole 34 = .ok (.iconst 1, 1) := by decide +kernel
theorem dX11_whole_35 : decode cX11_whole 35 = .ok (.isub, 1) := by decide +kernel
theorem dX11_whole_36 : decode cX11_whole 36 = .ok (.putfield 81, 3) := by decide +kernel
theorem dX11_whole_39 : decode cX11_whole 39 = .ok (.aload_n 0, 1) := by decide +kernel
theorem dX11_whole_40 : decode cX11_whole 40 = .ok (.dup, 1) := by decide +kernel
theorem dX11_whole_41 : decode cX11_whole 41 = .ok (.getfield 84, 3) := by decide +kernel
theorem dX11_whole_44 : decode cX11_whole 44 = .ok (.iconst 1, 1) := by decide +kernel
theorem dX11_whole_45 : decode cX11_whole 45 = .ok (.isub, 1) := by decide +kernel
theorem dX11_whole_46 : decode cX11_whole 46 = .ok (.putfield 84, 3) := by decide +kernel
theorem dX11_whole_49 : decode cX11_whole 49 = .ok (.goto (-49), 3) := by decide +kernel
theorem dX11_whole_52 : decode cX11_whole 52 = .ok (.return_, 1) := by decide +kernel
theorem dX11_settle_0 : decode cX11_settle 0 = .ok (.aload_n 0, 1) := by decide +kernel
theorem dX11_settle_1 : decode cX11_settle 1 = .ok (.getfield 81, 3) := by decide +kernel
theorem dX11_settle_4 : decode cX11_settle 4 = .ok (.ifCond .le 68, 3) := by decide +kernel
theorem dX11_settle_7 : decode cX11_settle 7 = .ok (.aload_n 0, 1) := by decide +kernel
theorem dX11_settle_8 : decode cX11_settle 8 = .ok (.getfield 75, 3) := by decide +kernel
theorem dX11_settle_11 : decode cX11_settle 11 = .ok (.aload_n 0, 1) := by decide +kernel
theorem dX11_settle_12 : decode cX11_settle 12 = .ok (.getfield 81, 3) := by decide +kernel
theorem dX11_settle_15 : decode cX11_settle 15 = .ok (.iconst 1, 1) := by decide +kernel
theorem dX11_settle_16 : decode cX11_settle 16 = .ok (.isub, 1) := by decide +kernel
theorem dX11_settle_17 : decode cX11_settle 17 = .ok (.iaload, 1) := by decide +kernel
theorem dX11_settle_18 : decode cX11_settle 18 = .ok (.bipush 38, 2) := by decide +kernel
theorem dX11_settle_20 : decode cX11_settle 20 = .ok (.if_icmp .eq 25, 3) := by decide +kernel
theorem dX11_settle_23 : decode cX11_settle 23 = .ok (.aload_n 0, 1) := by decide +kernel
theorem dX11_settle_24 : decode cX11_settle 24 = .ok (.getfield 75, 3) := by decide +kernel
theorem dX11_settle_27 : decode cX11_settle 27 = .ok (.aload_n 0, 1) := by decide +kernel
theorem dX11_settle_28 : decode cX11_settle 28 = .ok (.getfield 81, 3) := by decide +kernel
theorem dX11_settle_31 : decode cX11_settle 31 = .ok (.iconst 1, 1) := by decide +kernel
theorem dX11_settle_32 : decode cX11_settle 32 = .ok (.isub, 1) := by decide +kernel
theorem dX11_settle_33 : decode cX11_settle 33 = .ok (.iaload, 1) := by decide +kernel
theorem dX11_settle_34 : decode cX11_settle 34 = .ok (.bipush 124, 2) := by decide +kernel
theorem dX11_settle_36 : decode cX11_settle 36 = .ok (.if_icmp .ne 36, 3) := by decide +kernel
theorem dX11_settle_39 : decode cX11_settle 39 = .ok (.iload_n 1, 1) := by decide +kernel
theorem dX11_settle_40 : decode cX11_settle 40 = .ok (.bipush 38, 2) := by decide +kernel
theorem dX11_settle_42 : decode cX11_settle 42 = .ok (.if_icmp .eq 30, 3) := by decide +kernel
theorem dX11_settle_45 : decode cX11_settle 45 = .ok (.aload_n 0, 1) := by decide +kernel
theorem dX11_settle_46 : decode cX11_settle 46 = .ok (.dup, 1) := by decide +kernel
theorem dX11_settle_47 : decode cX11_settle 47 = .ok (.getfield 81, 3) := by decide +kernel
theorem dX11_settle_50 : decode cX11_settle 50 = .ok (.iconst 1, 1) := by decide +kernel
theorem dX11_settle_51 : decode cX11_settle 51 = .ok (.isub, 1) := by decide +kernel
theorem dX11_settle_52 : decode cX11_settle 52 = .ok (.putfield 81, 3) := by decide +kernel
theorem dX11_settle_55 : decode cX11_settle 55 = .ok (.aload_n 0, 1) := by decide +kernel
theorem dX11_settle_56 : decode cX11_settle 56 = .ok (.aload_n 0, 1) := by decide +kernel
theorem dX11_settle_57 : decode cX11_settle 57 = .ok (.getfield 75, 3) := by decide +kernel
theorem dX11_settle_60 : decode cX11_settle 60 = .ok (.aload_n 0, 1) := by decide +kernel
theorem dX11_settle_61 : decode cX11_settle 61 = .ok (.getfield 81, 3) := by decide +kernel
theorem dX11_settle_64 : decode cX11_settle 64 = .ok (.iaload, 1) := by decide +kernel
theorem dX11_settle_65 : decode cX11_settle 65 = .ok (.ineg, 1) := by decide +kernel
theorem dX11_settle_66 : decode cX11_settle 66 = .ok (.invokevirtual 263, 3) := by decide +kernel
theorem dX11_settle_69 : decode cX11_settle 69 = .ok (.goto (-69), 3) := by decide +kernel
theorem dX11_settle_72 : decode cX11_settle 72 = .ok (.return_, 1) := by decide +kernel
theorem dX11_place_0 : decode cX11_place 0 = .ok (.iload_n 1, 1) := by decide +kernel
theorem dX11_place_1 : decode cX11_place 1 = .ok (.lookupswitch 71 #[(100, 65), (110, 67), (115, 63), (119, 69), (120, 59), (121, 61)], 59) := by decide +kernel
theorem dX11_place_60 : decode cX11_place 60 = .ok (.iconst 0, 1) := by decide +kernel
theorem dX11_place_61 : decode cX11_place 61 = .ok (.ireturn, 1) := by decide +kernel
theorem dX11_place_62 : decode cX11_place 62 = .ok (.iconst 1, 1) := by decide +kernel
theorem dX11_place_63 : decode cX11_place 63 = .ok (.ireturn, 1) := by decide +kernel
theorem dX11_place_64 : decode cX11_place 64 = .ok (.iconst 2, 1) := by decide +kernel
theorem dX11_place_65 : decode cX11_place 65 = .ok (.ireturn, 1) := by decide +kernel
theorem dX11_place_66 : decode cX11_place 66 = .ok (.iconst 3, 1) := by decide +kernel
theorem dX11_place_67 : decode cX11_place 67 = .ok (.ireturn, 1) := by decide +kernel
theorem dX11_place_68 : decode cX11_place 68 = .ok (.iconst 4, 1) := by decide +kernel
theorem dX11_place_69 : decode cX11_place 69 = .ok (.ireturn, 1) := by decide +kernel
theorem dX11_place_70 : decode cX11_place 70 = .ok (.iconst 5, 1) := by decide +kernel
theorem dX11_place_71 : decode cX11_place 71 = .ok (.ireturn, 1) := by decide +kernel
theorem dX11_place_72 : decode cX11_place 72 = .ok (.iconst (-1), 1) := by decide +kernel
theorem dX11_place_73 : decode cX11_place 73 = .ok (.ireturn, 1) := by decide +kernel
theorem dX11_takesTest_0 : decode cX11_takesTest 0 = .ok (.aload_n 0, 1) := by decide +kernel
theorem dX11_takesTest_1 : decode cX11_takesTest 1 = .ok (.aload_n 0, 1) := by decide +kernel
theorem dX11_takesTest_2 : decode cX11_takesTest 2 = .ok (.invokevirtual 249, 3) := by decide +kernel
theorem dX11_takesTest_5 : decode cX11_takesTest 5 = .ok (.invokevirtual 267, 3) := by decide +kernel
theorem dX11_takesTest_8 : decode cX11_takesTest 8 = .ok (.istore_n 1, 1) := by decide +kernel
theorem dX11_takesTest_9 : decode cX11_takesTest 9 = .ok (.iload_n 1, 1) := by decide +kernel
theorem dX11_takesTest_10 : decode cX11_takesTest 10 = .ok (.ifCond .ge 5, 3) := by decide +kernel
theorem dX11_takesTest_13 : decode cX11_takesTest 13 = .ok (.iconst 0, 1) := by decide +kernel
theorem dX11_takesTest_14 : decode cX11_takesTest 14 = .ok (.ireturn, 1) := by decide +kernel
theorem dX11_takesTest_15 : decode cX11_takesTest 15 = .ok (.aload_n 0, 1) := by decide +kernel
theorem dX11_takesTest_16 : decode cX11_takesTest 16 = .ok (.dup, 1) := by decide +kernel
theorem dX11_takesTest_17 : decode cX11_takesTest 17 = .ok (.getfield 48, 3) := by decide +kernel
theorem dX11_takesTest_20 : decode cX11_takesTest 20 = .ok (.iconst 1, 1) := by decide +kernel
theorem dX11_takesTest_21 : decode cX11_takesTest 21 = .ok (.iadd, 1) := by decide +kernel
theorem dX11_takesTest_22 : decode cX11_takesTest 22 = .ok (.putfield 48, 3) := by decide +kernel
theorem dX11_takesTest_25 : decode cX11_takesTest 25 = .ok (.aload_n 0, 1) := by decide +kernel
theorem dX11_takesTest_26 : decode cX11_takesTest 26 = .ok (.invokevirtual 249, 3) := by decide +kernel
theorem dX11_takesTest_29 : decode cX11_takesTest 29 = .ok (.istore_n 2, 1) := by decide +kernel
theorem dX11_takesTest_30 : decode cX11_takesTest 30 = .ok (.aload_n 0, 1) := by decide +kernel
theorem dX11_takesTest_31 : decode cX11_takesTest 31 = .ok (.iload_n 2, 1) := by decide +kernel
theorem dX11_takesTest_32 : decode cX11_takesTest 32 = .ok (.bipush 60, 2) := by decide +kernel
theorem dX11_takesTest_34 : decode cX11_takesTest 34 = .ok (.bipush 62, 2) := by decide +kernel
theorem dX11_takesTest_36 : decode cX11_takesTest 36 = .ok (.invokevirtual 230, 3) := by decide +kernel
theorem dX11_takesTest_39 : decode cX11_takesTest 39 = .ok (.ifCond .ne 5, 3) := by decide +kernel
theorem dX11_takesTest_42 : decode cX11_takesTest 42 = .ok (.iconst 0, 1) := by decide +kernel
theorem dX11_takesTest_43 : decode cX11_takesTest 43 = .ok (.ireturn, 1) := by decide +kernel
theorem dX11_takesTest_44 : decode cX11_takesTest 44 = .ok (.aload_n 0, 1) := by decide +kernel
theorem dX11_takesTest_45 : decode cX11_takesTest 45 = .ok (.dup, 1) := by decide +kernel
theorem dX11_takesTest_46 : decode cX11_takesTest 46 = .ok (.getfield 48, 3) := by decide +kernel
theorem dX11_takesTest_49 : decode cX11_takesTest 49 = .ok (.iconst 1, 1) := by decide +kernel
theorem dX11_takesTest_50 : decode cX11_takesTest 50 = .ok (.iadd, 1) := by decide +kernel
theorem dX11_takesTest_51 : decode cX11_takesTest 51 = .ok (.putfield 48, 3) := by decide +kernel
theorem dX11_takesTest_54 : decode cX11_takesTest 54 = .ok (.aload_n 0, 1) := by decide +kernel
theorem dX11_takesTest_55 : decode cX11_takesTest 55 = .ok (.invokevirtual 270, 3) := by decide +kernel
theorem dX11_takesTest_58 : decode cX11_takesTest 58 = .ok (.ifCond .ne 5, 3) := by decide +kernel
theorem dX11_takesTest_61 : decode cX11_takesTest 61 = .ok (.iconst 0, 1) := by decide +kernel
theorem dX11_takesTest_62 : decode cX11_takesTest 62 = .ok (.ireturn, 1) := by decide +kernel
theorem dX11_takesTest_63 : decode cX11_takesTest 63 = .ok (.aload_n 0, 1) := by decide +kernel
theorem dX11_takesTest_64 : decode cX11_takesTest 64 = .ok (.sipush 1000, 3) := by decide +kernel
theorem dX11_takesTest_67 : decode cX11_takesTest 67 = .ok (.iload_n 1, 1) := by decide +kernel
theorem dX11_takesTest_68 : decode cX11_takesTest 68 = .ok (.imul, 1) := by decide +kernel
theorem dX11_takesTest_69 : decode cX11_takesTest 69 = .ok (.bipush 100, 2) := by decide +kernel
theorem dX11_takesTest_71 : decode cX11_takesTest 71 = .ok (.iload_n 2, 1) := by decide +kernel
theorem dX11_takesTest_72 : decode cX11_takesTest 72 = .ok (.bipush 60, 2) := by decide +kernel
theorem dX11_takesTest_74 : decode cX11_takesTest 74 = .ok (.isub, 1) := by decide +kernel
theorem dX11_takesTest_75 : decode cX11_takesTest 75 = .ok (.imul, 1) := by decide +kernel
theorem dX11_takesTest_76 : decode cX11_takesTest 76 = .ok (.iadd, 1) := by decide +kernel
theorem dX11_takesTest_77 : decode cX11_takesTest 77 = .ok (.aload_n 0, 1) := by decide +kernel
theorem dX11_takesTest_78 : decode cX11_takesTest 78 = .ok (.getfield 51, 3) := by decide +kernel
theorem dX11_takesTest_81 : decode cX11_takesTest 81 = .ok (.iadd, 1) := by decide +kernel
theorem dX11_takesTest_82 : decode cX11_takesTest 82 = .ok (.invokevirtual 263, 3) := by decide +kernel
theorem dX11_takesTest_85 : decode cX11_takesTest 85 = .ok (.aload_n 0, 1) := by decide +kernel
theorem dX11_takesTest_86 : decode cX11_takesTest 86 = .ok (.invokevirtual 273, 3) := by decide +kernel
theorem dX11_takesTest_89 : decode cX11_takesTest 89 = .ok (.iconst 1, 1) := by decide +kernel
theorem dX11_takesTest_90 : decode cX11_takesTest 90 = .ok (.ireturn, 1) := by decide +kernel
theorem dX11_takesE_0 : decode cX11_takesE 0 = .ok (.aload_n 0, 1) := by decide +kernel
theorem dX11_takesE_1 : decode cX11_takesE 1 = .ok (.iconst 0, 1) := by decide +kernel
theorem dX11_takesE_2 : decode cX11_takesE 2 = .ok (.putfield 81, 3) := by decide +kernel
theorem dX11_takesE_5 : decode cX11_takesE 5 = .ok (.aload_n 0, 1) := by decide +kernel
theorem dX11_takesE_6 : decode cX11_takesE 6 = .ok (.iconst 0, 1) := by decide +kernel
theorem dX11_takesE_7 : decode cX11_takesE 7 = .ok (.putfield 84, 3) := by decide +kernel
theorem dX11_takesE_10 : decode cX11_takesE 10 = .ok (.aload_n 0, 1) := by decide +kernel
theorem dX11_takesE_11 : decode cX11_takesE 11 = .ok (.getfield 66, 3) := by decide +kernel
theorem dX11_takesE_14 : decode cX11_takesE 14 = .ok (.iload_n 1, 1) := by decide +kernel
theorem dX11_takesE_15 : decode cX11_takesE 15 = .ok (.aload_n 0, 1) := by decide +kernel
theorem dX11_takesE_16 : decode cX11_takesE 16 = .ok (.getfield 78, 3) := by decide +kernel
theorem dX11_takesE_19 : decode cX11_takesE 19 = .ok (.iastore, 1) := by decide +kernel
theorem dX11_takesE_20 : decode cX11_takesE 20 = .ok (.iconst 1, 1) := by decide +kernel
theorem dX11_takesE_21 : decode cX11_takesE 21 = .ok (.istore_n 2, 1) := by decide +kernel
theorem dX11_takesE_22 : decode cX11_takesE 22 = .ok (.aload_n 0, 1) := by decide +kernel
theorem dX11_takesE_23 : decode cX11_takesE 23 = .ok (.invokevirtual 249, 3) := by decide +kernel
theorem dX11_takesE_26 : decode cX11_takesE 26 = .ok (.istore_n 3, 1) := by decide +kernel
theorem dX11_takesE_27 : decode cX11_takesE 27 = .ok (.iload_n 2, 1) := by decide +kernel
theorem dX11_takesE_28 : decode cX11_takesE 28 = .ok (.ifCond .eq 82, 3) := by decide +kernel
theorem dX11_takesE_31 : decode cX11_takesE 31 = .ok (.iload_n 3, 1) := by decide +kernel
theorem dX11_takesE_32 : decode cX11_takesE 32 = .ok (.bipush 33, 2) := by decide +kernel
theorem dX11_takesE_34 : decode cX11_takesE 34 = .ok (.if_icmp .eq 9, 3) := by decide +kernel
theorem dX11_takesE_37 : decode cX11_takesE 37 = .ok (.iload_n 3, 1) := by decide +kernel
theorem dX11_takesE_38 : decode cX11_takesE 38 = .ok (.bipush 40, 2) := by decide +kernel
theorem dX11_takesE_40 : decode cX11_takesE 40 = .ok (.if_icmp .ne 56, 3) := by decide +kernel
theorem dX11_takesE_43 : decode cX11_takesE 43 = .ok (.aload_n 0, 1) := by decide +kernel
theorem dX11_takesE_44 : decode cX11_takesE 44 = .ok (.getfield 84, 3) := by decide +kernel
theorem dX11_takesE_47 : decode cX11_takesE 47 = .ok (.iconst 4, 1) := by decide +kernel
theorem dX11_takesE_48 : decode cX11_takesE 48 = .ok (.if_icmp .ne 5, 3) := by decide +kernel
theorem dX11_takesE_51 : decode cX11_takesE 51 = .ok (.iconst 0, 1) := by decide +kernel
theorem dX11_takesE_52 : decode cX11_takesE 52 = .ok (.ireturn, 1) := by decide +kernel
theorem dX11_takesE_53 : decode cX11_takesE 53 = .ok (.aload_n 0, 1) := by decide +kernel
theorem dX11_takesE_54 : decode cX11_takesE 54 = .ok (.dup, 1) := by decide +kernel
theorem dX11_takesE_55 : decode cX11_takesE 55 = .ok (.getfield 84, 3) := by decide +kernel
theorem dX11_takesE_58 : decode cX11_takesE 58 = .ok (.iconst 1, 1) := by decide +kernel
theorem dX11_takesE_59 : decode cX11_takesE 59 = .ok (.iadd, 1) := by decide +kernel
theorem dX11_takesE_60 : decode cX11_takesE 60 = .ok (.putfield 84, 3) := by decide +kernel
theorem dX11_takesE_63 : decode cX11_takesE 63 = .ok (.aload_n 0, 1) := by decide +kernel
theorem dX11_takesE_64 : decode cX11_takesE 64 = .ok (.getfield 75, 3) := by decide +kernel
theorem dX11_takesE_67 : decode cX11_takesE 67 = .ok (.aload_n 0, 1) := by decide +kernel
theorem dX11_takesE_68 : decode cX11_takesE 68 = .ok (.getfield 81, 3) := by decide +kernel
theorem dX11_takesE_71 : decode cX11_takesE 71 = .ok (.iload_n 3, 1) := by decide +kernel
theorem dX11_takesE_72 : decode cX11_takesE 72 = .ok (.iastore, 1) := by decide +kernel
theorem dX11_takesE_73 : decode cX11_takesE 73 = .ok (.aload_n 0, 1) := by decide +kernel
theorem dX11_takesE_74 : decode cX11_takesE 74 = .ok (.dup, 1) := by decide +kernel
theorem dX11_takesE_75 : decode cX11_takesE 75 = .ok (.getfield 81, 3) := by decide +kernel
theorem dX11_takesE_78 : decode cX11_takesE 78 = .ok (.iconst 1, 1) := by decide +kernel
theorem dX11_takesE_79 : decode cX11_takesE 79 = .ok (.iadd, 1) := by decide +kernel
theorem dX11_takesE_80 : decode cX11_takesE 80 = .ok (.putfield 81, 3) := by decide +kernel
theorem dX11_takesE_83 : decode cX11_takesE 83 = .ok (.aload_n 0, 1) := by decide +kernel
theorem dX11_takesE_84 : decode cX11_takesE 84 = .ok (.dup, 1) := by decide +kernel
theorem dX11_takesE_85 : decode cX11_takesE 85 = .ok (.getfield 48, 3) := by decide +kernel
theorem dX11_takesE_88 : decode cX11_takesE 88 = .ok (.iconst 1, 1) := by decide +kernel
theorem dX11_takesE_89 : decode cX11_takesE 89 = .ok (.iadd, 1) := by decide +kernel
theorem dX11_takesE_90 : decode cX11_takesE 90 = .ok (.putfield 48, 3) := by decide +kernel
theorem dX11_takesE_93 : decode cX11_takesE 93 = .ok (.goto (-71), 3) := by decide +kernel
theorem dX11_takesE_96 : decode cX11_takesE 96 = .ok (.aload_n 0, 1) := by decide +kernel
theorem dX11_takesE_97 : decode cX11_takesE 97 = .ok (.invokevirtual 276, 3) := by decide +kernel
theorem dX11_takesE_100 : decode cX11_takesE 100 = .ok (.ifCond .eq 8, 3) := by decide +kernel
theorem dX11_takesE_103 : decode cX11_takesE 103 = .ok (.iconst 0, 1) := by decide +kernel
theorem dX11_takesE_104 : decode cX11_takesE 104 = .ok (.istore_n 2, 1) := by decide +kernel
theorem dX11_takesE_105 : decode cX11_takesE 105 = .ok (.goto (-83), 3) := by decide +kernel
theorem dX11_takesE_108 : decode cX11_takesE 108 = .ok (.iconst 0, 1) := by decide +kernel
theorem dX11_takesE_109 : decode cX11_takesE 109 = .ok (.ireturn, 1) := by decide +kernel
theorem dX11_takesE_110 : decode cX11_takesE 110 = .ok (.iload_n 3, 1) := by decide +kernel
theorem dX11_takesE_111 : decode cX11_takesE 111 = .ok (.bipush 38, 2) := by decide +kernel
theorem dX11_takesE_113 : decode cX11_takesE 113 = .ok (.if_icmp .eq 9, 3) := by decide +kernel
theorem dX11_takesE_116 : decode cX11_takesE 116 = .ok (.iload_n 3, 1) := by decide +kernel
theorem dX11_takesE_117 : decode cX11_takesE 117 = .ok (.bipush 124, 2) := by decide +kernel
theorem dX11_takesE_119 : decode cX11_takesE 119 = .ok (.if_icmp .ne 43, 3) := by decide +kernel
theorem dX11_takesE_122 : decode cX11_takesE 122 = .ok (.aload_n 0, 1) := by decide +kernel
theorem dX11_takesE_123 : decode cX11_takesE 123 = .ok (.iload_n 3, 1) := by decide +kernel
theorem dX11_takesE_124 : decode cX11_takesE 124 = .ok (.invokevirtual 279, 3) := by decide +kernel
theorem dX11_takesE_127 : decode cX11_takesE 127 = .ok (.aload_n 0, 1) := by decide +kernel
theorem dX11_takesE_128 : decode cX11_takesE 128 = .ok (.getfield 75, 3) := by decide +kernel
theorem dX11_takesE_131 : decode cX11_takesE 131 = .ok (.aload_n 0, 1) := by decide +kernel
theorem dX11_takesE_132 : decode cX11_takesE 132 = .ok (.getfield 81, 3) := by decide +kernel
theorem dX11_takesE_135 : decode cX11_takesE 135 = .ok (.iload_n 3, 1) := by decide +kernel
theorem dX11_takesE_136 : decode cX11_takesE 136 = .ok (.iastore, 1) := by decide +kernel
theorem dX11_takesE_137 : decode cX11_takesE 137 = .ok (.aload_n 0, 1) := by decide +kernel
theorem dX11_takesE_138 : decode cX11_takesE 138 = .ok (.dup, 1) := by decide +kernel
theorem dX11_takesE_139 : decode cX11_takesE 139 = .ok (.getfield 81, 3) := by decide +kernel
theorem dX11_takesE_142 : decode cX11_takesE 142 = .ok (.iconst 1, 1) := by decide +kernel
theorem dX11_takesE_143 : decode cX11_takesE 143 = .ok (.iadd, 1) := by decide +kernel
theorem dX11_takesE_144 : decode cX11_takesE 144 = .ok (.putfield 81, 3) := by decide +kernel
theorem dX11_takesE_147 : decode cX11_takesE 147 = .ok (.iconst 1, 1) := by decide +kernel
theorem dX11_takesE_148 : decode cX11_takesE 148 = .ok (.istore_n 2, 1) := by decide +kernel
theorem dX11_takesE_149 : decode cX11_takesE 149 = .ok (.aload_n 0, 1) := by decide +kernel
theorem dX11_takesE_150 : decode cX11_takesE 150 = .ok (.dup, 1) := by decide +kernel
theorem dX11_takesE_151 : decode cX11_takesE 151 = .ok (.getfield 48, 3) := by decide +kernel
theorem dX11_takesE_154 : decode cX11_takesE 154 = .ok (.iconst 1, 1) := by decide +kernel
theorem dX11_takesE_155 : decode cX11_takesE 155 = .ok (.iadd, 1) := by decide +kernel
theorem dX11_takesE_156 : decode cX11_takesE 156 = .ok (.putfield 48, 3) := by decide +kernel
theorem dX11_takesE_159 : decode cX11_takesE 159 = .ok (.goto (-137), 3) := by decide +kernel
theorem dX11_takesE_162 : decode cX11_takesE 162 = .ok (.aload_n 0, 1) := by decide +kernel
theorem dX11_takesE_163 : decode cX11_takesE 163 = .ok (.bipush 124, 2) := by decide +kernel
theorem dX11_takesE_165 : decode cX11_takesE 165 = .ok (.invokevirtual 279, 3) := by decide +kernel
theorem dX11_takesE_168 : decode cX11_takesE 168 = .ok (.aload_n 0, 1) := by decide +kernel
theorem dX11_takesE_169 : decode cX11_takesE 169 = .ok (.getfield 69, 3) := by decide +kernel
theorem dX11_takesE_172 : decode cX11_takesE 172 = .ok (.iload_n 1, 1) := by decide +kernel
theorem dX11_takesE_173 : decode cX11_takesE 173 = .ok (.aload_n 0, 1) := by decide +kernel
theorem dX11_takesE_174 : decode cX11_takesE 174 = .ok (.getfield 78, 3) := by decide +kernel
theorem dX11_takesE_177 : decode cX11_takesE 177 = .ok (.iastore, 1) := by decide +kernel
theorem dX11_takesE_178 : decode cX11_takesE 178 = .ok (.aload_n 0, 1) := by decide +kernel
theorem dX11_takesE_179 : decode cX11_takesE 179 = .ok (.getfield 81, 3) := by decide +kernel
theorem dX11_takesE_182 : decode cX11_takesE 182 = .ok (.ifCond .ne 5, 3) := by decide +kernel
theorem dX11_takesE_185 : decode cX11_takesE 185 = .ok (.iconst 1, 1) := by decide +kernel
theorem dX11_takesE_186 : decode cX11_takesE 186 = .ok (.ireturn, 1) := by decide +kernel
theorem dX11_takesE_187 : decode cX11_takesE 187 = .ok (.iload_n 3, 1) := by decide +kernel
theorem dX11_takesE_188 : decode cX11_takesE 188 = .ok (.bipush 41, 2) := by decide +kernel
theorem dX11_takesE_190 : decode cX11_takesE 190 = .ok (.if_icmp .eq 5, 3) := by decide +kernel
theorem dX11_takesE_193 : decode cX11_takesE 193 = .ok (.iconst 0, 1) := by decide +kernel
theorem dX11_takesE_194 : decode cX11_takesE 194 = .ok (.ireturn, 1) := by decide +kernel
theorem dX11_takesE_195 : decode cX11_takesE 195 = .ok (.aload_n 0, 1) := by decide +kernel
theorem dX11_takesE_196 : decode cX11_takesE 196 = .ok (.dup, 1) := by decide +kernel
theorem dX11_takesE_197 : decode cX11_takesE 197 = .ok (.getfield 81, 3) := by decide +kernel
theorem dX11_takesE_200 : decode cX11_takesE 200 = .ok (.iconst 1, 1) := by decide +kernel
theorem dX11_takesE_201 : decode cX11_takesE 201 = .ok (.isub, 1) := by decide +kernel
theorem dX11_takesE_202 : decode cX11_takesE 202 = .ok (.putfield 81, 3) := by decide +kernel
theorem dX11_takesE_205 : decode cX11_takesE 205 = .ok (.aload_n 0, 1) := by decide +kernel
theorem dX11_takesE_206 : decode cX11_takesE 206 = .ok (.dup, 1) := by decide +kernel
theorem dX11_takesE_207 : decode cX11_takesE 207 = .ok (.getfield 84, 3) := by decide +kernel
theorem dX11_takesE_210 : decode cX11_takesE 210 = .ok (.iconst 1, 1) := by decide +kernel
theorem dX11_takesE_211 : decode cX11_takesE 211 = .ok (.isub, 1) := by decide +kernel
theorem dX11_takesE_212 : decode cX11_takesE 212 = .ok (.putfield 84, 3) := by decide +kernel
theorem dX11_takesE_215 : decode cX11_takesE 215 = .ok (.aload_n 0, 1) := by decide +kernel
theorem dX11_takesE_216 : decode cX11_takesE 216 = .ok (.dup, 1) := by decide +kernel
theorem dX11_takesE_217 : decode cX11_takesE 217 = .ok (.getfield 48, 3) := by decide +kernel
theorem dX11_takesE_220 : decode cX11_takesE 220 = .ok (.iconst 1, 1) := by decide +kernel
theorem dX11_takesE_221 : decode cX11_takesE 221 = .ok (.iadd, 1) := by decide +kernel
theorem dX11_takesE_222 : decode cX11_takesE 222 = .ok (.putfield 48, 3) := by decide +kernel
theorem dX11_takesE_225 : decode cX11_takesE 225 = .ok (.aload_n 0, 1) := by decide +kernel
theorem dX11_takesE_226 : decode cX11_takesE 226 = .ok (.invokevirtual 273, 3) := by decide +kernel
theorem dX11_takesE_229 : decode cX11_takesE 229 = .ok (.goto (-207), 3) := by decide +kernel
theorem dX11_takesHead_0 : decode cX11_takesHead 0 = .ok (.aload_n 0, 1) := by decide +kernel
theorem dX11_takesHead_1 : decode cX11_takesHead 1 = .ok (.invokevirtual 249, 3) := by decide +kernel
theorem dX11_takesHead_4 : decode cX11_takesHead 4 = .ok (.lookupswitch 102 #[(98, 72), (104, 58), (114, 87), (119, 44)], 44) := by decide +kernel
theorem dX11_takesHead_48 : decode cX11_takesHead 48 = .ok (.aload_n 0, 1) := by decide +kernel
theorem dX11_takesHead_49 : decode cX11_takesHead 49 = .ok (.getfield 60, 3) := by decide +kernel
theorem dX11_takesHead_52 : decode cX11_takesHead 52 = .ok (.iload_n 1, 1) := by decide +kernel
theorem dX11_takesHead_53 : decode cX11_takesHead 53 = .ok (.iconst 0, 1) := by decide +kernel
theorem dX11_takesHead_54 : decode cX11_takesHead 54 = .ok (.iastore, 1) := by decide +kernel
theorem dX11_takesHead_55 : decode cX11_takesHead 55 = .ok (.aload_n 0, 1) := by decide +kernel
theorem dX11_takesHead_56 : decode cX11_takesHead 56 = .ok (.iconst 0, 1) := by decide +kernel
theorem dX11_takesHead_57 : decode cX11_takesHead 57 = .ok (.iconst 4, 1) := by decide +kernel
theorem dX11_takesHead_58 : decode cX11_takesHead 58 = .ok (.invokevirtual 282, 3) := by decide +kernel
theorem dX11_takesHead_61 : decode cX11_takesHead 61 = .ok (.ireturn, 1) := by decide +kernel
theorem dX11_takesHead_62 : decode cX11_takesHead 62 = .ok (.aload_n 0, 1) := by decide +kernel
theorem dX11_takesHead_63 : decode cX11_takesHead 63 = .ok (.getfield 60, 3) := by decide +kernel
theorem dX11_takesHead_66 : decode cX11_takesHead 66 = .ok (.iload_n 1, 1) := by decide +kernel
theorem dX11_takesHead_67 : decode cX11_takesHead 67 = .ok (.iconst 1, 1) := by decide +kernel
theorem dX11_takesHead_68 : decode cX11_takesHead 68 = .ok (.iastore, 1) := by decide +kernel
theorem dX11_takesHead_69 : decode cX11_takesHead 69 = .ok (.aload_n 0, 1) := by decide +kernel
theorem dX11_takesHead_70 : decode cX11_takesHead 70 = .ok (.iconst 4, 1) := by decide +kernel
theorem dX11_takesHead_71 : decode cX11_takesHead 71 = .ok (.iconst 4, 1) := by decide +kernel
theorem dX11_takesHead_72 : decode cX11_takesHead 72 = .ok (.invokevirtual 282, 3) := by decide +kernel
theorem dX11_takesHead_75 : decode cX11_takesHead 75 = .ok (.ireturn, 1) := by decide +kernel
theorem dX11_takesHead_76 : decode cX11_takesHead 76 = .ok (.aload_n 0, 1) := by decide +kernel
theorem dX11_takesHead_77 : decode cX11_takesHead 77 = .ok (.getfield 60, 3) := by decide +kernel
theorem dX11_takesHead_80 : decode cX11_takesHead 80 = .ok (.iload_n 1, 1) := by decide +kernel
theorem dX11_takesHead_81 : decode cX11_takesHead 81 = .ok (.iconst 2, 1) := by decide +kernel
theorem dX11_takesHead_82 : decode cX11_takesHead 82 = .ok (.iastore, 1) := by decide +kernel
theorem dX11_takesHead_83 : decode cX11_takesHead 83 = .ok (.aload_n 0, 1) := by decide +kernel
theorem dX11_takesHead_84 : decode cX11_takesHead 84 = .ok (.bipush 8, 2) := by decide +kernel
theorem dX11_takesHead_86 : decode cX11_takesHead 86 = .ok (.iconst 3, 1) := by decide +kernel
theorem dX11_takesHead_87 : decode cX11_takesHead 87 = .ok (.invokevirtual 282, 3) := by decide +kernel
theorem dX11_takesHead_90 : decode cX11_takesHead 90 = .ok (.ireturn, 1) := by decide +kernel
theorem dX11_takesHead_91 : decode cX11_takesHead 91 = .ok (.aload_n 0, 1) := by decide +kernel
theorem dX11_takesHead_92 : decode cX11_takesHead 92 = .ok (.getfield 60, 3) := by decide +kernel
theorem dX11_takesHead_95 : decode cX11_takesHead 95 = .ok (.iload_n 1, 1) := by decide +kernel
theorem dX11_takesHead_96 : decode cX11_takesHead 96 = .ok (.iconst 3, 1) := by decide +kernel
theorem dX11_takesHead_97 : decode cX11_takesHead 97 = .ok (.iastore, 1) := by decide +kernel
theorem dX11_takesHead_98 : decode cX11_takesHead 98 = .ok (.aload_n 0, 1) := by decide +kernel
theorem dX11_takesHead_99 : decode cX11_takesHead 99 = .ok (.bipush 11, 2) := by decide +kernel
theorem dX11_takesHead_101 : decode cX11_takesHead 101 = .ok (.iconst 5, 1) := by decide +kernel
theorem dX11_takesHead_102 : decode cX11_takesHead 102 = .ok (.invokevirtual 255, 3) := by decide +kernel
theorem dX11_takesHead_105 : decode cX11_takesHead 105 = .ok (.ireturn, 1) := by decide +kernel
theorem dX11_takesHead_106 : decode cX11_takesHead 106 = .ok (.aload_n 0, 1) := by decide +kernel
theorem dX11_takesHead_107 : decode cX11_takesHead 107 = .ok (.getfield 60, 3) := by decide +kernel
theorem dX11_takesHead_110 : decode cX11_takesHead 110 = .ok (.iload_n 1, 1) := by decide +kernel
theorem dX11_takesHead_111 : decode cX11_takesHead 111 = .ok (.iconst 4, 1) := by decide +kernel
theorem dX11_takesHead_112 : decode cX11_takesHead 112 = .ok (.iastore, 1) := by decide +kernel
theorem dX11_takesHead_113 : decode cX11_takesHead 113 = .ok (.aload_n 0, 1) := by decide +kernel
theorem dX11_takesHead_114 : decode cX11_takesHead 114 = .ok (.bipush 16, 2) := by decide +kernel
theorem dX11_takesHead_116 : decode cX11_takesHead 116 = .ok (.iconst 4, 1) := by decide +kernel
theorem dX11_takesHead_117 : decode cX11_takesHead 117 = .ok (.invokevirtual 255, 3) := by decide +kernel
theorem dX11_takesHead_120 : decode cX11_takesHead 120 = .ok (.ireturn, 1) := by decide +kernel
theorem dX11_takesClause_0 : decode cX11_takesClause 0 = .ok (.aload_n 0, 1) := by decide +kernel
theorem dX11_takesClause_1 : decode cX11_takesClause 1 = .ok (.iload_n 1, 1) := by decide +kernel
theorem dX11_takesClause_2 : decode cX11_takesClause 2 = .ok (.invokevirtual 285, 3) := by decide +kernel
theorem dX11_takesClause_5 : decode cX11_takesClause 5 = .ok (.ifCond .ne 5, 3) := by decide +kernel
theorem dX11_takesClause_8 : decode cX11_takesClause 8 = .ok (.iconst 0, 1) := by decide +kernel
theorem dX11_takesClause_9 : decode cX11_takesClause 9 = .ok (.ireturn, 1) := by decide +kernel
theorem dX11_takesClause_10 : decode cX11_takesClause 10 = .ok (.aload_n 0, 1) := by decide +kernel
theorem dX11_takesClause_11 : decode cX11_takesClause 11 = .ok (.getfield 60, 3) := by decide +kernel
theorem dX11_takesClause_14 : decode cX11_takesClause 14 = .ok (.iload_n 1, 1) := by decide +kernel
theorem dX11_takesClause_15 : decode cX11_takesClause 15 = .ok (.iaload, 1) := by decide +kernel
theorem dX11_takesClause_16 : decode cX11_takesClause 16 = .ok (.iconst 2, 1) := by decide +kernel
theorem dX11_takesClause_17 : decode cX11_takesClause 17 = .ok (.if_icmp .le 5, 3) := by decide +kernel
theorem dX11_takesClause_20 : decode cX11_takesClause 20 = .ok (.iconst 1, 1) := by decide +kernel
theorem dX11_takesClause_21 : decode cX11_takesClause 21 = .ok (.ireturn, 1) := by decide +kernel
theorem dX11_takesClause_22 : decode cX11_takesClause 22 = .ok (.aload_n 0, 1) := by decide +kernel
theorem dX11_takesClause_23 : decode cX11_takesClause 23 = .ok (.getfield 60, 3) := by decide +kernel
theorem dX11_takesClause_26 : decode cX11_takesClause 26 = .ok (.iload_n 1, 1) := by decide +kernel
theorem dX11_takesClause_27 : decode cX11_takesClause 27 = .ok (.iaload, 1) := by decide +kernel
theorem dX11_takesClause_28 : decode cX11_takesClause 28 = .ok (.ifCond .eq 9, 3) := by decide +kernel
theorem dX11_takesClause_31 : decode cX11_takesClause 31 = .ok (.aload_n 0, 1) := by decide +kernel
theorem dX11_takesClause_32 : decode cX11_takesClause 32 = .ok (.iload_n 1, 1) := by decide +kernel
theorem dX11_takesClause_33 : decode cX11_takesClause 33 = .ok (.invokevirtual 288, 3) := by decide +kernel
theorem dX11_takesClause_36 : decode cX11_takesClause 36 = .ok (.ireturn, 1) := by decide +kernel
theorem dX11_takesClause_37 : decode cX11_takesClause 37 = .ok (.aload_n 0, 1) := by decide +kernel
theorem dX11_takesClause_38 : decode cX11_takesClause 38 = .ok (.invokevirtual 270, 3) := by decide +kernel
theorem dX11_takesClause_41 : decode cX11_takesClause 41 = .ok (.ifCond .ne 5, 3) := by decide +kernel
theorem dX11_takesClause_44 : decode cX11_takesClause 44 = .ok (.iconst 0, 1) := by decide +kernel
theorem dX11_takesClause_45 : decode cX11_takesClause 45 = .ok (.ireturn, 1) := by decide +kernel
theorem dX11_takesClause_46 : decode cX11_takesClause 46 = .ok (.aload_n 0, 1) := by decide +kernel
theorem dX11_takesClause_47 : decode cX11_takesClause 47 = .ok (.getfield 63, 3) := by decide +kernel
theorem dX11_takesClause_50 : decode cX11_takesClause 50 = .ok (.iload_n 1, 1) := by decide +kernel
theorem dX11_takesClause_51 : decode cX11_takesClause 51 = .ok (.aload_n 0, 1) := by decide +kernel
theorem dX11_takesClause_52 : decode cX11_takesClause 52 = .ok (.getfield 51, 3) := by decide +kernel
theorem dX11_takesClause_55 : decode cX11_takesClause 55 = .ok (.iastore, 1) := by decide +kernel
theorem dX11_takesClause_56 : decode cX11_takesClause 56 = .ok (.iconst 1, 1) := by decide +kernel
theorem dX11_takesClause_57 : decode cX11_takesClause 57 = .ok (.ireturn, 1) := by decide +kernel
theorem dX11_goesText_0 : decode cX11_goesText 0 = .ok (.aload_n 0, 1) := by decide +kernel
theorem dX11_goesText_1 : decode cX11_goesText 1 = .ok (.iconst 0, 1) := by decide +kernel
theorem dX11_goesText_2 : decode cX11_goesText 2 = .ok (.putfield 48, 3) := by decide +kernel
theorem dX11_goesText_5 : decode cX11_goesText 5 = .ok (.aload_n 0, 1) := by decide +kernel
theorem dX11_goesText_6 : decode cX11_goesText 6 = .ok (.bipush 100, 2) := by decide +kernel
theorem dX11_goesText_8 : decode cX11_goesText 8 = .ok (.iload_n 1, 1) := by decide +kernel
theorem dX11_goesText_9 : decode cX11_goesText 9 = .ok (.imul, 1) := by decide +kernel
theorem dX11_goesText_10 : decode cX11_goesText 10 = .ok (.putfield 78, 3) := by decide +kernel
theorem dX11_goesText_13 : decode cX11_goesText 13 = .ok (.iconst 0, 1) := by decide +kernel
theorem dX11_goesText_14 : decode cX11_goesText 14 = .ok (.istore_n 2, 1) := by decide +kernel
theorem dX11_goesText_15 : decode cX11_goesText 15 = .ok (.aload_n 0, 1) := by decide +kernel
theorem dX11_goesText_16 : decode cX11_goesText 16 = .ok (.bipush 10, 2) := by decide +kernel
theorem dX11_goesText_18 : decode cX11_goesText 18 = .ok (.iload_n 1, 1) := by decide +kernel
theorem dX11_goesText_19 : decode cX11_goesText 19 = .ok (.imul, 1) := by decide +kernel
theorem dX11_goesText_20 : decode cX11_goesText 20 = .ok (.iload_n 2, 1) := by decide +kernel
theorem dX11_goesText_21 : decode cX11_goesText 21 = .ok (.iadd, 1) := by decide +kernel
theorem dX11_goesText_22 : decode cX11_goesText 22 = .ok (.invokevirtual 291, 3) := by decide +kernel
theorem dX11_goesText_25 : decode cX11_goesText 25 = .ok (.ifCond .ne 5, 3) := by decide +kernel
theorem dX11_goesText_28 : decode cX11_goesText 28 = .ok (.iconst 0, 1) := by decide +kernel
theorem dX11_goesText_29 : decode cX11_goesText 29 = .ok (.ireturn, 1) := by decide +kernel
theorem dX11_goesText_30 : decode cX11_goesText 30 = .ok (.iinc 2 1, 3) := by decide +kernel
theorem dX11_goesText_33 : decode cX11_goesText 33 = .ok (.aload_n 0, 1) := by decide +kernel
theorem dX11_goesText_34 : decode cX11_goesText 34 = .ok (.getfield 57, 3) := by decide +kernel
theorem dX11_goesText_37 : decode cX11_goesText 37 = .ok (.iload_n 1, 1) := by decide +kernel
theorem dX11_goesText_38 : decode cX11_goesText 38 = .ok (.iload_n 2, 1) := by decide +kernel
theorem dX11_goesText_39 : decode cX11_goesText 39 = .ok (.iastore, 1) := by decide +kernel
theorem dX11_goesText_40 : decode cX11_goesText 40 = .ok (.aload_n 0, 1) := by decide +kernel
theorem dX11_goesText_41 : decode cX11_goesText 41 = .ok (.getfield 48, 3) := by decide +kernel
theorem dX11_goesText_44 : decode cX11_goesText 44 = .ok (.aload_n 0, 1) := by decide +kernel
theorem dX11_goesText_45 : decode cX11_goesText 45 = .ok (.getfield 45, 3) := by decide +kernel
theorem dX11_goesText_48 : decode cX11_goesText 48 = .ok (.if_icmp .ne 5, 3) := by decide +kernel
theorem dX11_goesText_51 : decode cX11_goesText 51 = .ok (.iconst 1, 1) := by decide +kernel
theorem dX11_goesText_52 : decode cX11_goesText 52 = .ok (.ireturn, 1) := by decide +kernel
theorem dX11_goesText_53 : decode cX11_goesText 53 = .ok (.iload_n 2, 1) := by decide +kernel
theorem dX11_goesText_54 : decode cX11_goesText 54 = .ok (.bipush 10, 2) := by decide +kernel
theorem dX11_goesText_56 : decode cX11_goesText 56 = .ok (.if_icmp .eq 12, 3) := by decide +kernel
theorem dX11_goesText_59 : decode cX11_goesText 59 = .ok (.aload_n 0, 1) := by decide +kernel
theorem dX11_goesText_60 : decode cX11_goesText 60 = .ok (.bipush 59, 2) := by decide +kernel
theorem dX11_goesText_62 : decode cX11_goesText 62 = .ok (.invokevirtual 252, 3) := by decide +kernel
theorem dX11_goesText_65 : decode cX11_goesText 65 = .ok (.ifCond .ne (-50), 3) := by decide +kernel
theorem dX11_goesText_68 : decode cX11_goesText 68 = .ok (.iconst 0, 1) := by decide +kernel
theorem dX11_goesText_69 : decode cX11_goesText 69 = .ok (.ireturn, 1) := by decide +kernel
theorem dX11_yard_0 : decode cX11_yard 0 = .ok (.aload_n 0, 1) := by decide +kernel
theorem dX11_yard_1 : decode cX11_yard 1 = .ok (.getfield 39, 3) := by decide +kernel
theorem dX11_yard_4 : decode cX11_yard 4 = .ok (.bipush 6, 2) := by decide +kernel
theorem dX11_yard_6 : decode cX11_yard 6 = .ok (.if_icmp .ne 6, 3) := by decide +kernel
theorem dX11_yard_9 : decode cX11_yard 9 = .ok (.bipush (-4), 2) := by decide +kernel
theorem dX11_yard_11 : decode cX11_yard 11 = .ok (.ireturn, 1) := by decide +kernel
theorem dX11_yard_12 : decode cX11_yard 12 = .ok (.aload_n 0, 1) := by decide +kernel
theorem dX11_yard_13 : decode cX11_yard 13 = .ok (.aload_n 0, 1) := by decide +kernel
theorem dX11_yard_14 : decode cX11_yard 14 = .ok (.getfield 39, 3) := by decide +kernel
theorem dX11_yard_17 : decode cX11_yard 17 = .ok (.invokevirtual 294, 3) := by decide +kernel
theorem dX11_yard_20 : decode cX11_yard 20 = .ok (.istore_n 1, 1) := by decide +kernel
theorem dX11_yard_21 : decode cX11_yard 21 = .ok (.aload_n 0, 1) := by decide +kernel
theorem dX11_yard_22 : decode cX11_yard 22 = .ok (.iconst 0, 1) := by decide +kernel
theorem dX11_yard_23 : decode cX11_yard 23 = .ok (.putfield 45, 3) := by decide +kernel
theorem dX11_yard_26 : decode cX11_yard 26 = .ok (.iload_n 1, 1) := by decide +kernel
theorem dX11_yard_27 : decode cX11_yard 27 = .ok (.ifCond .ne 11, 3) := by decide +kernel
theorem dX11_yard_30 : decode cX11_yard 30 = .ok (.bipush (-10), 2) := by decide +kernel
theorem dX11_yard_32 : decode cX11_yard 32 = .ok (.aload_n 0, 1) := by decide +kernel
theorem dX11_yard_33 : decode cX11_yard 33 = .ok (.getfield 48, 3) := by decide +kernel
theorem dX11_yard_36 : decode cX11_yard 36 = .ok (.isub, 1) := by decide +kernel
theorem dX11_yard_37 : decode cX11_yard 37 = .ok (.ireturn, 1) := by decide +kernel
theorem dX11_yard_38 : decode cX11_yard 38 = .ok (.aload_n 0, 1) := by decide +kernel
theorem dX11_yard_39 : decode cX11_yard 39 = .ok (.aload_n 0, 1) := by decide +kernel
theorem dX11_yard_40 : decode cX11_yard 40 = .ok (.getfield 39, 3) := by decide +kernel
theorem dX11_yard_43 : decode cX11_yard 43 = .ok (.putfield 42, 3) := by decide +kernel
theorem dX11_yard_46 : decode cX11_yard 46 = .ok (.aload_n 0, 1) := by decide +kernel
theorem dX11_yard_47 : decode cX11_yard 47 = .ok (.dup, 1) := by decide +kernel
theorem dX11_yard_48 : decode cX11_yard 48 = .ok (.getfield 39, 3) := by decide +kernel
theorem dX11_yard_51 : decode cX11_yard 51 = .ok (.iconst 1, 1) := by decide +kernel
theorem dX11_yard_52 : decode cX11_yard 52 = .ok (.iadd, 1) := by decide +kernel
theorem dX11_yard_53 : decode cX11_yard 53 = .ok (.putfield 39, 3) := by decide +kernel
theorem dX11_yard_56 : decode cX11_yard 56 = .ok (.aload_n 0, 1) := by decide +kernel
theorem dX11_yard_57 : decode cX11_yard 57 = .ok (.invokevirtual 297, 3) := by decide +kernel
theorem dX11_yard_60 : decode cX11_yard 60 = .ok (.aload_n 0, 1) := by decide +kernel
theorem dX11_yard_61 : decode cX11_yard 61 = .ok (.invokevirtual 246, 3) := by decide +kernel
theorem dX11_yard_64 : decode cX11_yard 64 = .ok (.istore_n 2, 1) := by decide +kernel
theorem dX11_yard_65 : decode cX11_yard 65 = .ok (.aload_n 0, 1) := by decide +kernel
theorem dX11_yard_66 : decode cX11_yard 66 = .ok (.iconst 0, 1) := by decide +kernel
theorem dX11_yard_67 : decode cX11_yard 67 = .ok (.putfield 139, 3) := by decide +kernel
theorem dX11_yard_70 : decode cX11_yard 70 = .ok (.aload_n 0, 1) := by decide +kernel
theorem dX11_yard_71 : decode cX11_yard 71 = .ok (.iconst 0, 1) := by decide +kernel
theorem dX11_yard_72 : decode cX11_yard 72 = .ok (.putfield 154, 3) := by decide +kernel
theorem dX11_yard_75 : decode cX11_yard 75 = .ok (.aload_n 0, 1) := by decide +kernel
theorem dX11_yard_76 : decode cX11_yard 76 = .ok (.iconst 0, 1) := by decide +kernel
theorem dX11_yard_77 : decode cX11_yard 77 = .ok (.putfield 163, 3) := by decide +kernel
theorem dX11_yard_80 : decode cX11_yard 80 = .ok (.aload_n 0, 1) := by decide +kernel
theorem dX11_yard_81 : decode cX11_yard 81 = .ok (.getfield 42, 3) := by decide +kernel
theorem dX11_yard_84 : decode cX11_yard 84 = .ok (.ireturn, 1) := by decide +kernel
theorem dX11_begin_0 : decode cX11_begin 0 = .ok (.aload_n 0, 1) := by decide +kernel
theorem dX11_begin_1 : decode cX11_begin 1 = .ok (.getfield 42, 3) := by decide +kernel
theorem dX11_begin_4 : decode cX11_begin 4 = .ok (.ifCond .ge 7, 3) := by decide +kernel
theorem dX11_begin_7 : decode cX11_begin 7 = .ok (.iconst 0, 1) := by decide +kernel
theorem dX11_begin_8 : decode cX11_begin 8 = .ok (.goto 10, 3) := by decide +kernel
theorem dX11_begin_11 : decode cX11_begin 11 = .ok (.bipush 10, 2) := by decide +kernel
theorem dX11_begin_13 : decode cX11_begin 13 = .ok (.aload_n 0, 1) := by decide +kernel
theorem dX11_begin_14 : decode cX11_begin 14 = .ok (.getfield 42, 3) := by decide +kernel
theorem dX11_begin_17 : decode cX11_begin 17 = .ok (.imul, 1) := by decide +kernel
theorem dX11_begin_18 : decode cX11_begin 18 = .ok (.ireturn, 1) := by decide +kernel
theorem dX11_behind_0 : decode cX11_behind 0 = .ok (.aload_n 0, 1) := by decide +kernel
theorem dX11_behind_1 : decode cX11_behind 1 = .ok (.getfield 42, 3) := by decide +kernel
theorem dX11_behind_4 : decode cX11_behind 4 = .ok (.ifCond .ge 7, 3) := by decide +kernel
theorem dX11_behind_7 : decode cX11_behind 7 = .ok (.iconst 0, 1) := by decide +kernel
theorem dX11_behind_8 : decode cX11_behind 8 = .ok (.goto 20, 3) := by decide +kernel
theorem dX11_behind_11 : decode cX11_behind 11 = .ok (.bipush 10, 2) := by decide +kernel
theorem dX11_behind_13 : decode cX11_behind 13 = .ok (.aload_n 0, 1) := by decide +kernel
theorem dX11_behind_14 : decode cX11_behind 14 = .ok (.getfield 42, 3) := by decide +kernel
theorem dX11_behind_17 : decode cX11_behind 17 = .ok (.imul, 1) := by decide +kernel
theorem dX11_behind_18 : decode cX11_behind 18 = .ok (.aload_n 0, 1) := by decide +kernel
theorem dX11_behind_19 : decode cX11_behind 19 = .ok (.getfield 57, 3) := by decide +kernel
theorem dX11_behind_22 : decode cX11_behind 22 = .ok (.aload_n 0, 1) := by decide +kernel
theorem dX11_behind_23 : decode cX11_behind 23 = .ok (.getfield 42, 3) := by decide +kernel
theorem dX11_behind_26 : decode cX11_behind 26 = .ok (.iaload, 1) := by decide +kernel
theorem dX11_behind_27 : decode cX11_behind 27 = .ok (.iadd, 1) := by decide +kernel
theorem dX11_behind_28 : decode cX11_behind 28 = .ok (.ireturn, 1) := by decide +kernel
theorem dX11_apart_0 : decode cX11_apart 0 = .ok (.iload_n 1, 1) := by decide +kernel
theorem dX11_apart_1 : decode cX11_apart 1 = .ok (.iload_n 2, 1) := by decide +kernel
theorem dX11_apart_2 : decode cX11_apart 2 = .ok (.if_icmp .ge 9, 3) := by decide +kernel
theorem dX11_apart_5 : decode cX11_apart 5 = .ok (.iload_n 2, 1) := by decide +kernel
theorem dX11_apart_6 : decode cX11_apart 6 = .ok (.iload_n 1, 1) := by decide +kernel
theorem dX11_apart_7 : decode cX11_apart 7 = .ok (.isub, 1) := by decide +kernel
theorem dX11_apart_8 : decode cX11_apart 8 = .ok (.goto 6, 3) := by decide +kernel
theorem dX11_apart_11 : decode cX11_apart 11 = .ok (.iload_n 1, 1) := by decide +kernel
theorem dX11_apart_12 : decode cX11_apart 12 = .ok (.iload_n 2, 1) := by decide +kernel
theorem dX11_apart_13 : decode cX11_apart 13 = .ok (.isub, 1) := by decide +kernel
theorem dX11_apart_14 : decode cX11_apart 14 = .ok (.ireturn, 1) := by decide +kernel
theorem dX11_factOf_0 : decode cX11_factOf 0 = .ok (.iload_n 2, 1) := by decide +kernel
theorem dX11_factOf_1 : decode cX11_factOf 1 = .ok (.aload_n 0, 1) := by decide +kernel
theorem dX11_factOf_2 : decode cX11_factOf 2 = .ok (.getfield 13, 3) := by decide +kernel
theorem dX11_factOf_5 : decode cX11_factOf 5 = .ok (.irem, 1) := by decide +kernel
theorem dX11_factOf_6 : decode cX11_factOf 6 = .ok (.istore_n 3, 1) := by decide +kernel
theorem dX11_factOf_7 : decode cX11_factOf 7 = .ok (.iload_n 2, 1) := by decide +kernel
theorem dX11_factOf_8 : decode cX11_factOf 8 = .ok (.aload_n 0, 1) := by decide +kernel
theorem dX11_factOf_9 : decode cX11_factOf 9 = .ok (.getfield 13, 3) := by decide +kernel
theorem dX11_factOf_12 : decode cX11_factOf 12 = .ok (.idiv, 1) := by decide +kernel
theorem dX11_factOf_13 : decode cX11_factOf 13 = .ok (.istore 4, 2) := by decide +kernel
theorem dX11_factOf_15 : decode cX11_factOf 15 = .ok (.iload_n 1, 1) := by decide +kernel
theorem dX11_factOf_16 : decode cX11_factOf 16 = .ok (.tableswitch 56 0 4 #[36, 38, 41, 46, 54], 36) := by decide +kernel
theorem dX11_factOf_52 : decode cX11_factOf 52 = .ok (.iload_n 3, 1) := by decide +kernel
theorem dX11_factOf_53 : decode cX11_factOf 53 = .ok (.ireturn, 1) := by decide +kernel
theorem dX11_factOf_54 : decode cX11_factOf 54 = .ok (.iload 4, 2) := by decide +kernel
theorem dX11_factOf_56 : decode cX11_factOf 56 = .ok (.ireturn, 1) := by decide +kernel
theorem dX11_factOf_57 : decode cX11_factOf 57 = .ok (.iload_n 3, 1) := by decide +kernel
theorem dX11_factOf_58 : decode cX11_factOf 58 = .ok (.iload 4, 2) := by decide +kernel
theorem dX11_factOf_60 : decode cX11_factOf 60 = .ok (.iadd, 1) := by decide +kernel
theorem dX11_factOf_61 : decode cX11_factOf 61 = .ok (.ireturn, 1) := by decide +kernel
theorem dX11_factOf_62 : decode cX11_factOf 62 = .ok (.aload_n 0, 1) := by decide +kernel
theorem dX11_factOf_63 : decode cX11_factOf 63 = .ok (.iload_n 3, 1) := by decide +kernel
theorem dX11_factOf_64 : decode cX11_factOf 64 = .ok (.iload 4, 2) := by decide +kernel
theorem dX11_factOf_66 : decode cX11_factOf 66 = .ok (.invokevirtual 300, 3) := by decide +kernel
theorem dX11_factOf_69 : decode cX11_factOf 69 = .ok (.ireturn, 1) := by decide +kernel
theorem dX11_factOf_70 : decode cX11_factOf 70 = .ok (.iload_n 2, 1) := by decide +kernel
theorem dX11_factOf_71 : decode cX11_factOf 71 = .ok (.ireturn, 1) := by decide +kernel
theorem dX11_factOf_72 : decode cX11_factOf 72 = .ok (.aload_n 0, 1) := by decide +kernel
theorem dX11_factOf_73 : decode cX11_factOf 73 = .ok (.getfield 13, 3) := by decide +kernel
theorem dX11_factOf_76 : decode cX11_factOf 76 = .ok (.ireturn, 1) := by decide +kernel
theorem dX11_holds_0 : decode cX11_holds 0 = .ok (.iconst 0, 1) := by decide +kernel
theorem dX11_holds_1 : decode cX11_holds 1 = .ok (.istore_n 3, 1) := by decide +kernel
theorem dX11_holds_2 : decode cX11_holds 2 = .ok (.aload_n 0, 1) := by decide +kernel
theorem dX11_holds_3 : decode cX11_holds 3 = .ok (.getfield 66, 3) := by decide +kernel
theorem dX11_holds_6 : decode cX11_holds 6 = .ok (.iload_n 1, 1) := by decide +kernel
theorem dX11_holds_7 : decode cX11_holds 7 = .ok (.iaload, 1) := by decide +kernel
theorem dX11_holds_8 : decode cX11_holds 8 = .ok (.istore 4, 2) := by decide +kernel
theorem dX11_holds_10 : decode cX11_holds 10 = .ok (.iload 4, 2) := by decide +kernel
theorem dX11_holds_12 : decode cX11_holds 12 = .ok (.aload_n 0, 1) := by decide +kernel
theorem dX11_holds_13 : decode cX11_holds 13 = .ok (.getfield 69, 3) := by decide +kernel
theorem dX11_holds_16 : decode cX11_holds 16 = .ok (.iload_n 1, 1) := by decide +kernel
theorem dX11_holds_17 : decode cX11_holds 17 = .ok (.iaload, 1) := by decide +kernel
theorem dX11_holds_18 : decode cX11_holds 18 = .ok (.if_icmp .ge 225, 3) := by decide +kernel
theorem dX11_holds_21 : decode cX11_holds 21 = .ok (.aload_n 0, 1) := by decide +kernel
theorem dX11_holds_22 : decode cX11_holds 22 = .ok (.getfield 72, 3) := by decide +kernel
theorem dX11_holds_25 : decode cX11_holds 25 = .ok (.iload 4, 2) := by decide +kernel
theorem dX11_holds_27 : decode cX11_holds 27 = .ok (.iaload, 1) := by decide +kernel
theorem dX11_holds_28 : decode cX11_holds 28 = .ok (.istore 5, 2) := by decide +kernel
theorem dX11_holds_30 : decode cX11_holds 30 = .ok (.iload 5, 2) := by decide +kernel
theorem dX11_holds_32 : decode cX11_holds 32 = .ok (.bipush (-33), 2) := by decide +kernel
theorem dX11_holds_34 : decode cX11_holds 34 = .ok (.if_icmp .ne 30, 3) := by decide +kernel
theorem dX11_holds_37 : decode cX11_holds 37 = .ok (.aload_n 0, 1) := by decide +kernel
theorem dX11_holds_38 : decode cX11_holds 38 = .ok (.getfield 90, 3) := by decide +kernel
theorem dX11_holds_41 : decode cX11_holds 41 = .ok (.iload_n 3, 1) := by decide +kernel
theorem dX11_holds_42 : decode cX11_holds 42 = .ok (.iconst 1, 1) := by decide +kernel
theorem dX11_holds_43 : decode cX11_holds 43 = .ok (.isub, 1) := by decide +kernel
theorem dX11_holds_44 : decode cX11_holds 44 = .ok (.aload_n 0, 1) := by decide +kernel
theorem dX11_holds_45 : decode cX11_holds 45 = .ok (.getfield 90, 3) := by decide +kernel
theorem dX11_holds_48 : decode cX11_holds 48 = .ok (.iload_n 3, 1) := by decide +kernel
theorem dX11_holds_49 : decode cX11_holds 49 = .ok (.iconst 1, 1) := by decide +kernel
theorem dX11_holds_50 : decode cX11_holds 50 = .ok (.isub, 1) := by decide +kernel
theorem dX11_holds_51 : decode cX11_holds 51 = .ok (.baload, 1) := by decide +kernel
theorem dX11_holds_52 : decode cX11_holds 52 = .ok (.ifCond .ne 7, 3) := by decide +kernel
theorem dX11_holds_55 : decode cX11_holds 55 = .ok (.iconst 1, 1) := by decide +kernel
theorem dX11_holds_56 : decode cX11_holds 56 = .ok (.goto 4, 3) := by decide +kernel
theorem dX11_holds_59 : decode cX11_holds 59 = .ok (.iconst 0, 1) := by decide +kernel
theorem dX11_holds_60 : decode cX11_holds 60 = .ok (.bastore, 1) := by decide +kernel
theorem dX11_holds_61 : decode cX11_holds 61 = .ok (.goto 176, 3) := by decide +kernel
theorem dX11_holds_64 : decode cX11_holds 64 = .ok (.iload 5, 2) := by decide +kernel
theorem dX11_holds_66 : decode cX11_holds 66 = .ok (.ifCond .ge 77, 3) := by decide +kernel
theorem dX11_holds_69 : decode cX11_holds 69 = .ok (.iinc 3 (-1), 3) := by decide +kernel
theorem dX11_holds_72 : decode cX11_holds 72 = .ok (.aload_n 0, 1) := by decide +kernel
theorem dX11_holds_73 : decode cX11_holds 73 = .ok (.getfield 90, 3) := by decide +kernel
theorem dX11_holds_76 : decode cX11_holds 76 = .ok (.iload_n 3, 1) := by decide +kernel
theorem dX11_holds_77 : decode cX11_holds 77 = .ok (.iconst 1, 1) := by decide +kernel
theorem dX11_holds_78 : decode cX11_holds 78 = .ok (.isub, 1) := by decide +kernel
theorem dX11_holds_79 : decode cX11_holds 79 = .ok (.iload 5, 2) := by decide +kernel
theorem dX11_holds_81 : decode cX11_holds 81 = .ok (.bipush (-38), 2) := by decide +kernel
theorem dX11_holds_83 : decode cX11_holds 83 = .ok (.if_icmp .ne 31, 3) := by decide +kernel
theorem dX11_holds_86 : decode cX11_holds 86 = .ok (.aload_n 0, 1) := by decide +kernel
theorem dX11_holds_87 : decode cX11_holds 87 = .ok (.getfield 90, 3) := by decide +kernel
theorem dX11_holds_90 : decode cX11_holds 90 = .ok (.iload_n 3, 1) := by decide +kernel
theorem dX11_holds_91 : decode cX11_holds 91 = .ok (.iconst 1, 1) := by decide +kernel
theorem dX11_holds_92 : decode cX11_holds 92 = .ok (.isub, 1) := by decide +kernel
theorem dX11_holds_93 : decode cX11_holds 93 = .ok (.baload, 1) := by decide +kernel
theorem dX11_holds_94 : decode cX11_holds 94 = .ok (.ifCond .eq 16, 3) := by decide +kernel
theorem dX11_holds_97 : decode cX11_holds 97 = .ok (.aload_n 0, 1) := by decide +kernel
theorem dX11_holds_98 : decode cX11_holds 98 = .ok (.getfield 90, 3) := by decide +kernel
theorem dX11_holds_101 : decode cX11_holds 101 = .ok (.iload_n 3, 1) := by decide +kernel
theorem dX11_holds_102 : decode cX11_holds 102 = .ok (.baload, 1) := by decide +kernel
theorem dX11_holds_103 : decode cX11_holds 103 = .ok (.ifCond .eq 7, 3) := by decide +kernel
theorem dX11_holds_106 : decode cX11_holds 106 = .ok (.iconst 1, 1) := by decide +kernel
theorem dX11_holds_107 : decode cX11_holds 107 = .ok (.goto 32, 3) := by decide +kernel
theorem dX11_holds_110 : decode cX11_holds 110 = .ok (.iconst 0, 1) := by decide +kernel
theorem dX11_holds_111 : decode cX11_holds 111 = .ok (.goto 28, 3) := by decide +kernel
theorem dX11_holds_114 : decode cX11_holds 114 = .ok (.aload_n 0, 1) := by decide +kernel
theorem dX11_holds_115 : decode cX11_holds 115 = .ok (.getfield 90, 3) := by decide +kernel
theorem dX11_holds_118 : decode cX11_holds 118 = .ok (.iload_n 3, 1) := by decide +kernel
theorem dX11_holds_119 : decode cX11_holds 119 = .ok (.iconst 1, 1) := by decide +kernel
theorem dX11_holds_120 : decode cX11_holds 120 = .ok (.isub, 1) := by decide +kernel
theorem dX11_holds_121 : decode cX11_holds 121 = .ok (.baload, 1) := by decide +kernel
theorem dX11_holds_122 : decode cX11_holds 122 = .ok (.ifCond .ne 12, 3) := by decide +kernel
theorem dX11_holds_125 : decode cX11_holds 125 = .ok (.aload_n 0, 1) := by decide +kernel
theorem dX11_holds_126 : decode cX11_holds 126 = .ok (.getfield 90, 3) := by decide +kernel
theorem dX11_holds_129 : decode cX11_holds 129 = .ok (.iload_n 3, 1) := by decide +kernel
theorem dX11_holds_130 : decode cX11_holds 130 = .ok (.baload, 1) := by decide +kernel
theorem dX11_holds_131 : decode cX11_holds 131 = .ok (.ifCond .eq 7, 3) := by decide +kernel
theorem dX11_holds_134 : decode cX11_holds 134 = .ok (.iconst 1, 1) := by decide +kernel
theorem dX11_holds_135 : decode cX11_holds 135 = .ok (.goto 4, 3) := by decide +kernel
theorem dX11_holds_138 : decode cX11_holds 138 = .ok (.iconst 0, 1) := by decide +kernel
theorem dX11_holds_139 : decode cX11_holds 139 = .ok (.bastore, 1) := by decide +kernel
theorem dX11_holds_140 : decode cX11_holds 140 = .ok (.goto 97, 3) := by decide +kernel
theorem dX11_holds_143 : decode cX11_holds 143 = .ok (.aload_n 0, 1) := by decide +kernel
theorem dX11_holds_144 : decode cX11_holds 144 = .ok (.iload 5, 2) := by decide +kernel
theorem dX11_holds_146 : decode cX11_holds 146 = .ok (.sipush 1000, 3) := by decide +kernel
theorem dX11_holds_149 : decode cX11_holds 149 = .ok (.idiv, 1) := by decide +kernel
theorem dX11_holds_150 : decode cX11_holds 150 = .ok (.iload_n 2, 1) := by decide +kernel
theorem dX11_holds_151 : decode cX11_holds 151 = .ok (.invokevirtual 304, 3) := by decide +kernel
theorem dX11_holds_154 : decode cX11_holds 154 = .ok (.istore 6, 2) := by decide +kernel
theorem dX11_holds_156 : decode cX11_holds 156 = .ok (.iload 5, 2) := by decide +kernel
theorem dX11_holds_158 : decode cX11_holds 158 = .ok (.bipush 100, 2) := by decide +kernel
theorem dX11_holds_160 : decode cX11_holds 160 = .ok (.idiv, 1) := by decide +kernel
theorem dX11_holds_161 : decode cX11_holds 161 = .ok (.bipush 10, 2) := by decide +kernel
theorem dX11_holds_163 : decode cX11_holds 163 = .ok (.irem, 1) := by decide +kernel
theorem dX11_holds_164 : decode cX11_holds 164 = .ok (.istore 7, 2) := by decide +kernel
theorem dX11_holds_166 : decode cX11_holds 166 = .ok (.aload_n 0, 1) := by decide +kernel
theorem dX11_holds_167 : decode cX11_holds 167 = .ok (.getfield 90, 3) := by decide +kernel
theorem dX11_holds_170 : decode cX11_holds 170 = .ok (.iload_n 3, 1) := by decide +kernel
theorem dX11_holds_171 : decode cX11_holds 171 = .ok (.iload 7, 2) := by decide +kernel
theorem dX11_holds_173 : decode cX11_holds 173 = .ok (.ifCond .ne 21, 3) := by decide +kernel
theorem dX11_holds_176 : decode cX11_holds 176 = .ok (.iload 6, 2) := by decide +kernel
theorem dX11_holds_178 : decode cX11_holds 178 = .ok (.iload 5, 2) := by decide +kernel
theorem dX11_holds_180 : decode cX11_holds 180 = .ok (.bipush 100, 2) := by decide +kernel
theorem dX11_holds_182 : decode cX11_holds 182 = .ok (.irem, 1) := by decide +kernel
theorem dX11_holds_183 : decode cX11_holds 183 = .ok (.if_icmp .ge 7, 3) := by decide +kernel
theorem dX11_holds_186 : decode cX11_holds 186 = .ok (.iconst 1, 1) := by decide +kernel
theorem dX11_holds_187 : decode cX11_holds 187 = .ok (.goto 46, 3) := by decide +kernel
theorem dX11_holds_190 : decode cX11_holds 190 = .ok (.iconst 0, 1) := by decide +kernel
theorem dX11_holds_191 : decode cX11_holds 191 = .ok (.goto 42, 3) := by decide +kernel
theorem dX11_holds_194 : decode cX11_holds 194 = .ok (.iload 7, 2) := by decide +kernel
theorem dX11_holds_196 : decode cX11_holds 196 = .ok (.iconst 1, 1) := by decide +kernel
theorem dX11_holds_197 : decode cX11_holds 197 = .ok (.if_icmp .ne 21, 3) := by decide +kernel
theorem dX11_holds_200 : decode cX11_holds 200 = .ok (.iload 6, 2) := by decide +kernel
theorem dX11_holds_202 : decode cX11_holds 202 = .ok (.iload 5, 2) := by decide +kernel
theorem dX11_holds_204 : decode cX11_holds 204 = .ok (.bipush 100, 2) := by decide +kernel
theorem dX11_holds_206 : decode cX11_holds 206 = .ok (.irem, 1) := by decide +kernel
theorem dX11_holds_207 : decode cX11_holds 207 = .ok (.if_icmp .ne 7, 3) := by decide +kernel
theorem dX11_holds_210 : decode cX11_holds 210 = .ok (.iconst 1, 1) := by decide +kernel
theorem dX11_holds_211 : decode cX11_holds 211 = .ok (.goto 22, 3) := by decide +kernel
theorem dX11_holds_214 : decode cX11_holds 214 = .ok (.iconst 0, 1) := by decide +kernel
theorem dX11_holds_215 : decode cX11_holds 215 = .ok (.goto 18, 3) := by decide +kernel
theorem dX11_holds_218 : decode cX11_holds 218 = .ok (.iload 6, 2) := by decide +kernel
theorem dX11_holds_220 : decode cX11_holds 220 = .ok (.iload 5, 2) := by decide +kernel
theorem dX11_holds_222 : decode cX11_holds 222 = .ok (.bipush 100, 2) := by decide +kernel
theorem dX11_holds_224 : decode cX11_holds 224 = .ok (.irem, 1) := by decide +kernel
theorem dX11_holds_225 : decode cX11_holds 225 = .ok (.if_icmp .le 7, 3) := by decide +kernel
theorem dX11_holds_228 : decode cX11_holds 228 = .ok (.iconst 1, 1) := by decide +kernel
theorem dX11_holds_229 : decode cX11_holds 229 = .ok (.goto 4, 3) := by decide +kernel
theorem dX11_holds_232 : decode cX11_holds 232 = .ok (.iconst 0, 1) := by decide +kernel
theorem dX11_holds_233 : decode cX11_holds 233 = .ok (.bastore, 1) := by decide +kernel
theorem dX11_holds_234 : decode cX11_holds 234 = .ok (.iinc 3 1, 3) := by decide +kernel
theorem dX11_holds_237 : decode cX11_holds 237 = .ok (.iinc 4 1, 3) := by decide +kernel
theorem dX11_holds_240 : decode cX11_holds 240 = .ok (.goto (-230), 3) := by decide +kernel
theorem dX11_holds_243 : decode cX11_holds 243 = .ok (.aload_n 0, 1) := by decide +kernel
theorem dX11_holds_244 : decode cX11_holds 244 = .ok (.getfield 90, 3) := by decide +kernel
theorem dX11_holds_247 : decode cX11_holds 247 = .ok (.iconst 0, 1) := by decide +kernel
theorem dX11_holds_248 : decode cX11_holds 248 = .ok (.baload, 1) := by decide +kernel
theorem dX11_holds_249 : decode cX11_holds 249 = .ok (.ireturn, 1) := by decide +kernel
theorem dX11_squaresOf_0 : decode cX11_squaresOf 0 = .ok (.iconst 0, 1) := by decide +kernel
theorem dX11_squaresOf_1 : decode cX11_squaresOf 1 = .ok (.istore_n 2, 1) := by decide +kernel
theorem dX11_squaresOf_2 : decode cX11_squaresOf 2 = .ok (.iconst 0, 1) := by decide +kernel
theorem dX11_squaresOf_3 : decode cX11_squaresOf 3 = .ok (.istore_n 3, 1) := by decide +kernel
theorem dX11_squaresOf_4 : decode cX11_squaresOf 4 = .ok (.iload_n 3, 1) := by decide +kernel
theorem dX11_squaresOf_5 : decode cX11_squaresOf 5 = .ok (.aload_n 0, 1) := by decide +kernel
theorem dX11_squaresOf_6 : decode cX11_squaresOf 6 = .ok (.getfield 13, 3) := by decide +kernel
theorem dX11_squaresOf_9 : decode cX11_squaresOf 9 = .ok (.aload_n 0, 1) := by decide +kernel
theorem dX11_squaresOf_10 : decode cX11_squaresOf 10 = .ok (.getfield 13, 3) := by decide +kernel
theorem dX11_squaresOf_13 : decode cX11_squaresOf 13 = .ok (.imul, 1) := by decide +kernel
theorem dX11_squaresOf_14 : decode cX11_squaresOf 14 = .ok (.if_icmp .ge 61, 3) := by decide +kernel
theorem dX11_squaresOf_17 : decode cX11_squaresOf 17 = .ok (.aload_n 0, 1) := by decide +kernel
theorem dX11_squaresOf_18 : decode cX11_squaresOf 18 = .ok (.invokevirtual 307, 3) := by decide +kernel
theorem dX11_squaresOf_21 : decode cX11_squaresOf 21 = .ok (.istore 4, 2) := by decide +kernel
theorem dX11_squaresOf_23 : decode cX11_squaresOf 23 = .ok (.iload 4, 2) := by decide +kernel
theorem dX11_squaresOf_25 : decode cX11_squaresOf 25 = .ok (.aload_n 0, 1) := by decide +kernel
theorem dX11_squaresOf_26 : decode cX11_squaresOf 26 = .ok (.invokevirtual 310, 3) := by decide +kernel
theorem dX11_squaresOf_29 : decode cX11_squaresOf 29 = .ok (.if_icmp .ge 40, 3) := by decide +kernel
theorem dX11_squaresOf_32 : decode cX11_squaresOf 32 = .ok (.iload_n 2, 1) := by decide +kernel
theorem dX11_squaresOf_33 : decode cX11_squaresOf 33 = .ok (.aload_n 0, 1) := by decide +kernel
theorem dX11_squaresOf_34 : decode cX11_squaresOf 34 = .ok (.getfield 60, 3) := by decide +kernel
theorem dX11_squaresOf_37 : decode cX11_squaresOf 37 = .ok (.iload 4, 2) := by decide +kernel
theorem dX11_squaresOf_39 : decode cX11_squaresOf 39 = .ok (.iaload, 1) := by decide +kernel
theorem dX11_squaresOf_40 : decode cX11_squaresOf 40 = .ok (.iload_n 1, 1) := by decide +kernel
theorem dX11_squaresOf_41 : decode cX11_squaresOf 41 = .ok (.if_icmp .ne 19, 3) := by decide +kernel
theorem dX11_squaresOf_44 : decode cX11_squaresOf 44 = .ok (.aload_n 0, 1) := by decide +kernel
theorem dX11_squaresOf_45 : decode cX11_squaresOf 45 = .ok (.iload 4, 2) := by decide +kernel
theorem dX11_squaresOf_47 : decode cX11_squaresOf 47 = .ok (.iload_n 3, 1) := by decide +kernel
theorem dX11_squaresOf_48 : decode cX11_squaresOf 48 = .ok (.invokevirtual 313, 3) := by decide +kernel
theorem dX11_squaresOf_51 : decode cX11_squaresOf 51 = .ok (.ifCond .eq 9, 3) := by decide +kernel
theorem dX11_squaresOf_54 : decode cX11_squaresOf 54 = .ok (.iconst 1, 1) := by decide +kernel
theorem dX11_squaresOf_55 : decode cX11_squaresOf 55 = .ok (.iload_n 3, 1) := by decide +kernel
theorem dX11_squaresOf_56 : decode cX11_squaresOf 56 = .ok (.ishl, 1) := by decide +kernel
theorem dX11_squaresOf_57 : decode cX11_squaresOf 57 = .ok (.goto 4, 3) := by decide +kernel
theorem dX11_squaresOf_60 : decode cX11_squaresOf 60 = .ok (.iconst 0, 1) := by decide +kernel
theorem dX11_squaresOf_61 : decode cX11_squaresOf 61 = .ok (.ior, 1) := by decide +kernel
theorem dX11_squaresOf_62 : decode cX11_squaresOf 62 = .ok (.istore_n 2, 1) := by decide +kernel
theorem dX11_squaresOf_63 : decode cX11_squaresOf 63 = .ok (.iinc 4 1, 3) := by decide +kernel
theorem dX11_squaresOf_66 : decode cX11_squaresOf 66 = .ok (.goto (-43), 3) := by decide +kernel
theorem dX11_squaresOf_69 : decode cX11_squaresOf 69 = .ok (.iinc 3 1, 3) := by decide +kernel
theorem dX11_squaresOf_72 : decode cX11_squaresOf 72 = .ok (.goto (-68), 3) := by decide +kernel
theorem dX11_squaresOf_75 : decode cX11_squaresOf 75 = .ok (.iload_n 2, 1) := by decide +kernel
theorem dX11_squaresOf_76 : decode cX11_squaresOf 76 = .ok (.ireturn, 1) := by decide +kernel
theorem dX11_layBoard_0 : decode cX11_layBoard 0 = .ok (.aload_n 0, 1) := by decide +kernel
theorem dX11_layBoard_1 : decode cX11_layBoard 1 = .ok (.iconst 4, 1) := by decide +kernel
theorem dX11_layBoard_2 : decode cX11_layBoard 2 = .ok (.putfield 13, 3) := by decide +kernel
theorem dX11_layBoard_5 : decode cX11_layBoard 5 = .ok (.aload_n 0, 1) := by decide +kernel
theorem dX11_layBoard_6 : decode cX11_layBoard 6 = .ok (.iconst 0, 1) := by decide +kernel
theorem dX11_layBoard_7 : decode cX11_layBoard 7 = .ok (.putfield 22, 3) := by decide +kernel
theorem dX11_layBoard_10 : decode cX11_layBoard 10 = .ok (.aload_n 0, 1) := by decide +kernel
theorem dX11_layBoard_11 : decode cX11_layBoard 11 = .ok (.invokevirtual 307, 3) := by decide +kernel
theorem dX11_layBoard_14 : decode cX11_layBoard 14 = .ok (.istore_n 1, 1) := by decide +kernel
theorem dX11_layBoard_15 : decode cX11_layBoard 15 = .ok (.iload_n 1, 1) := by decide +kernel
theorem dX11_layBoard_16 : decode cX11_layBoard 16 = .ok (.aload_n 0, 1) := by decide +kernel
theorem dX11_layBoard_17 : decode cX11_layBoard 17 = .ok (.invokevirtual 310, 3) := by decide +kernel
theorem dX11_layBoard_20 : decode cX11_layBoard 20 = .ok (.if_icmp .ge 85, 3) := by decide +kernel
theorem dX11_layBoard_23 : decode cX11_layBoard 23 = .ok (.aload_n 0, 1) := by decide +kernel
theorem dX11_layBoard_24 : decode cX11_layBoard 24 = .ok (.getfield 60, 3) := by decide +kernel
theorem dX11_layBoard_27 : decode cX11_layBoard 27 = .ok (.iload_n 1, 1) := by decide +kernel
theorem dX11_layBoard_28 : decode cX11_layBoard 28 = .ok (.iaload, 1) := by decide +kernel
theorem dX11_layBoard_29 : decode cX11_layBoard 29 = .ok (.ifCond .ne 41, 3) := by decide +kernel
theorem dX11_layBoard_32 : decode cX11_layBoard 32 = .ok (.aload_n 0, 1) := by decide +kernel
theorem dX11_layBoard_33 : decode cX11_layBoard 33 = .ok (.aload_n 0, 1) := by decide +kernel
theorem dX11_layBoard_34 : decode cX11_layBoard 34 = .ok (.getfield 63, 3) := by decide +kernel
theorem dX11_layBoard_37 : decode cX11_layBoard 37 = .ok (.iload_n 1, 1) := by decide +kernel
theorem dX11_layBoard_38 : decode cX11_layBoard 38 = .ok (.iaload, 1) := by decide +kernel
theorem dX11_layBoard_39 : decode cX11_layBoard 39 = .ok (.iconst 2, 1) := by decide +kernel
theorem dX11_layBoard_40 : decode cX11_layBoard 40 = .ok (.if_icmp .ge 7, 3) := by decide +kernel
theorem dX11_layBoard_43 : decode cX11_layBoard 43 = .ok (.iconst 2, 1) := by decide +kernel
theorem dX11_layBoard_44 : decode cX11_layBoard 44 = .ok (.goto 23, 3) := by decide +kernel
theorem dX11_layBoard_47 : decode cX11_layBoard 47 = .ok (.aload_n 0, 1) := by decide +kernel
theorem dX11_layBoard_48 : decode cX11_layBoard 48 = .ok (.getfield 63, 3) := by decide +kernel
theorem dX11_layBoard_51 : decode cX11_layBoard 51 = .ok (.iload_n 1, 1) := by decide +kernel
theorem dX11_layBoard_52 : decode cX11_layBoard 52 = .ok (.iaload, 1) := by decide +kernel
theorem dX11_layBoard_53 : decode cX11_layBoard 53 = .ok (.iconst 5, 1) := by decide +kernel
theorem dX11_layBoard_54 : decode cX11_layBoard 54 = .ok (.if_icmp .le 7, 3) := by decide +kernel
theorem dX11_layBoard_57 : decode cX11_layBoard 57 = .ok (.iconst 5, 1) := by decide +kernel
theorem dX11_layBoard_58 : decode cX11_layBoard 58 = .ok (.goto 9, 3) := by decide +kernel
theorem dX11_layBoard_61 : decode cX11_layBoard 61 = .ok (.aload_n 0, 1) := by decide +kernel
theorem dX11_layBoard_62 : decode cX11_layBoard 62 = .ok (.getfield 63, 3) := by decide +kernel
theorem dX11_layBoard_65 : decode cX11_layBoard 65 = .ok (.iload_n 1, 1) := by decide +kernel
theorem dX11_layBoard_66 : decode cX11_layBoard 66 = .ok (.iaload, 1) := by decide +kernel
theorem dX11_layBoard_67 : decode cX11_layBoard 67 = .ok (.putfield 13, 3) := by decide +kernel
theorem dX11_layBoard_70 : decode cX11_layBoard 70 = .ok (.aload_n 0, 1) := by decide +kernel
theorem dX11_layBoard_71 : decode cX11_layBoard 71 = .ok (.getfield 60, 3) := by decide +kernel
theorem dX11_layBoard_74 : decode cX11_layBoard 74 = .ok (.iload_n 1, 1) := by decide +kernel
theorem dX11_layBoard_75 : decode cX11_layBoard 75 = .ok (.iaload, 1) := by decide +kernel
theorem dX11_layBoard_76 : decode cX11_layBoard 76 = .ok (.iconst 2, 1) := by decide +kernel
theorem dX11_layBoard_77 : decode cX11_layBoard 77 = .ok (.if_icmp .le 22, 3) := by decide +kernel
theorem dX11_layBoard_80 : decode cX11_layBoard 80 = .ok (.aload_n 0, 1) := by decide +kernel
theorem dX11_layBoard_81 : decode cX11_layBoard 81 = .ok (.aload_n 0, 1) := by decide +kernel
theorem dX11_layBoard_82 : decode cX11_layBoard 82 = .ok (.getfield 60, 3) := by decide +kernel
theorem dX11_layBoard_85 : decode cX11_layBoard 85 = .ok (.iload_n 1, 1) := by decide +kernel
theorem dX11_layBoard_86 : decode cX11_layBoard 86 = .ok (.iaload, 1) := by decide +kernel
theorem dX11_layBoard_87 : decode cX11_layBoard 87 = .ok (.iconst 3, 1) := by decide +kernel
theorem dX11_layBoard_88 : decode cX11_layBoard 88 = .ok (.if_icmp .ne 7, 3) := by decide +kernel
theorem dX11_layBoard_91 : decode cX11_layBoard 91 = .ok (.iconst 1, 1) := by decide +kernel
theorem dX11_layBoard_92 : decode cX11_layBoard 92 = .ok (.goto 4, 3) := by decide +kernel
theorem dX11_layBoard_95 : decode cX11_layBoard 95 = .ok (.iconst 0, 1) := by decide +kernel
theorem dX11_layBoard_96 : decode cX11_layBoard 96 = .ok (.putfield 22, 3) := by decide +kernel
theorem dX11_layBoard_99 : decode cX11_layBoard 99 = .ok (.iinc 1 1, 3) := by decide +kernel
theorem dX11_layBoard_102 : decode cX11_layBoard 102 = .ok (.goto (-87), 3) := by decide +kernel
theorem dX11_layBoard_105 : decode cX11_layBoard 105 = .ok (.aload_n 0, 1) := by decide +kernel
theorem dX11_layBoard_106 : decode cX11_layBoard 106 = .ok (.aload_n 0, 1) := by decide +kernel
theorem dX11_layBoard_107 : decode cX11_layBoard 107 = .ok (.iconst 1, 1) := by decide +kernel
theorem dX11_layBoard_108 : decode cX11_layBoard 108 = .ok (.invokevirtual 316, 3) := by decide +kernel
theorem dX11_layBoard_111 : decode cX11_layBoard 111 = .ok (.putfield 16, 3) := by decide +kernel
theorem dX11_layBoard_114 : decode cX11_layBoard 114 = .ok (.aload_n 0, 1) := by decide +kernel
theorem dX11_layBoard_115 : decode cX11_layBoard 115 = .ok (.aload_n 0, 1) := by decide +kernel
theorem dX11_layBoard_116 : decode cX11_layBoard 116 = .ok (.getfield 16, 3) := by decide +kernel
theorem dX11_layBoard_119 : decode cX11_layBoard 119 = .ok (.aload_n 0, 1) := by decide +kernel
theorem dX11_layBoard_120 : decode cX11_layBoard 120 = .ok (.iconst 2, 1) := by decide +kernel
theorem dX11_layBoard_121 : decode cX11_layBoard 121 = .ok (.invokevirtual 316, 3) := by decide +kernel
theorem dX11_layBoard_124 : decode cX11_layBoard 124 = .ok (.ior, 1) := by decide +kernel
theorem dX11_layBoard_125 : decode cX11_layBoard 125 = .ok (.putfield 19, 3) := by decide +kernel
theorem dX11_layBoard_128 : decode cX11_layBoard 128 = .ok (.return_, 1) := by decide +kernel
theorem dX11_away_0 : decode cX11_away 0 = .ok (.iload_n 1, 1) := by decide +kernel
theorem dX11_away_1 : decode cX11_away 1 = .ok (.aload_n 0, 1) := by decide +kernel
theorem dX11_away_2 : decode cX11_away 2 = .ok (.getfield 13, 3) := by decide +kernel
theorem dX11_away_5 : decode cX11_away 5 = .ok (.irem, 1) := by decide +kernel
theorem dX11_away_6 : decode cX11_away 6 = .ok (.iload_n 2, 1) := by decide +kernel
theorem dX11_away_7 : decode cX11_away 7 = .ok (.iadd, 1) := by decide +kernel
theorem dX11_away_8 : decode cX11_away 8 = .ok (.istore 4, 2) := by decide +kernel
theorem dX11_away_10 : decode cX11_away 10 = .ok (.iload_n 1, 1) := by decide +kernel
theorem dX11_away_11 : decode cX11_away 11 = .ok (.aload_n 0, 1) := by decide +kernel
theorem dX11_away_12 : decode cX11_away 12 = .ok (.getfield 13, 3) := by decide +kernel
theorem dX11_away_15 : decode cX11_away 15 = .ok (.idiv, 1) := by decide +kernel
theorem dX11_away_16 : decode cX11_away 16 = .ok (.iload_n 3, 1) := by decide +kernel
