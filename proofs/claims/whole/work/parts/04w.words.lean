theorem zin0 : ∀ w ∈ wsX00, w ∈ zv_tbl := fun w h => List.mem_filter.mpr ⟨inX0 w h, (by decide +kernel : ∀ w ∈ wsX00, zv_gw w = true) w h⟩
theorem zin1 : ∀ w ∈ wsX10, w ∈ zv_tbl := fun w h => List.mem_filter.mpr ⟨inX1 w h, (by decide +kernel : ∀ w ∈ wsX10, zv_gw w = true) w h⟩
theorem zin2 : ∀ w ∈ wsX20, w ∈ zv_tbl := fun w h => List.mem_filter.mpr ⟨inX2 w h, (by decide +kernel : ∀ w ∈ wsX20, zv_gw w = true) w h⟩
theorem zin3 : ∀ w ∈ wsX30, w ∈ zv_tbl := fun w h => List.mem_filter.mpr ⟨inX3 w h, (by decide +kernel : ∀ w ∈ wsX30, zv_gw w = true) w h⟩
theorem zin4 : ∀ w ∈ wsX40, w ∈ zv_tbl := fun w h => List.mem_filter.mpr ⟨inX4 w h, (by decide +kernel : ∀ w ∈ wsX40, zv_gw w = true) w h⟩
theorem zin5 : ∀ w ∈ wsX50, w ∈ zv_tbl := fun w h => List.mem_filter.mpr ⟨inX5 w h, (by decide +kernel : ∀ w ∈ wsX50, zv_gw w = true) w h⟩
theorem zin6 : ∀ w ∈ wsX60, w ∈ zv_tbl := fun w h => List.mem_filter.mpr ⟨inX6 w h, (by decide +kernel : ∀ w ∈ wsX60, zv_gw w = true) w h⟩
theorem zin7 : ∀ w ∈ wsX70, w ∈ zv_tbl := fun w h => List.mem_filter.mpr ⟨inX7 w h, (by decide +kernel : ∀ w ∈ wsX70, zv_gw w = true) w h⟩
theorem zin8 : ∀ w ∈ wsX80, w ∈ zv_tbl := fun w h => List.mem_filter.mpr ⟨inX8 w h, (by decide +kernel : ∀ w ∈ wsX80, zv_gw w = true) w h⟩
theorem zin9 : ∀ w ∈ wsX90, w ∈ zv_tbl := fun w h => List.mem_filter.mpr ⟨inX9 w h, (by decide +kernel : ∀ w ∈ wsX90, zv_gw w = true) w h⟩
theorem zin10 : ∀ w ∈ wsX100, w ∈ zv_tbl := fun w h => List.mem_filter.mpr ⟨inX10 w h, (by decide +kernel : ∀ w ∈ wsX100, zv_gw w = true) w h⟩
theorem zin11 : ∀ w ∈ wsX110, w ∈ zv_tbl := fun w h => List.mem_filter.mpr ⟨inX11 w h, (by decide +kernel : ∀ w ∈ wsX110, zv_gw w = true) w h⟩
theorem zv_m1 {w : Cond} (i : Nat) (h : tables_1_1[i]? = some w) (hg : zv_gw w = true) : w ∈ zv_tbl := List.mem_filter.mpr ⟨by
  have h := List.mem_of_getElem? h
  exact List.mem_append_right _ (List.mem_append_left _ h), hg⟩
theorem zv_m2 {w : Cond} (i : Nat) (h : tables_1_2[i]? = some w) (hg : zv_gw w = true) : w ∈ zv_tbl := List.mem_filter.mpr ⟨by
  have h := List.mem_of_getElem? h
  exact List.mem_append_right _ (List.mem_append_right _ (List.mem_append_left _ h)), hg⟩
theorem zv_m3 {w : Cond} (i : Nat) (h : tables_1_3[i]? = some w) (hg : zv_gw w = true) : w ∈ zv_tbl := List.mem_filter.mpr ⟨by
  have h := List.mem_of_getElem? h
  exact List.mem_append_right _ (List.mem_append_right _ (List.mem_append_right _ (List.mem_append_left _ h))), hg⟩
theorem zv_m4 {w : Cond} (i : Nat) (h : tables_1_4[i]? = some w) (hg : zv_gw w = true) : w ∈ zv_tbl := List.mem_filter.mpr ⟨by
  have h := List.mem_of_getElem? h
  exact List.mem_append_right _ (List.mem_append_right _ (List.mem_append_right _ (List.mem_append_right _ (List.mem_append_left _ h)))), hg⟩
theorem zv_m5 {w : Cond} (i : Nat) (h : tables_1_5[i]? = some w) (hg : zv_gw w = true) : w ∈ zv_tbl := List.mem_filter.mpr ⟨by
  have h := List.mem_of_getElem? h
  exact List.mem_append_right _ (List.mem_append_right _ (List.mem_append_right _ (List.mem_append_right _ (List.mem_append_right _ (List.mem_append_left _ h))))), hg⟩
theorem zv_m6 {w : Cond} (i : Nat) (h : tables_1_6[i]? = some w) (hg : zv_gw w = true) : w ∈ zv_tbl := List.mem_filter.mpr ⟨by
  have h := List.mem_of_getElem? h
  exact List.mem_append_right _ (List.mem_append_right _ (List.mem_append_right _ (List.mem_append_right _ (List.mem_append_right _ (List.mem_append_right _ (List.mem_append_left _ h)))))), hg⟩
theorem zv_m7 {w : Cond} (i : Nat) (h : tables_1_7[i]? = some w) (hg : zv_gw w = true) : w ∈ zv_tbl := List.mem_filter.mpr ⟨by
  have h := List.mem_of_getElem? h
  exact List.mem_append_right _ (List.mem_append_right _ (List.mem_append_right _ (List.mem_append_right _ (List.mem_append_right _ (List.mem_append_right _ (List.mem_append_right _ (h))))))), hg⟩
theorem wc_X7_18 : Cond.constant RX7 18 1000000 ∈ zv_tbl := zv_m4 76 (by decide +kernel) rfl
theorem wc_X8_41 : Cond.constant RX8 41 65280 ∈ zv_tbl := zv_m3 64 (by decide +kernel) rfl
theorem wc_J6_265 : Cond.constant RJ6 265 1431655765 ∈ zv_tbl := zv_m3 41 (by decide +kernel) rfl
theorem wc_J6_266 : Cond.constant RJ6 266 858993459 ∈ zv_tbl := zv_m3 42 (by decide +kernel) rfl
theorem wc_J6_267 : Cond.constant RJ6 267 252645135 ∈ zv_tbl := zv_m3 43 (by decide +kernel) rfl
theorem wc_X10_304 : Cond.constantLong RX10 304 (-9223372036854775808) ∈ zv_tbl := zv_m4 116 (by decide +kernel) rfl
theorem wc_X11_417 : Cond.constantLong RX11 417 (-9223372036854775808) ∈ zv_tbl := zv_m7 115 (by decide +kernel) rfl
theorem wg_X10_369 : Cond.fieldLink RX10 369 (zv_tc 0) (zv_tn 0) "[I" ∈ zv_tbl := zv_m2 91 (by decide +kernel) rfl
theorem wg_X0_58 : Cond.fieldLink RX0 58 (zv_tc 3) (zv_tn 3) "[I" ∈ zv_tbl := zv_m4 212 (by decide +kernel) rfl
theorem wg_X8_45 : Cond.fieldLink RX8 45 (zv_tc 1) (zv_tn 1) "[I" ∈ zv_tbl := zv_m3 69 (by decide +kernel) rfl
theorem wg_X8_49 : Cond.fieldLink RX8 49 (zv_tc 2) (zv_tn 2) "[I" ∈ zv_tbl := zv_m3 71 (by decide +kernel) rfl
theorem wg_X0_38 : Cond.fieldLinkNest RX0 38 (zv_tc 0) (zv_tn 0) "[I" "NoneSees" ∈ zv_tbl := zv_m4 207 (by decide +kernel) rfl
theorem wm_X10_92 : Cond.methodLink RX10 92 yX10_isKind ∈ zv_tbl := zv_m2 88 (by decide +kernel) rfl
theorem wm_X10_100 : Cond.methodLink RX10 100 yX2_isFull ∈ zv_tbl := zv_m2 93 (by decide +kernel) rfl
theorem wm_X10_106 : Cond.methodLink RX10 106 yX2_add ∈ zv_tbl := zv_m2 97 (by decide +kernel) rfl
theorem wm_X10_119 : Cond.methodLink RX10 119 yX10_isPlan ∈ zv_tbl := zv_m2 105 (by decide +kernel) rfl
theorem wm_X10_122 : Cond.methodLink RX10 122 yX2_get ∈ zv_tbl := zv_m2 109 (by decide +kernel) rfl
theorem wm_X10_126 : Cond.methodLink RX10 126 yX5_menOf ∈ zv_tbl := zv_m2 113 (by decide +kernel) rfl
theorem wm_X10_129 : Cond.methodLink RX10 129 yX2_put ∈ zv_tbl := zv_m2 121 (by decide +kernel) rfl
theorem wm_X10_133 : Cond.methodLink RX10 133 yX9_isFull ∈ zv_tbl := zv_m2 129 (by decide +kernel) rfl
theorem wm_X10_134 : Cond.methodLink RX10 134 yX9_add ∈ zv_tbl := zv_m2 133 (by decide +kernel) rfl
theorem wm_X10_138 : Cond.methodLink RX10 138 yX9_readClauses ∈ zv_tbl := zv_m2 141 (by decide +kernel) rfl
theorem wm_X10_144 : Cond.methodLink RX10 144 yX8_layOut ∈ zv_tbl := zv_m3 6 (by decide +kernel) rfl
theorem wm_X10_148 : Cond.methodLink RX10 148 yX5_leaveBoard ∈ zv_tbl := zv_m3 10 (by decide +kernel) rfl
theorem wm_X10_154 : Cond.methodLink RX10 154 yX10_ground ∈ zv_tbl := zv_m3 30 (by decide +kernel) rfl
theorem wm_X10_162 : Cond.methodLink RX10 162 yX5_menBits ∈ zv_tbl := zv_m3 34 (by decide +kernel) rfl
theorem wm_X10_166 : Cond.methodLink RX10 166 yJ6_bitCount_0f7a4 ∈ zv_tbl := zv_m3 38 (by decide +kernel) rfl
theorem wm_X10_177 : Cond.methodLink RX10 177 yX10_joinMen ∈ zv_tbl := zv_m3 44 (by decide +kernel) rfl
theorem wm_X10_180 : Cond.methodLink RX10 180 yX4_mostJoined ∈ zv_tbl := zv_m3 108 (by decide +kernel) rfl
theorem wm_X10_183 : Cond.methodLink RX10 183 yX10_isSquare ∈ zv_tbl := zv_m3 117 (by decide +kernel) rfl
theorem wm_X10_186 : Cond.methodLink RX10 186 yX10_openSquares ∈ zv_tbl := zv_m3 121 (by decide +kernel) rfl
theorem wm_X10_189 : Cond.methodLink RX10 189 yX10_isIn ∈ zv_tbl := zv_m3 134 (by decide +kernel) rfl
theorem wm_X10_193 : Cond.methodLink RX10 193 yX10_fitting ∈ zv_tbl := zv_m3 135 (by decide +kernel) rfl
theorem wm_X10_196 : Cond.methodLink RX10 196 yX5_putMan ∈ zv_tbl := zv_m3 149 (by decide +kernel) rfl
theorem wm_X10_199 : Cond.methodLink RX10 199 yX5_manOn ∈ zv_tbl := zv_m3 52 (by decide +kernel) rfl
theorem wm_X10_202 : Cond.methodLink RX10 202 yX10_lookByMen ∈ zv_tbl := zv_m3 48 (by decide +kernel) rfl
theorem wm_X10_205 : Cond.methodLink RX10 205 yX4_seersOf ∈ zv_tbl := zv_m3 161 (by decide +kernel) rfl
theorem wm_X10_208 : Cond.methodLink RX10 208 yX10_viewOf ∈ zv_tbl := zv_m3 56 (by decide +kernel) rfl
theorem wm_X10_212 : Cond.methodLink RX10 212 yX5_takeAllMen ∈ zv_tbl := zv_m3 173 (by decide +kernel) rfl
theorem wm_X10_215 : Cond.methodLink RX10 215 yX10_prepareRowSearch ∈ zv_tbl := zv_m3 182 (by decide +kernel) rfl
theorem wm_X10_218 : Cond.methodLink RX10 218 yX3_countAll ∈ zv_tbl := zv_m3 191 (by decide +kernel) rfl
theorem wm_X10_224 : Cond.methodLink RX10 224 yX3_firstAt ∈ zv_tbl := zv_m3 208 (by decide +kernel) rfl
theorem wm_X10_227 : Cond.methodLink RX10 227 yX3_startBehind ∈ zv_tbl := zv_m3 216 (by decide +kernel) rfl
theorem wm_X10_230 : Cond.methodLink RX10 230 yX3_findNext ∈ zv_tbl := zv_m3 220 (by decide +kernel) rfl
theorem wm_X10_233 : Cond.methodLink RX10 233 yX8_free ∈ zv_tbl := zv_m3 125 (by decide +kernel) rfl
theorem wm_X10_236 : Cond.methodLink RX10 236 yX10_lookByPlan ∈ zv_tbl := zv_m3 139 (by decide +kernel) rfl
theorem wm_X10_239 : Cond.methodLink RX10 239 yX4_join ∈ zv_tbl := zv_m3 99 (by decide +kernel) rfl
theorem wm_X10_246 : Cond.methodLink RX10 246 yX10_mostApart ∈ zv_tbl := zv_m3 228 (by decide +kernel) rfl
theorem wm_X10_250 : Cond.methodLink RX10 250 yX4_addOwnSquares ∈ zv_tbl := zv_m4 2 (by decide +kernel) rfl
theorem wm_X10_253 : Cond.methodLink RX10 253 yX8_all ∈ zv_tbl := zv_m3 143 (by decide +kernel) rfl
theorem wm_X10_256 : Cond.methodLink RX10 256 yX4_mostSeen ∈ zv_tbl := zv_m4 6 (by decide +kernel) rfl
theorem wm_X10_262 : Cond.methodLink RX10 262 yX10_leastHolders ∈ zv_tbl := zv_m4 11 (by decide +kernel) rfl
theorem wm_X10_266 : Cond.methodLink RX10 266 yX10_leastRemoved ∈ zv_tbl := zv_m4 22 (by decide +kernel) rfl
theorem wm_X10_269 : Cond.methodLink RX10 269 yX1_firstWins ∈ zv_tbl := zv_m4 30 (by decide +kernel) rfl
theorem wm_X10_273 : Cond.methodLink RX10 273 yX10_looksSame ∈ zv_tbl := zv_m4 47 (by decide +kernel) rfl
theorem wm_X10_279 : Cond.methodLink RX10 279 yX2_drop ∈ zv_tbl := zv_m4 63 (by decide +kernel) rfl
theorem wm_X10_282 : Cond.methodLink RX10 282 yX2_contains ∈ zv_tbl := zv_m4 64 (by decide +kernel) rfl
theorem wm_X10_285 : Cond.methodLink RX10 285 yX7_fewestSteps ∈ zv_tbl := zv_m4 72 (by decide +kernel) rfl
theorem wm_X10_289 : Cond.methodLink RX10 289 yX5_dropSeen ∈ zv_tbl := zv_m4 103 (by decide +kernel) rfl
theorem wm_X10_298 : Cond.methodLink RX10 298 yX4_viewFrom ∈ zv_tbl := zv_m3 148 (by decide +kernel) rfl
theorem wm_X10_301 : Cond.methodLink RX10 301 yX10_makesSeenSo ∈ zv_tbl := zv_m4 108 (by decide +kernel) rfl
theorem wm_X10_306 : Cond.methodLink RX10 306 yX10_fraction ∈ zv_tbl := zv_m4 117 (by decide +kernel) rfl
theorem wm_X10_310 : Cond.methodLink RX10 310 yX4_allSeen ∈ zv_tbl := zv_m4 124 (by decide +kernel) rfl
theorem wm_X10_316 : Cond.methodLink RX10 316 yX6_isTape ∈ zv_tbl := zv_m4 140 (by decide +kernel) rfl
theorem wm_X10_319 : Cond.methodLink RX10 319 yX6_holdsNothing ∈ zv_tbl := zv_m4 144 (by decide +kernel) rfl
theorem wm_X10_322 : Cond.methodLink RX10 322 yX6_sortOf ∈ zv_tbl := zv_m4 152 (by decide +kernel) rfl
theorem wm_X10_325 : Cond.methodLink RX10 325 yX10_judged ∈ zv_tbl := zv_m4 153 (by decide +kernel) rfl
theorem wm_X10_328 : Cond.methodLink RX10 328 yX5_becomes ∈ zv_tbl := zv_m4 175 (by decide +kernel) rfl
theorem wm_X10_332 : Cond.methodLink RX10 332 yX0_forget ∈ zv_tbl := zv_m4 194 (by decide +kernel) rfl
theorem wm_X10_335 : Cond.methodLink RX10 335 yX0_start ∈ zv_tbl := zv_m4 199 (by decide +kernel) rfl
theorem wm_X10_342 : Cond.methodLink RX10 342 yX10_isUnder ∈ zv_tbl := zv_m4 227 (by decide +kernel) rfl
theorem wm_X10_348 : Cond.methodLink RX10 348 yX6_become ∈ zv_tbl := zv_m4 238 (by decide +kernel) rfl
theorem wm_X10_352 : Cond.methodLink RX10 352 yX6_isPlace ∈ zv_tbl := zv_m4 157 (by decide +kernel) rfl
theorem wm_X10_355 : Cond.methodLink RX10 355 yX6_put ∈ zv_tbl := zv_m5 8 (by decide +kernel) rfl
theorem wm_X10_358 : Cond.methodLink RX10 358 yX6_get ∈ zv_tbl := zv_m4 165 (by decide +kernel) rfl
theorem wm_X10_361 : Cond.methodLink RX10 361 yX6_hasRun ∈ zv_tbl := zv_m5 23 (by decide +kernel) rfl
theorem wm_X10_365 : Cond.methodLink RX10 365 yX6_move ∈ zv_tbl := zv_m5 27 (by decide +kernel) rfl
theorem wm_X10_372 : Cond.methodLink RX10 372 yX8_view ∈ zv_tbl := zv_m3 60 (by decide +kernel) rfl
theorem wm_X10_376 : Cond.methodLink RX10 376 yX4_put ∈ zv_tbl := zv_m3 95 (by decide +kernel) rfl
theorem wm_X10_377 : Cond.methodLink RX10 377 yX4_together ∈ zv_tbl := zv_m3 144 (by decide +kernel) rfl
theorem wm_X10_380 : Cond.methodLink RX10 380 yX3_prepare ∈ zv_tbl := zv_m3 186 (by decide +kernel) rfl
theorem wm_X10_384 : Cond.methodLink RX10 384 yX8_turn ∈ zv_tbl := zv_m4 51 (by decide +kernel) rfl
theorem wm_X10_387 : Cond.methodLink RX10 387 yX10_leastLinked ∈ zv_tbl := zv_m3 231 (by decide +kernel) rfl
theorem wm_X10_391 : Cond.methodLink RX10 391 yX10_mostLinked ∈ zv_tbl := zv_m3 234 (by decide +kernel) rfl
theorem wm_X10_394 : Cond.methodLink RX10 394 yJ9_max_7cf53 ∈ zv_tbl := zv_m3 237 (by decide +kernel) rfl
theorem wm_X10_399 : Cond.methodLink RX10 399 yJ9_min_7cf53 ∈ zv_tbl := zv_m4 25 (by decide +kernel) rfl
theorem wm_X0_31 : Cond.methodLink RX0 31 yX2_drop ∈ zv_tbl := zv_m4 198 (by decide +kernel) rfl
theorem wm_X0_34 : Cond.methodLink RX0 34 yX0_run ∈ zv_tbl := zv_m4 203 (by decide +kernel) rfl
theorem wm_X0_48 : Cond.methodLink RX0 48 yX0_bodyOf ∈ zv_tbl := zv_m4 209 (by decide +kernel) rfl
theorem wm_X0_52 : Cond.methodLink RX0 52 yX2_add ∈ zv_tbl := zv_m4 214 (by decide +kernel) rfl
theorem wm_X0_55 : Cond.methodLink RX0 55 yX0_answerOf ∈ zv_tbl := zv_m4 215 (by decide +kernel) rfl
theorem wm_X1_22 : Cond.methodLink RX1 22 yX1_gather ∈ zv_tbl := zv_m4 34 (by decide +kernel) rfl
theorem wm_X1_26 : Cond.methodLink RX1 26 yX1_goneBy ∈ zv_tbl := zv_m4 39 (by decide +kernel) rfl
theorem wm_X2_23 : Cond.methodLink RX2 23 yX2_get ∈ zv_tbl := zv_m4 183 (by decide +kernel) rfl
theorem wm_X2_27 : Cond.methodLink RX2 27 yX2_add ∈ zv_tbl := zv_m4 184 (by decide +kernel) rfl
theorem wm_X3_38 : Cond.methodLink RX3 38 yJ9_min_7cf53 ∈ zv_tbl := zv_m3 190 (by decide +kernel) rfl
theorem wm_X3_48 : Cond.methodLink RX3 48 yX3_goOn ∈ zv_tbl := zv_m3 195 (by decide +kernel) rfl
theorem wm_X3_52 : Cond.methodLink RX3 52 yX3_goBehind ∈ zv_tbl := zv_m3 200 (by decide +kernel) rfl
theorem wm_X3_55 : Cond.methodLink RX3 55 yX3_noteWay ∈ zv_tbl := zv_m3 204 (by decide +kernel) rfl
theorem wm_X4_22 : Cond.methodLink RX4 22 yJ6_bitCount_0f7a4 ∈ zv_tbl := zv_m3 112 (by decide +kernel) rfl
theorem wm_X4_28 : Cond.methodLink RX4 28 yJ9_max_7cf53 ∈ zv_tbl := zv_m4 10 (by decide +kernel) rfl
theorem wm_X4_34 : Cond.methodLink RX4 34 yX4_viewFrom ∈ zv_tbl := zv_m3 104 (by decide +kernel) rfl
theorem wm_X5_46 : Cond.methodLink RX5 46 yJ7_fill_53178 ∈ zv_tbl := zv_m1 54 (by decide +kernel) rfl
theorem wm_X5_52 : Cond.methodLink RX5 52 yX2_drop ∈ zv_tbl := zv_m3 18 (by decide +kernel) rfl
theorem wm_X5_55 : Cond.methodLink RX5 55 yX5_takeAllMen ∈ zv_tbl := zv_m3 14 (by decide +kernel) rfl
theorem wm_X5_58 : Cond.methodLink RX5 58 yX5_dropSeen ∈ zv_tbl := zv_m3 22 (by decide +kernel) rfl
theorem wm_X5_61 : Cond.methodLink RX5 61 yX2_becomes ∈ zv_tbl := zv_m4 179 (by decide +kernel) rfl
theorem wm_X5_65 : Cond.methodLink RX5 65 yX5_manOn ∈ zv_tbl := zv_m4 185 (by decide +kernel) rfl
theorem wm_X6_26 : Cond.methodLink RX6 26 yX6_sortOf ∈ zv_tbl := zv_m4 148 (by decide +kernel) rfl
theorem wm_X6_30 : Cond.methodLink RX6 30 yX6_sizeOf ∈ zv_tbl := zv_m4 161 (by decide +kernel) rfl
theorem wm_X6_33 : Cond.methodLink RX6 33 yJ9_max_7cf53 ∈ zv_tbl := zv_m5 2 (by decide +kernel) rfl
theorem wm_X6_39 : Cond.methodLink RX6 39 yJ9_min_7cf53 ∈ zv_tbl := zv_m5 3 (by decide +kernel) rfl
theorem wm_X6_42 : Cond.methodLink RX6 42 yX6_isTape ∈ zv_tbl := zv_m4 169 (by decide +kernel) rfl
theorem wm_X6_46 : Cond.methodLink RX6 46 yX6_isPlace ∈ zv_tbl := zv_m4 170 (by decide +kernel) rfl
theorem wm_X6_50 : Cond.methodLink RX6 50 yX6_fitted ∈ zv_tbl := zv_m5 12 (by decide +kernel) rfl
theorem wm_X6_54 : Cond.methodLink RX6 54 yX6_hasRun ∈ zv_tbl := zv_m5 31 (by decide +kernel) rfl
theorem wm_X6_58 : Cond.methodLink RX6 58 arraycopyName ∈ zv_tbl := zv_m5 32 (by decide +kernel) rfl
theorem wm_X7_19 : Cond.methodLink RX7 19 yJ7_fill_53178 ∈ zv_tbl := zv_m4 77 (by decide +kernel) rfl
theorem wm_X7_29 : Cond.methodLink RX7 29 yX7_measure ∈ zv_tbl := zv_m4 79 (by decide +kernel) rfl
theorem wm_X7_33 : Cond.methodLink RX7 33 yX7_bring ∈ zv_tbl := zv_m4 88 (by decide +kernel) rfl
theorem wm_X7_43 : Cond.methodLink RX7 43 yX8_spread ∈ zv_tbl := zv_m4 83 (by decide +kernel) rfl
theorem wm_X7_49 : Cond.methodLink RX7 49 yJ6_bitCount_0f7a4 ∈ zv_tbl := zv_m4 92 (by decide +kernel) rfl
theorem wm_X7_54 : Cond.methodLink RX7 54 yX7_bringOne ∈ zv_tbl := zv_m4 93 (by decide +kernel) rfl
theorem wm_X7_57 : Cond.methodLink RX7 57 yX2_get ∈ zv_tbl := zv_m4 97 (by decide +kernel) rfl
theorem wm_X7_60 : Cond.methodLink RX7 60 yJ9_min_7cf53 ∈ zv_tbl := zv_m4 98 (by decide +kernel) rfl
theorem wm_X8_37 : Cond.methodLink RX8 37 yX8_all ∈ zv_tbl := zv_m3 129 (by decide +kernel) rfl
theorem wm_X8_42 : Cond.methodLink RX8 42 yX8_waysOf ∈ zv_tbl := zv_m3 65 (by decide +kernel) rfl
theorem wm_X8_52 : Cond.methodLink RX8 52 yX8_lookAlong ∈ zv_tbl := zv_m3 73 (by decide +kernel) rfl
theorem wm_X8_56 : Cond.methodLink RX8 56 yX8_xOf ∈ zv_tbl := zv_m3 77 (by decide +kernel) rfl
theorem wm_X8_59 : Cond.methodLink RX8 59 yX8_yOf ∈ zv_tbl := zv_m3 81 (by decide +kernel) rfl
theorem wm_X8_62 : Cond.methodLink RX8 62 yX8_goOn ∈ zv_tbl := zv_m3 85 (by decide +kernel) rfl
theorem wm_X8_69 : Cond.methodLink RX8 69 yJ9_floorMod_7cf53 ∈ zv_tbl := zv_m3 89 (by decide +kernel) rfl
theorem wm_X8_75 : Cond.methodLink RX8 75 yX8_free ∈ zv_tbl := zv_m4 87 (by decide +kernel) rfl
theorem wm_X9_44 : Cond.methodLink RX9 44 yX9_moveTo ∈ zv_tbl := zv_m2 145 (by decide +kernel) rfl
theorem wm_X9_48 : Cond.methodLink RX9 48 yX9_readClause ∈ zv_tbl := zv_m2 149 (by decide +kernel) rfl
theorem wm_X9_53 : Cond.methodLink RX9 53 yX9_readWord ∈ zv_tbl := zv_m2 154 (by decide +kernel) rfl
theorem wm_X9_57 : Cond.methodLink RX9 57 yX9_readNumber ∈ zv_tbl := zv_m2 206 (by decide +kernel) rfl
theorem wm_X9_61 : Cond.methodLink RX9 61 yJ9_max_7cf53 ∈ zv_tbl := zv_m2 210 (by decide +kernel) rfl
theorem wm_X9_67 : Cond.methodLink RX9 67 yJ9_min_7cf53 ∈ zv_tbl := zv_m2 211 (by decide +kernel) rfl
theorem wm_X9_72 : Cond.methodLink RX9 72 yX9_readAny ∈ zv_tbl := zv_m2 215 (by decide +kernel) rfl
theorem wm_X9_81 : Cond.methodLink RX9 81 yJ0_length_8abf5 ∈ zv_tbl := zv_m2 158 (by decide +kernel) rfl
theorem wm_X9_85 : Cond.methodLink RX9 85 yJ0_charAt_5068e ∈ zv_tbl := zv_m2 168 (by decide +kernel) rfl
theorem wm_X9_89 : Cond.methodLink RX9 89 yX9_readOne ∈ zv_tbl := zv_m2 219 (by decide +kernel) rfl
theorem wm_X9_95 : Cond.methodLink RX9 95 yX9_readTest ∈ zv_tbl := zv_m2 223 (by decide +kernel) rfl
theorem wm_X9_100 : Cond.methodLink RX9 100 yX9_isLetter ∈ zv_tbl := zv_m2 227 (by decide +kernel) rfl
theorem wm_X9_104 : Cond.methodLink RX9 104 yX9_squaresOf ∈ zv_tbl := zv_m2 231 (by decide +kernel) rfl
theorem wm_X9_108 : Cond.methodLink RX9 108 yX9_numberOf ∈ zv_tbl := zv_m2 235 (by decide +kernel) rfl
theorem wm_X11_230 : Cond.methodLink RX11 230 yX11_in ∈ zv_tbl := zv_m6 23 (by decide +kernel) rfl
theorem wm_X11_234 : Cond.methodLink RX11 234 yX11_isPlan ∈ zv_tbl := zv_m6 31 (by decide +kernel) rfl
theorem wm_X11_238 : Cond.methodLink RX11 238 yX11_men ∈ zv_tbl := zv_m6 43 (by decide +kernel) rfl
theorem wm_X11_242 : Cond.methodLink RX11 242 yX11_ones ∈ zv_tbl := zv_m6 47 (by decide +kernel) rfl
theorem wm_X11_246 : Cond.methodLink RX11 246 yX11_takeAll ∈ zv_tbl := zv_m6 39 (by decide +kernel) rfl
theorem wm_X11_249 : Cond.methodLink RX11 249 yX11_next ∈ zv_tbl := zv_m6 75 (by decide +kernel) rfl
theorem wm_X11_252 : Cond.methodLink RX11 252 yX11_takes ∈ zv_tbl := zv_m6 87 (by decide +kernel) rfl
theorem wm_X11_255 : Cond.methodLink RX11 255 yX11_takesAlone ∈ zv_tbl := zv_m6 83 (by decide +kernel) rfl
theorem wm_X11_259 : Cond.methodLink RX11 259 yX11_isDigit ∈ zv_tbl := zv_m6 107 (by decide +kernel) rfl
theorem wm_X11_263 : Cond.methodLink RX11 263 yX11_emits ∈ zv_tbl := zv_m6 111 (by decide +kernel) rfl
theorem wm_X11_267 : Cond.methodLink RX11 267 yX11_place ∈ zv_tbl := zv_m6 99 (by decide +kernel) rfl
theorem wm_X11_270 : Cond.methodLink RX11 270 yX11_takesNumber ∈ zv_tbl := zv_m6 103 (by decide +kernel) rfl
theorem wm_X11_273 : Cond.methodLink RX11 273 yX11_whole ∈ zv_tbl := zv_m6 115 (by decide +kernel) rfl
theorem wm_X11_276 : Cond.methodLink RX11 276 yX11_takesTest ∈ zv_tbl := zv_m6 95 (by decide +kernel) rfl
theorem wm_X11_279 : Cond.methodLink RX11 279 yX11_settle ∈ zv_tbl := zv_m6 119 (by decide +kernel) rfl
theorem wm_X11_282 : Cond.methodLink RX11 282 yX11_takesWord ∈ zv_tbl := zv_m6 79 (by decide +kernel) rfl
theorem wm_X11_285 : Cond.methodLink RX11 285 yX11_takesHead ∈ zv_tbl := zv_m6 71 (by decide +kernel) rfl
theorem wm_X11_288 : Cond.methodLink RX11 288 yX11_takesE ∈ zv_tbl := zv_m6 91 (by decide +kernel) rfl
theorem wm_X11_291 : Cond.methodLink RX11 291 yX11_takesClause ∈ zv_tbl := zv_m6 67 (by decide +kernel) rfl
theorem wm_X11_294 : Cond.methodLink RX11 294 yX11_goesText ∈ zv_tbl := zv_m6 63 (by decide +kernel) rfl
theorem wm_X11_297 : Cond.methodLink RX11 297 yX11_layBoard ∈ zv_tbl := zv_m6 123 (by decide +kernel) rfl
theorem wm_X11_300 : Cond.methodLink RX11 300 yX11_apart ∈ zv_tbl := zv_m6 147 (by decide +kernel) rfl
theorem wm_X11_304 : Cond.methodLink RX11 304 yX11_factOf ∈ zv_tbl := zv_m6 143 (by decide +kernel) rfl
theorem wm_X11_307 : Cond.methodLink RX11 307 yX11_begin ∈ zv_tbl := zv_m6 127 (by decide +kernel) rfl
theorem wm_X11_310 : Cond.methodLink RX11 310 yX11_behind ∈ zv_tbl := zv_m6 131 (by decide +kernel) rfl
theorem wm_X11_313 : Cond.methodLink RX11 313 yX11_holds ∈ zv_tbl := zv_m6 139 (by decide +kernel) rfl
theorem wm_X11_316 : Cond.methodLink RX11 316 yX11_squaresOf ∈ zv_tbl := zv_m6 135 (by decide +kernel) rfl
theorem wm_X11_319 : Cond.methodLink RX11 319 yX11_away ∈ zv_tbl := zv_m6 171 (by decide +kernel) rfl
theorem wm_X11_323 : Cond.methodLink RX11 323 yX11_has ∈ zv_tbl := zv_m6 175 (by decide +kernel) rfl
theorem wm_X11_326 : Cond.methodLink RX11 326 yX11_line ∈ zv_tbl := zv_m6 167 (by decide +kernel) rfl
theorem wm_X11_329 : Cond.methodLink RX11 329 yX11_one ∈ zv_tbl := zv_m6 183 (by decide +kernel) rfl
theorem wm_X11_332 : Cond.methodLink RX11 332 yX11_lines ∈ zv_tbl := zv_m6 163 (by decide +kernel) rfl
theorem wm_X11_335 : Cond.methodLink RX11 335 yX11_nextTo ∈ zv_tbl := zv_m6 179 (by decide +kernel) rfl
theorem wm_X11_338 : Cond.methodLink RX11 338 yX11_leaps ∈ zv_tbl := zv_m6 187 (by decide +kernel) rfl
theorem wm_X11_341 : Cond.methodLink RX11 341 yX11_isSquare ∈ zv_tbl := zv_m6 155 (by decide +kernel) rfl
theorem wm_X11_344 : Cond.methodLink RX11 344 yX11_seesOf ∈ zv_tbl := zv_m6 159 (by decide +kernel) rfl
theorem wm_X11_347 : Cond.methodLink RX11 347 yX11_seersOf ∈ zv_tbl := zv_m6 203 (by decide +kernel) rfl
theorem wm_X11_350 : Cond.methodLink RX11 350 yX11_quarrels ∈ zv_tbl := zv_m6 199 (by decide +kernel) rfl
theorem wm_X11_353 : Cond.methodLink RX11 353 yX11_isPeace ∈ zv_tbl := zv_m6 195 (by decide +kernel) rfl
theorem wm_X11_356 : Cond.methodLink RX11 356 yX11_mayBe ∈ zv_tbl := zv_m6 211 (by decide +kernel) rfl
theorem wm_X11_359 : Cond.methodLink RX11 359 yX11_isFit ∈ zv_tbl := zv_m6 215 (by decide +kernel) rfl
theorem wm_X11_362 : Cond.methodLink RX11 362 yX11_layBad ∈ zv_tbl := zv_m6 235 (by decide +kernel) rfl
theorem wm_X11_365 : Cond.methodLink RX11 365 yX11_isWay ∈ zv_tbl := zv_m6 239 (by decide +kernel) rfl
theorem wm_X11_368 : Cond.methodLink RX11 368 yX11_nextRow ∈ zv_tbl := zv_m7 3 (by decide +kernel) rfl
theorem wm_X11_371 : Cond.methodLink RX11 371 yX11_layMen ∈ zv_tbl := zv_m7 11 (by decide +kernel) rfl
theorem wm_X11_374 : Cond.methodLink RX11 374 yX11_lowest ∈ zv_tbl := zv_m7 19 (by decide +kernel) rfl
theorem wm_X11_377 : Cond.methodLink RX11 377 yX11_mayHold ∈ zv_tbl := zv_m7 31 (by decide +kernel) rfl
theorem wm_X11_380 : Cond.methodLink RX11 380 yX11_tries ∈ zv_tbl := zv_m7 35 (by decide +kernel) rfl
theorem wm_X11_384 : Cond.methodLink RX11 384 yX11_layHold ∈ zv_tbl := zv_m7 27 (by decide +kernel) rfl
theorem wm_X11_387 : Cond.methodLink RX11 387 yX11_moreOf ∈ zv_tbl := zv_m7 43 (by decide +kernel) rfl
theorem wm_X11_390 : Cond.methodLink RX11 390 yX11_isPeaceOf ∈ zv_tbl := zv_m7 55 (by decide +kernel) rfl
theorem wm_X11_393 : Cond.methodLink RX11 393 yX11_gone ∈ zv_tbl := zv_m7 59 (by decide +kernel) rfl
theorem wm_X11_396 : Cond.methodLink RX11 396 yX11_goes ∈ zv_tbl := zv_m7 51 (by decide +kernel) rfl
theorem wm_X11_399 : Cond.methodLink RX11 399 yX11_turnedSquare ∈ zv_tbl := zv_m7 75 (by decide +kernel) rfl
theorem wm_X11_402 : Cond.methodLink RX11 402 yX11_isAlike ∈ zv_tbl := zv_m7 71 (by decide +kernel) rfl
theorem wm_X11_405 : Cond.methodLink RX11 405 yX11_laySteps ∈ zv_tbl := zv_m7 91 (by decide +kernel) rfl
theorem wm_X11_408 : Cond.methodLink RX11 408 yX11_layOrder ∈ zv_tbl := zv_m7 95 (by decide +kernel) rfl
theorem wm_X11_411 : Cond.methodLink RX11 411 yX11_isSeen ∈ zv_tbl := zv_m7 107 (by decide +kernel) rfl
theorem wm_X11_414 : Cond.methodLink RX11 414 yX11_divisor ∈ zv_tbl := zv_m7 120 (by decide +kernel) rfl
theorem wm_X11_419 : Cond.methodLink RX11 419 yX11_fraction ∈ zv_tbl := zv_m7 116 (by decide +kernel) rfl
theorem wm_X11_423 : Cond.methodLink RX11 423 yX11_isTape ∈ zv_tbl := zv_m7 140 (by decide +kernel) rfl
theorem wm_X11_426 : Cond.methodLink RX11 426 yX11_body ∈ zv_tbl := zv_m7 160 (by decide +kernel) rfl
theorem wm_X11_429 : Cond.methodLink RX11 429 yX11_manLooks ∈ zv_tbl := zv_m7 164 (by decide +kernel) rfl
theorem wm_X11_432 : Cond.methodLink RX11 432 yX11_looksAct ∈ zv_tbl := zv_m7 156 (by decide +kernel) rfl
theorem wm_X11_435 : Cond.methodLink RX11 435 yX11_manSees ∈ zv_tbl := zv_m7 176 (by decide +kernel) rfl
theorem wm_X11_438 : Cond.methodLink RX11 438 yX11_rookSees ∈ zv_tbl := zv_m7 172 (by decide +kernel) rfl
theorem wm_X11_441 : Cond.methodLink RX11 441 yX11_seesAct ∈ zv_tbl := zv_m7 168 (by decide +kernel) rfl
theorem wm_X11_444 : Cond.methodLink RX11 444 yX11_manTells ∈ zv_tbl := zv_m7 184 (by decide +kernel) rfl
theorem wm_X11_447 : Cond.methodLink RX11 447 yX11_tellsAct ∈ zv_tbl := zv_m7 180 (by decide +kernel) rfl
theorem wm_X11_450 : Cond.methodLink RX11 450 yX11_narrow ∈ zv_tbl := zv_m7 208 (by decide +kernel) rfl
theorem wm_X0_44 : Cond.methodLinkNest RX0 44 yX10_isKind "NoneSees" ∈ zv_tbl := zv_m4 208 (by decide +kernel) rfl
theorem wm_X1_30 : Cond.methodLinkNest RX1 30 yX10_isIn "NoneSees" ∈ zv_tbl := zv_m4 38 (by decide +kernel) rfl
theorem wm_X3_44 : Cond.methodLinkNest RX3 44 yX10_isIn "NoneSees" ∈ zv_tbl := zv_m3 199 (by decide +kernel) rfl
theorem wm_X4_18 : Cond.methodLinkNest RX4 18 yX10_isIn "NoneSees" ∈ zv_tbl := zv_m3 103 (by decide +kernel) rfl
theorem wm_X7_25 : Cond.methodLinkNest RX7 25 yX10_isIn "NoneSees" ∈ zv_tbl := zv_m4 78 (by decide +kernel) rfl
theorem wm_X8_33 : Cond.methodLinkNest RX8 33 yX10_allSquares "NoneSees" ∈ zv_tbl := zv_m3 133 (by decide +kernel) rfl
theorem wm_X8_65 : Cond.methodLinkNest RX8 65 yX10_isIn "NoneSees" ∈ zv_tbl := zv_m3 92 (by decide +kernel) rfl
theorem wm_X9_92 : Cond.methodLinkNest RX9 92 yX10_allSquares "NoneSees" ∈ zv_tbl := zv_m2 239 (by decide +kernel) rfl
theorem zd_X10_12 : zv_fd RX10 12 10 0 true (.object "NoneSees$State") := ⟨RX10, TX10, 14, tyX10, rfl, zin10, by decide, zv_m2 41 (by decide +kernel) rfl, rfl, tyX10_ok, nmX10, rfl, by decide +kernel⟩
theorem zd_X10_18 : zv_fd RX10 18 10 1 true (.object "NoneSees$State") := ⟨RX10, TX10, 14, tyX10, rfl, zin10, by decide, zv_m2 42 (by decide +kernel) rfl, rfl, tyX10_ok, nmX10, rfl, by decide +kernel⟩
theorem zd_X10_21 : zv_fd RX10 21 10 2 false .boolean := ⟨RX10, TX10, 14, tyX10, rfl, zin10, by decide, zv_m2 43 (by decide +kernel) rfl, rfl, tyX10_ok, nmX10, rfl, by decide +kernel⟩
theorem zd_X10_28 : zv_fd RX10 28 10 3 true (.object "NoneSees$YardReader") := ⟨RX10, TX10, 14, tyX10, rfl, zin10, by decide, zv_m2 44 (by decide +kernel) rfl, rfl, tyX10_ok, nmX10, rfl, by decide +kernel⟩
theorem zd_X10_34 : zv_fd RX10 34 10 4 true (.array (.object "NoneSees$Yard")) := ⟨RX10, TX10, 14, tyX10, rfl, zin10, by decide, zv_m2 45 (by decide +kernel) rfl, rfl, tyX10_ok, nmX10, rfl, by decide +kernel⟩
theorem zd_X10_39 : zv_fd RX10 39 10 5 true (.object "NoneSees$Yard") := ⟨RX10, TX10, 14, tyX10, rfl, zin10, by decide, zv_m2 46 (by decide +kernel) rfl, rfl, tyX10_ok, nmX10, rfl, by decide +kernel⟩
theorem zd_X10_43 : zv_fd RX10 43 10 6 false .int := ⟨RX10, TX10, 14, tyX10, rfl, zin10, by decide, zv_m2 47 (by decide +kernel) rfl, rfl, tyX10_ok, nmX10, rfl, by decide +kernel⟩
theorem zd_X10_50 : zv_fd RX10 50 10 7 true (.object "NoneSees$Sight") := ⟨RX10, TX10, 14, tyX10, rfl, zin10, by decide, zv_m2 48 (by decide +kernel) rfl, rfl, tyX10_ok, nmX10, rfl, by decide +kernel⟩
theorem zd_X10_54 : zv_fd RX10 54 10 8 true (.object "NoneSees$Sight") := ⟨RX10, TX10, 14, tyX10, rfl, zin10, by decide, zv_m2 49 (by decide +kernel) rfl, rfl, tyX10_ok, nmX10, rfl, by decide +kernel⟩
theorem zd_X10_60 : zv_fd RX10 60 10 9 true (.object "NoneSees$RowSearch") := ⟨RX10, TX10, 14, tyX10, rfl, zin10, by decide, zv_m2 50 (by decide +kernel) rfl, rfl, tyX10_ok, nmX10, rfl, by decide +kernel⟩
theorem zd_X10_67 : zv_fd RX10 67 10 10 true (.object "NoneSees$Game") := ⟨RX10, TX10, 14, tyX10, rfl, zin10, by decide, zv_m2 51 (by decide +kernel) rfl, rfl, tyX10_ok, nmX10, rfl, by decide +kernel⟩
theorem zd_X10_74 : zv_fd RX10 74 10 11 true (.object "NoneSees$Walk") := ⟨RX10, TX10, 14, tyX10, rfl, zin10, by decide, zv_m2 52 (by decide +kernel) rfl, rfl, tyX10_ok, nmX10, rfl, by decide +kernel⟩
theorem zd_X10_81 : zv_fd RX10 81 10 12 true (.object "NoneSees$Acts") := ⟨RX10, TX10, 14, tyX10, rfl, zin10, by decide, zv_m2 53 (by decide +kernel) rfl, rfl, tyX10_ok, nmX10, rfl, by decide +kernel⟩
theorem zd_X10_88 : zv_fd RX10 88 10 13 true (.object "NoneSees$Tapes") := ⟨RX10, TX10, 14, tyX10, rfl, zin10, by decide, zv_m2 54 (by decide +kernel) rfl, rfl, tyX10_ok, nmX10, rfl, by decide +kernel⟩
theorem zd_X10_96 : zv_fd RX10 96 5 0 true (.object "NoneSees$Pile") := ⟨RX5, TX5, 9, tyX5, rfl, zin5, by decide, zv_m1 58 (by decide +kernel) rfl, rfl, tyX5_ok, nmX5, rfl, by decide +kernel⟩
theorem zd_X10_110 : zv_fd RX10 110 5 1 true (.object "NoneSees$Pile") := ⟨RX5, TX5, 9, tyX5, rfl, zin5, by decide, zv_m1 60 (by decide +kernel) rfl, rfl, tyX5_ok, nmX5, rfl, by decide +kernel⟩
theorem zd_X10_113 : zv_fd RX10 113 5 2 true (.object "NoneSees$Pile") := ⟨RX5, TX5, 9, tyX5, rfl, zin5, by decide, zv_m1 62 (by decide +kernel) rfl, rfl, tyX5_ok, nmX5, rfl, by decide +kernel⟩
theorem zd_X10_116 : zv_fd RX10 116 2 1 false .int := ⟨RX2, TX2, 2, tyX2, rfl, zin2, by decide, zv_m1 47 (by decide +kernel) rfl, rfl, tyX2_ok, nmX2, rfl, by decide +kernel⟩
theorem zd_X10_135 : zv_fd RX10 135 9 1 false .int := ⟨RX9, TX9, 10, tyX9, rfl, zin9, by decide, zv_m1 101 (by decide +kernel) rfl, rfl, tyX9_ok, nmX9, rfl, by decide +kernel⟩
theorem zd_X10_141 : zv_fd RX10 141 9 2 false .int := ⟨RX9, TX9, 10, tyX9, rfl, zin9, by decide, zv_m1 104 (by decide +kernel) rfl, rfl, tyX9_ok, nmX9, rfl, by decide +kernel⟩
theorem zd_X10_151 : zv_fd RX10 151 5 8 false .int := ⟨RX5, TX5, 9, tyX5, rfl, zin5, by decide, zv_m1 73 (by decide +kernel) rfl, rfl, tyX5_ok, nmX5, rfl, by decide +kernel⟩
theorem zd_X10_158 : zv_fd RX10 158 8 0 false .int := ⟨RX8, TX8, 4, tyX8, rfl, zin8, by decide, zv_m1 145 (by decide +kernel) rfl, rfl, tyX8_ok, nmX8, rfl, by decide +kernel⟩
theorem zd_X10_159 : zv_fd RX10 159 8 1 false .boolean := ⟨RX8, TX8, 4, tyX8, rfl, zin8, by decide, zv_m1 147 (by decide +kernel) rfl, rfl, tyX8_ok, nmX8, rfl, by decide +kernel⟩
theorem zd_X10_171 : zv_fd RX10 171 8 2 false .int := ⟨RX8, TX8, 4, tyX8, rfl, zin8, by decide, zv_m1 149 (by decide +kernel) rfl, rfl, tyX8_ok, nmX8, rfl, by decide +kernel⟩
theorem zd_X10_174 : zv_fd RX10 174 8 3 false .int := ⟨RX8, TX8, 4, tyX8, rfl, zin8, by decide, zv_m1 151 (by decide +kernel) rfl, rfl, tyX8_ok, nmX8, rfl, by decide +kernel⟩
theorem zd_X10_221 : zv_fd RX10 221 3 7 false .int := ⟨RX3, TX3, 8, tyX3, rfl, zin3, by decide, zv_m1 190 (by decide +kernel) rfl, rfl, tyX3_ok, nmX3, rfl, by decide +kernel⟩
theorem zd_X10_242 : zv_fd RX10 242 4 1 true (.array .int) := ⟨RX4, TX4, 2, tyX4, rfl, zin4, by decide, zv_m1 170 (by decide +kernel) rfl, rfl, tyX4_ok, nmX4, rfl, by decide +kernel⟩
theorem zd_X10_259 : zv_fd RX10 259 4 0 true (.array .int) := ⟨RX4, TX4, 2, tyX4, rfl, zin4, by decide, zv_m1 168 (by decide +kernel) rfl, rfl, tyX4_ok, nmX4, rfl, by decide +kernel⟩
theorem zd_X10_276 : zv_fd RX10 276 5 4 true (.object "NoneSees$Pile") := ⟨RX5, TX5, 9, tyX5, rfl, zin5, by decide, zv_m1 65 (by decide +kernel) rfl, rfl, tyX5_ok, nmX5, rfl, by decide +kernel⟩
theorem zd_X10_292 : zv_fd RX10 292 5 5 true (.object "NoneSees$Pile") := ⟨RX5, TX5, 9, tyX5, rfl, zin5, by decide, zv_m1 67 (by decide +kernel) rfl, rfl, tyX5_ok, nmX5, rfl, by decide +kernel⟩
theorem zd_X10_295 : zv_fd RX10 295 5 6 true (.object "NoneSees$Pile") := ⟨RX5, TX5, 9, tyX5, rfl, zin5, by decide, zv_m1 69 (by decide +kernel) rfl, rfl, tyX5_ok, nmX5, rfl, by decide +kernel⟩
theorem zd_X10_313 : zv_fd RX10 313 5 7 true (.object "NoneSees$Pile") := ⟨RX5, TX5, 9, tyX5, rfl, zin5, by decide, zv_m1 71 (by decide +kernel) rfl, rfl, tyX5_ok, nmX5, rfl, by decide +kernel⟩
theorem zd_X10_339 : zv_fd RX10 339 0 0 true (.object "NoneSees$Pile") := ⟨RX0, TX0, 5, tyX0, rfl, zin0, by decide, zv_m2 6 (by decide +kernel) rfl, rfl, tyX0_ok, nmX0, rfl, by decide +kernel⟩
theorem zd_X10_345 : zv_fd RX10 345 0 1 false .int := ⟨RX0, TX0, 5, tyX0, rfl, zin0, by decide, zv_m2 8 (by decide +kernel) rfl, rfl, tyX0_ok, nmX0, rfl, by decide +kernel⟩
theorem zd_X0_12 : zv_fd RX0 12 0 0 true (.object "NoneSees$Pile") := ⟨RX0, TX0, 5, tyX0, rfl, zin0, by decide, zv_m2 5 (by decide +kernel) rfl, rfl, tyX0_ok, nmX0, rfl, by decide +kernel⟩
theorem zd_X0_18 : zv_fd RX0 18 0 1 false .int := ⟨RX0, TX0, 5, tyX0, rfl, zin0, by decide, zv_m2 7 (by decide +kernel) rfl, rfl, tyX0_ok, nmX0, rfl, by decide +kernel⟩
theorem zd_X0_22 : zv_fd RX0 22 0 2 false .int := ⟨RX0, TX0, 5, tyX0, rfl, zin0, by decide, zv_m2 9 (by decide +kernel) rfl, rfl, tyX0_ok, nmX0, rfl, by decide +kernel⟩
theorem zd_X0_25 : zv_fd RX0 25 0 3 false .int := ⟨RX0, TX0, 5, tyX0, rfl, zin0, by decide, zv_m2 10 (by decide +kernel) rfl, rfl, tyX0_ok, nmX0, rfl, by decide +kernel⟩
theorem zd_X0_28 : zv_fd RX0 28 0 4 false .int := ⟨RX0, TX0, 5, tyX0, rfl, zin0, by decide, zv_m2 11 (by decide +kernel) rfl, rfl, tyX0_ok, nmX0, rfl, by decide +kernel⟩
theorem zd_X1_9 : zv_fd RX1 9 1 0 true (.array .int) := ⟨RX1, TX1, 3, tyX1, rfl, zin1, by decide, zv_m1 214 (by decide +kernel) rfl, rfl, tyX1_ok, nmX1, rfl, by decide +kernel⟩
theorem zd_X1_15 : zv_fd RX1 15 1 1 true (.array .int) := ⟨RX1, TX1, 3, tyX1, rfl, zin1, by decide, zv_m1 215 (by decide +kernel) rfl, rfl, tyX1_ok, nmX1, rfl, by decide +kernel⟩
theorem zd_X1_18 : zv_fd RX1 18 1 2 true (.array .byte) := ⟨RX1, TX1, 3, tyX1, rfl, zin1, by decide, zv_m1 216 (by decide +kernel) rfl, rfl, tyX1_ok, nmX1, rfl, by decide +kernel⟩
theorem zd_X2_13 : zv_fd RX2 13 2 0 true (.array .int) := ⟨RX2, TX2, 2, tyX2, rfl, zin2, by decide, zv_m1 44 (by decide +kernel) rfl, rfl, tyX2_ok, nmX2, rfl, by decide +kernel⟩
theorem zd_X2_19 : zv_fd RX2 19 2 1 false .int := ⟨RX2, TX2, 2, tyX2, rfl, zin2, by decide, zv_m1 45 (by decide +kernel) rfl, rfl, tyX2_ok, nmX2, rfl, by decide +kernel⟩
theorem zd_X3_9 : zv_fd RX3 9 3 0 true (.array .int) := ⟨RX3, TX3, 8, tyX3, rfl, zin3, by decide, zv_m1 182 (by decide +kernel) rfl, rfl, tyX3_ok, nmX3, rfl, by decide +kernel⟩
theorem zd_X3_15 : zv_fd RX3 15 3 1 true (.array .int) := ⟨RX3, TX3, 8, tyX3, rfl, zin3, by decide, zv_m1 183 (by decide +kernel) rfl, rfl, tyX3_ok, nmX3, rfl, by decide +kernel⟩
theorem zd_X3_18 : zv_fd RX3 18 3 2 true (.array .int) := ⟨RX3, TX3, 8, tyX3, rfl, zin3, by decide, zv_m1 184 (by decide +kernel) rfl, rfl, tyX3_ok, nmX3, rfl, by decide +kernel⟩
theorem zd_X3_21 : zv_fd RX3 21 3 3 true (.array .int) := ⟨RX3, TX3, 8, tyX3, rfl, zin3, by decide, zv_m1 185 (by decide +kernel) rfl, rfl, tyX3_ok, nmX3, rfl, by decide +kernel⟩
theorem zd_X3_24 : zv_fd RX3 24 3 4 false .int := ⟨RX3, TX3, 8, tyX3, rfl, zin3, by decide, zv_m1 186 (by decide +kernel) rfl, rfl, tyX3_ok, nmX3, rfl, by decide +kernel⟩
theorem zd_X3_28 : zv_fd RX3 28 3 5 false .int := ⟨RX3, TX3, 8, tyX3, rfl, zin3, by decide, zv_m1 187 (by decide +kernel) rfl, rfl, tyX3_ok, nmX3, rfl, by decide +kernel⟩
theorem zd_X3_31 : zv_fd RX3 31 3 6 false .boolean := ⟨RX3, TX3, 8, tyX3, rfl, zin3, by decide, zv_m1 188 (by decide +kernel) rfl, rfl, tyX3_ok, nmX3, rfl, by decide +kernel⟩
theorem zd_X3_35 : zv_fd RX3 35 3 7 false .int := ⟨RX3, TX3, 8, tyX3, rfl, zin3, by decide, zv_m1 189 (by decide +kernel) rfl, rfl, tyX3_ok, nmX3, rfl, by decide +kernel⟩
theorem zd_X4_9 : zv_fd RX4 9 4 0 true (.array .int) := ⟨RX4, TX4, 2, tyX4, rfl, zin4, by decide, zv_m1 167 (by decide +kernel) rfl, rfl, tyX4_ok, nmX4, rfl, by decide +kernel⟩
theorem zd_X4_15 : zv_fd RX4 15 4 1 true (.array .int) := ⟨RX4, TX4, 2, tyX4, rfl, zin4, by decide, zv_m1 169 (by decide +kernel) rfl, rfl, tyX4_ok, nmX4, rfl, by decide +kernel⟩
theorem zd_X5_14 : zv_fd RX5 14 5 0 true (.object "NoneSees$Pile") := ⟨RX5, TX5, 9, tyX5, rfl, zin5, by decide, zv_m1 57 (by decide +kernel) rfl, rfl, tyX5_ok, nmX5, rfl, by decide +kernel⟩
theorem zd_X5_20 : zv_fd RX5 20 5 1 true (.object "NoneSees$Pile") := ⟨RX5, TX5, 9, tyX5, rfl, zin5, by decide, zv_m1 59 (by decide +kernel) rfl, rfl, tyX5_ok, nmX5, rfl, by decide +kernel⟩
theorem zd_X5_23 : zv_fd RX5 23 5 2 true (.object "NoneSees$Pile") := ⟨RX5, TX5, 9, tyX5, rfl, zin5, by decide, zv_m1 61 (by decide +kernel) rfl, rfl, tyX5_ok, nmX5, rfl, by decide +kernel⟩
theorem zd_X5_26 : zv_fd RX5 26 5 3 true (.array .int) := ⟨RX5, TX5, 9, tyX5, rfl, zin5, by decide, zv_m1 63 (by decide +kernel) rfl, rfl, tyX5_ok, nmX5, rfl, by decide +kernel⟩
theorem zd_X5_30 : zv_fd RX5 30 5 4 true (.object "NoneSees$Pile") := ⟨RX5, TX5, 9, tyX5, rfl, zin5, by decide, zv_m1 64 (by decide +kernel) rfl, rfl, tyX5_ok, nmX5, rfl, by decide +kernel⟩
theorem zd_X5_33 : zv_fd RX5 33 5 5 true (.object "NoneSees$Pile") := ⟨RX5, TX5, 9, tyX5, rfl, zin5, by decide, zv_m1 66 (by decide +kernel) rfl, rfl, tyX5_ok, nmX5, rfl, by decide +kernel⟩
theorem zd_X5_36 : zv_fd RX5 36 5 6 true (.object "NoneSees$Pile") := ⟨RX5, TX5, 9, tyX5, rfl, zin5, by decide, zv_m1 68 (by decide +kernel) rfl, rfl, tyX5_ok, nmX5, rfl, by decide +kernel⟩
theorem zd_X5_39 : zv_fd RX5 39 5 7 true (.object "NoneSees$Pile") := ⟨RX5, TX5, 9, tyX5, rfl, zin5, by decide, zv_m1 70 (by decide +kernel) rfl, rfl, tyX5_ok, nmX5, rfl, by decide +kernel⟩
theorem zd_X5_42 : zv_fd RX5 42 5 8 false .int := ⟨RX5, TX5, 9, tyX5, rfl, zin5, by decide, zv_m1 72 (by decide +kernel) rfl, rfl, tyX5_ok, nmX5, rfl, by decide +kernel⟩
theorem zd_X6_9 : zv_fd RX6 9 6 0 true (.array .int) := ⟨RX6, TX6, 3, tyX6, rfl, zin6, by decide, zv_m2 30 (by decide +kernel) rfl, rfl, tyX6_ok, nmX6, rfl, by decide +kernel⟩
theorem zd_X6_13 : zv_fd RX6 13 6 1 true (.array .int) := ⟨RX6, TX6, 3, tyX6, rfl, zin6, by decide, zv_m2 31 (by decide +kernel) rfl, rfl, tyX6_ok, nmX6, rfl, by decide +kernel⟩
theorem zd_X6_16 : zv_fd RX6 16 6 2 true (.array .long) := ⟨RX6, TX6, 3, tyX6, rfl, zin6, by decide, zv_m2 32 (by decide +kernel) rfl, rfl, tyX6_ok, nmX6, rfl, by decide +kernel⟩
theorem zd_X7_9 : zv_fd RX7 9 7 0 true (.array .int) := ⟨RX7, TX7, 2, tyX7, rfl, zin7, by decide, zv_m1 230 (by decide +kernel) rfl, rfl, tyX7_ok, nmX7, rfl, by decide +kernel⟩
theorem zd_X7_15 : zv_fd RX7 15 7 1 true (.array .int) := ⟨RX7, TX7, 2, tyX7, rfl, zin7, by decide, zv_m1 231 (by decide +kernel) rfl, rfl, tyX7_ok, nmX7, rfl, by decide +kernel⟩
theorem zd_X7_37 : zv_fd RX7 37 2 1 false .int := ⟨RX2, TX2, 2, tyX2, rfl, zin2, by decide, zv_m1 46 (by decide +kernel) rfl, rfl, tyX2_ok, nmX2, rfl, by decide +kernel⟩
theorem zd_X8_9 : zv_fd RX8 9 8 0 false .int := ⟨RX8, TX8, 4, tyX8, rfl, zin8, by decide, zv_m1 144 (by decide +kernel) rfl, rfl, tyX8_ok, nmX8, rfl, by decide +kernel⟩
theorem zd_X8_15 : zv_fd RX8 15 8 1 false .boolean := ⟨RX8, TX8, 4, tyX8, rfl, zin8, by decide, zv_m1 146 (by decide +kernel) rfl, rfl, tyX8_ok, nmX8, rfl, by decide +kernel⟩
theorem zd_X8_19 : zv_fd RX8 19 8 2 false .int := ⟨RX8, TX8, 4, tyX8, rfl, zin8, by decide, zv_m1 148 (by decide +kernel) rfl, rfl, tyX8_ok, nmX8, rfl, by decide +kernel⟩
theorem zd_X8_22 : zv_fd RX8 22 8 3 false .int := ⟨RX8, TX8, 4, tyX8, rfl, zin8, by decide, zv_m1 150 (by decide +kernel) rfl, rfl, tyX8_ok, nmX8, rfl, by decide +kernel⟩
theorem zd_X8_25 : zv_fd RX8 25 9 2 false .int := ⟨RX9, TX9, 10, tyX9, rfl, zin9, by decide, zv_m1 103 (by decide +kernel) rfl, rfl, tyX9_ok, nmX9, rfl, by decide +kernel⟩
theorem zd_X8_28 : zv_fd RX8 28 9 3 false .boolean := ⟨RX9, TX9, 10, tyX9, rfl, zin9, by decide, zv_m1 106 (by decide +kernel) rfl, rfl, tyX9_ok, nmX9, rfl, by decide +kernel⟩
theorem zd_X8_29 : zv_fd RX8 29 9 4 false .int := ⟨RX9, TX9, 10, tyX9, rfl, zin9, by decide, zv_m1 108 (by decide +kernel) rfl, rfl, tyX9_ok, nmX9, rfl, by decide +kernel⟩
theorem zd_X8_30 : zv_fd RX8 30 9 5 false .int := ⟨RX9, TX9, 10, tyX9, rfl, zin9, by decide, zv_m1 110 (by decide +kernel) rfl, rfl, tyX9_ok, nmX9, rfl, by decide +kernel⟩
theorem zd_X9_9 : zv_fd RX9 9 9 0 true (.array .byte) := ⟨RX9, TX9, 10, tyX9, rfl, zin9, by decide, zv_m1 99 (by decide +kernel) rfl, rfl, tyX9_ok, nmX9, rfl, by decide +kernel⟩
theorem zd_X9_15 : zv_fd RX9 15 9 1 false .int := ⟨RX9, TX9, 10, tyX9, rfl, zin9, by decide, zv_m1 100 (by decide +kernel) rfl, rfl, tyX9_ok, nmX9, rfl, by decide +kernel⟩
theorem zd_X9_19 : zv_fd RX9 19 9 2 false .int := ⟨RX9, TX9, 10, tyX9, rfl, zin9, by decide, zv_m1 102 (by decide +kernel) rfl, rfl, tyX9_ok, nmX9, rfl, by decide +kernel⟩
theorem zd_X9_22 : zv_fd RX9 22 9 3 false .boolean := ⟨RX9, TX9, 10, tyX9, rfl, zin9, by decide, zv_m1 105 (by decide +kernel) rfl, rfl, tyX9_ok, nmX9, rfl, by decide +kernel⟩
theorem zd_X9_26 : zv_fd RX9 26 9 4 false .int := ⟨RX9, TX9, 10, tyX9, rfl, zin9, by decide, zv_m1 107 (by decide +kernel) rfl, rfl, tyX9_ok, nmX9, rfl, by decide +kernel⟩
theorem zd_X9_29 : zv_fd RX9 29 9 5 false .int := ⟨RX9, TX9, 10, tyX9, rfl, zin9, by decide, zv_m1 109 (by decide +kernel) rfl, rfl, tyX9_ok, nmX9, rfl, by decide +kernel⟩
theorem zd_X9_32 : zv_fd RX9 32 9 6 false .int := ⟨RX9, TX9, 10, tyX9, rfl, zin9, by decide, zv_m1 111 (by decide +kernel) rfl, rfl, tyX9_ok, nmX9, rfl, by decide +kernel⟩
theorem zd_X9_35 : zv_fd RX9 35 9 7 false .int := ⟨RX9, TX9, 10, tyX9, rfl, zin9, by decide, zv_m1 112 (by decide +kernel) rfl, rfl, tyX9_ok, nmX9, rfl, by decide +kernel⟩
theorem zd_X9_38 : zv_fd RX9 38 9 8 false .boolean := ⟨RX9, TX9, 10, tyX9, rfl, zin9, by decide, zv_m1 113 (by decide +kernel) rfl, rfl, tyX9_ok, nmX9, rfl, by decide +kernel⟩
theorem zd_X9_41 : zv_fd RX9 41 9 9 false .int := ⟨RX9, TX9, 10, tyX9, rfl, zin9, by decide, zv_m1 114 (by decide +kernel) rfl, rfl, tyX9_ok, nmX9, rfl, by decide +kernel⟩
theorem zd_X11_7 : zv_fd RX11 7 11 0 false .int := ⟨RX11, TX11, 72, tyX11, rfl, zin11, by decide, zv_m5 41 (by decide +kernel) rfl, rfl, tyX11_ok, nmX11, rfl, by decide +kernel⟩
theorem zd_X11_13 : zv_fd RX11 13 11 1 false .int := ⟨RX11, TX11, 72, tyX11, rfl, zin11, by decide, zv_m5 42 (by decide +kernel) rfl, rfl, tyX11_ok, nmX11, rfl, by decide +kernel⟩
theorem zd_X11_16 : zv_fd RX11 16 11 2 false .int := ⟨RX11, TX11, 72, tyX11, rfl, zin11, by decide, zv_m5 43 (by decide +kernel) rfl, rfl, tyX11_ok, nmX11, rfl, by decide +kernel⟩
theorem zd_X11_19 : zv_fd RX11 19 11 3 false .int := ⟨RX11, TX11, 72, tyX11, rfl, zin11, by decide, zv_m5 44 (by decide +kernel) rfl, rfl, tyX11_ok, nmX11, rfl, by decide +kernel⟩
theorem zd_X11_22 : zv_fd RX11 22 11 4 false .boolean := ⟨RX11, TX11, 72, tyX11, rfl, zin11, by decide, zv_m5 45 (by decide +kernel) rfl, rfl, tyX11_ok, nmX11, rfl, by decide +kernel⟩
theorem zd_X11_26 : zv_fd RX11 26 11 5 true (.array .int) := ⟨RX11, TX11, 72, tyX11, rfl, zin11, by decide, zv_m5 46 (by decide +kernel) rfl, rfl, tyX11_ok, nmX11, rfl, by decide +kernel⟩
theorem zd_X11_30 : zv_fd RX11 30 11 6 true (.array .int) := ⟨RX11, TX11, 72, tyX11, rfl, zin11, by decide, zv_m5 47 (by decide +kernel) rfl, rfl, tyX11_ok, nmX11, rfl, by decide +kernel⟩
theorem zd_X11_33 : zv_fd RX11 33 11 7 true (.array .int) := ⟨RX11, TX11, 72, tyX11, rfl, zin11, by decide, zv_m5 48 (by decide +kernel) rfl, rfl, tyX11_ok, nmX11, rfl, by decide +kernel⟩
theorem zd_X11_36 : zv_fd RX11 36 11 8 true (.array .int) := ⟨RX11, TX11, 72, tyX11, rfl, zin11, by decide, zv_m5 49 (by decide +kernel) rfl, rfl, tyX11_ok, nmX11, rfl, by decide +kernel⟩
theorem zd_X11_39 : zv_fd RX11 39 11 9 false .int := ⟨RX11, TX11, 72, tyX11, rfl, zin11, by decide, zv_m5 50 (by decide +kernel) rfl, rfl, tyX11_ok, nmX11, rfl, by decide +kernel⟩
theorem zd_X11_42 : zv_fd RX11 42 11 10 false .int := ⟨RX11, TX11, 72, tyX11, rfl, zin11, by decide, zv_m5 51 (by decide +kernel) rfl, rfl, tyX11_ok, nmX11, rfl, by decide +kernel⟩
theorem zd_X11_45 : zv_fd RX11 45 11 11 false .int := ⟨RX11, TX11, 72, tyX11, rfl, zin11, by decide, zv_m5 52 (by decide +kernel) rfl, rfl, tyX11_ok, nmX11, rfl, by decide +kernel⟩
theorem zd_X11_48 : zv_fd RX11 48 11 12 false .int := ⟨RX11, TX11, 72, tyX11, rfl, zin11, by decide, zv_m5 53 (by decide +kernel) rfl, rfl, tyX11_ok, nmX11, rfl, by decide +kernel⟩
theorem zd_X11_51 : zv_fd RX11 51 11 13 false .int := ⟨RX11, TX11, 72, tyX11, rfl, zin11, by decide, zv_m5 54 (by decide +kernel) rfl, rfl, tyX11_ok, nmX11, rfl, by decide +kernel⟩
theorem zd_X11_54 : zv_fd RX11 54 11 14 true (.array .int) := ⟨RX11, TX11, 72, tyX11, rfl, zin11, by decide, zv_m5 55 (by decide +kernel) rfl, rfl, tyX11_ok, nmX11, rfl, by decide +kernel⟩
theorem zd_X11_57 : zv_fd RX11 57 11 15 true (.array .int) := ⟨RX11, TX11, 72, tyX11, rfl, zin11, by decide, zv_m5 56 (by decide +kernel) rfl, rfl, tyX11_ok, nmX11, rfl, by decide +kernel⟩
theorem zd_X11_60 : zv_fd RX11 60 11 16 true (.array .int) := ⟨RX11, TX11, 72, tyX11, rfl, zin11, by decide, zv_m5 57 (by decide +kernel) rfl, rfl, tyX11_ok, nmX11, rfl, by decide +kernel⟩
theorem zd_X11_63 : zv_fd RX11 63 11 17 true (.array .int) := ⟨RX11, TX11, 72, tyX11, rfl, zin11, by decide, zv_m5 58 (by decide +kernel) rfl, rfl, tyX11_ok, nmX11, rfl, by decide +kernel⟩
theorem zd_X11_66 : zv_fd RX11 66 11 18 true (.array .int) := ⟨RX11, TX11, 72, tyX11, rfl, zin11, by decide, zv_m5 59 (by decide +kernel) rfl, rfl, tyX11_ok, nmX11, rfl, by decide +kernel⟩
theorem zd_X11_69 : zv_fd RX11 69 11 19 true (.array .int) := ⟨RX11, TX11, 72, tyX11, rfl, zin11, by decide, zv_m5 60 (by decide +kernel) rfl, rfl, tyX11_ok, nmX11, rfl, by decide +kernel⟩
theorem zd_X11_72 : zv_fd RX11 72 11 20 true (.array .int) := ⟨RX11, TX11, 72, tyX11, rfl, zin11, by decide, zv_m5 61 (by decide +kernel) rfl, rfl, tyX11_ok, nmX11, rfl, by decide +kernel⟩
theorem zd_X11_75 : zv_fd RX11 75 11 21 true (.array .int) := ⟨RX11, TX11, 72, tyX11, rfl, zin11, by decide, zv_m5 62 (by decide +kernel) rfl, rfl, tyX11_ok, nmX11, rfl, by decide +kernel⟩
theorem zd_X11_78 : zv_fd RX11 78 11 22 false .int := ⟨RX11, TX11, 72, tyX11, rfl, zin11, by decide, zv_m5 63 (by decide +kernel) rfl, rfl, tyX11_ok, nmX11, rfl, by decide +kernel⟩
theorem zd_X11_81 : zv_fd RX11 81 11 23 false .int := ⟨RX11, TX11, 72, tyX11, rfl, zin11, by decide, zv_m5 64 (by decide +kernel) rfl, rfl, tyX11_ok, nmX11, rfl, by decide +kernel⟩
theorem zd_X11_84 : zv_fd RX11 84 11 24 false .int := ⟨RX11, TX11, 72, tyX11, rfl, zin11, by decide, zv_m5 65 (by decide +kernel) rfl, rfl, tyX11_ok, nmX11, rfl, by decide +kernel⟩
theorem zd_X11_87 : zv_fd RX11 87 11 25 true (.array .int) := ⟨RX11, TX11, 72, tyX11, rfl, zin11, by decide, zv_m5 66 (by decide +kernel) rfl, rfl, tyX11_ok, nmX11, rfl, by decide +kernel⟩
theorem zd_X11_90 : zv_fd RX11 90 11 26 true (.array .boolean) := ⟨RX11, TX11, 72, tyX11, rfl, zin11, by decide, zv_m5 67 (by decide +kernel) rfl, rfl, tyX11_ok, nmX11, rfl, by decide +kernel⟩
theorem zd_X11_94 : zv_fd RX11 94 11 27 true (.array .int) := ⟨RX11, TX11, 72, tyX11, rfl, zin11, by decide, zv_m5 68 (by decide +kernel) rfl, rfl, tyX11_ok, nmX11, rfl, by decide +kernel⟩
theorem zd_X11_97 : zv_fd RX11 97 11 28 true (.array .int) := ⟨RX11, TX11, 72, tyX11, rfl, zin11, by decide, zv_m5 69 (by decide +kernel) rfl, rfl, tyX11_ok, nmX11, rfl, by decide +kernel⟩
theorem zd_X11_100 : zv_fd RX11 100 11 29 true (.array .int) := ⟨RX11, TX11, 72, tyX11, rfl, zin11, by decide, zv_m5 70 (by decide +kernel) rfl, rfl, tyX11_ok, nmX11, rfl, by decide +kernel⟩
theorem zd_X11_103 : zv_fd RX11 103 11 30 true (.array .int) := ⟨RX11, TX11, 72, tyX11, rfl, zin11, by decide, zv_m5 71 (by decide +kernel) rfl, rfl, tyX11_ok, nmX11, rfl, by decide +kernel⟩
theorem zd_X11_106 : zv_fd RX11 106 11 31 true (.array .int) := ⟨RX11, TX11, 72, tyX11, rfl, zin11, by decide, zv_m5 72 (by decide +kernel) rfl, rfl, tyX11_ok, nmX11, rfl, by decide +kernel⟩
theorem zd_X11_109 : zv_fd RX11 109 11 32 true (.array .int) := ⟨RX11, TX11, 72, tyX11, rfl, zin11, by decide, zv_m5 73 (by decide +kernel) rfl, rfl, tyX11_ok, nmX11, rfl, by decide +kernel⟩
theorem zd_X11_112 : zv_fd RX11 112 11 33 true (.array .int) := ⟨RX11, TX11, 72, tyX11, rfl, zin11, by decide, zv_m5 74 (by decide +kernel) rfl, rfl, tyX11_ok, nmX11, rfl, by decide +kernel⟩
theorem zd_X11_115 : zv_fd RX11 115 11 34 true (.array .int) := ⟨RX11, TX11, 72, tyX11, rfl, zin11, by decide, zv_m5 75 (by decide +kernel) rfl, rfl, tyX11_ok, nmX11, rfl, by decide +kernel⟩
theorem zd_X11_118 : zv_fd RX11 118 11 35 false .int := ⟨RX11, TX11, 72, tyX11, rfl, zin11, by decide, zv_m5 76 (by decide +kernel) rfl, rfl, tyX11_ok, nmX11, rfl, by decide +kernel⟩
theorem zd_X11_121 : zv_fd RX11 121 11 36 false .int := ⟨RX11, TX11, 72, tyX11, rfl, zin11, by decide, zv_m5 77 (by decide +kernel) rfl, rfl, tyX11_ok, nmX11, rfl, by decide +kernel⟩
theorem zd_X11_124 : zv_fd RX11 124 11 37 true (.array .int) := ⟨RX11, TX11, 72, tyX11, rfl, zin11, by decide, zv_m5 78 (by decide +kernel) rfl, rfl, tyX11_ok, nmX11, rfl, by decide +kernel⟩
theorem zd_X11_127 : zv_fd RX11 127 11 38 false .int := ⟨RX11, TX11, 72, tyX11, rfl, zin11, by decide, zv_m5 79 (by decide +kernel) rfl, rfl, tyX11_ok, nmX11, rfl, by decide +kernel⟩
theorem zd_X11_130 : zv_fd RX11 130 11 39 true (.array .int) := ⟨RX11, TX11, 72, tyX11, rfl, zin11, by decide, zv_m5 80 (by decide +kernel) rfl, rfl, tyX11_ok, nmX11, rfl, by decide +kernel⟩
theorem zd_X11_133 : zv_fd RX11 133 11 40 true (.array .int) := ⟨RX11, TX11, 72, tyX11, rfl, zin11, by decide, zv_m5 81 (by decide +kernel) rfl, rfl, tyX11_ok, nmX11, rfl, by decide +kernel⟩
theorem zd_X11_136 : zv_fd RX11 136 11 41 true (.array .boolean) := ⟨RX11, TX11, 72, tyX11, rfl, zin11, by decide, zv_m5 82 (by decide +kernel) rfl, rfl, tyX11_ok, nmX11, rfl, by decide +kernel⟩
theorem zd_X11_139 : zv_fd RX11 139 11 42 false .int := ⟨RX11, TX11, 72, tyX11, rfl, zin11, by decide, zv_m5 83 (by decide +kernel) rfl, rfl, tyX11_ok, nmX11, rfl, by decide +kernel⟩
theorem zd_X11_142 : zv_fd RX11 142 11 43 true (.array .int) := ⟨RX11, TX11, 72, tyX11, rfl, zin11, by decide, zv_m5 84 (by decide +kernel) rfl, rfl, tyX11_ok, nmX11, rfl, by decide +kernel⟩
theorem zd_X11_145 : zv_fd RX11 145 11 44 true (.array .int) := ⟨RX11, TX11, 72, tyX11, rfl, zin11, by decide, zv_m5 85 (by decide +kernel) rfl, rfl, tyX11_ok, nmX11, rfl, by decide +kernel⟩
theorem zd_X11_148 : zv_fd RX11 148 11 45 true (.array .int) := ⟨RX11, TX11, 72, tyX11, rfl, zin11, by decide, zv_m5 86 (by decide +kernel) rfl, rfl, tyX11_ok, nmX11, rfl, by decide +kernel⟩
theorem zd_X11_151 : zv_fd RX11 151 11 46 true (.array .int) := ⟨RX11, TX11, 72, tyX11, rfl, zin11, by decide, zv_m5 87 (by decide +kernel) rfl, rfl, tyX11_ok, nmX11, rfl, by decide +kernel⟩
theorem zd_X11_154 : zv_fd RX11 154 11 47 false .int := ⟨RX11, TX11, 72, tyX11, rfl, zin11, by decide, zv_m5 88 (by decide +kernel) rfl, rfl, tyX11_ok, nmX11, rfl, by decide +kernel⟩
theorem zd_X11_157 : zv_fd RX11 157 11 48 true (.array .int) := ⟨RX11, TX11, 72, tyX11, rfl, zin11, by decide, zv_m5 89 (by decide +kernel) rfl, rfl, tyX11_ok, nmX11, rfl, by decide +kernel⟩
theorem zd_X11_160 : zv_fd RX11 160 11 49 true (.array .int) := ⟨RX11, TX11, 72, tyX11, rfl, zin11, by decide, zv_m5 90 (by decide +kernel) rfl, rfl, tyX11_ok, nmX11, rfl, by decide +kernel⟩
theorem zd_X11_163 : zv_fd RX11 163 11 50 false .int := ⟨RX11, TX11, 72, tyX11, rfl, zin11, by decide, zv_m5 91 (by decide +kernel) rfl, rfl, tyX11_ok, nmX11, rfl, by decide +kernel⟩
theorem zd_X11_166 : zv_fd RX11 166 11 51 true (.array .int) := ⟨RX11, TX11, 72, tyX11, rfl, zin11, by decide, zv_m5 92 (by decide +kernel) rfl, rfl, tyX11_ok, nmX11, rfl, by decide +kernel⟩
theorem zd_X11_169 : zv_fd RX11 169 11 52 false .boolean := ⟨RX11, TX11, 72, tyX11, rfl, zin11, by decide, zv_m5 93 (by decide +kernel) rfl, rfl, tyX11_ok, nmX11, rfl, by decide +kernel⟩
theorem zd_X11_172 : zv_fd RX11 172 11 53 false .int := ⟨RX11, TX11, 72, tyX11, rfl, zin11, by decide, zv_m5 94 (by decide +kernel) rfl, rfl, tyX11_ok, nmX11, rfl, by decide +kernel⟩
theorem zd_X11_175 : zv_fd RX11 175 11 54 false .int := ⟨RX11, TX11, 72, tyX11, rfl, zin11, by decide, zv_m5 95 (by decide +kernel) rfl, rfl, tyX11_ok, nmX11, rfl, by decide +kernel⟩
theorem zd_X11_178 : zv_fd RX11 178 11 55 false .int := ⟨RX11, TX11, 72, tyX11, rfl, zin11, by decide, zv_m5 96 (by decide +kernel) rfl, rfl, tyX11_ok, nmX11, rfl, by decide +kernel⟩
theorem zd_X11_181 : zv_fd RX11 181 11 56 false .int := ⟨RX11, TX11, 72, tyX11, rfl, zin11, by decide, zv_m5 97 (by decide +kernel) rfl, rfl, tyX11_ok, nmX11, rfl, by decide +kernel⟩
theorem zd_X11_184 : zv_fd RX11 184 11 57 false .int := ⟨RX11, TX11, 72, tyX11, rfl, zin11, by decide, zv_m5 98 (by decide +kernel) rfl, rfl, tyX11_ok, nmX11, rfl, by decide +kernel⟩
theorem zd_X11_187 : zv_fd RX11 187 11 58 true (.array .int) := ⟨RX11, TX11, 72, tyX11, rfl, zin11, by decide, zv_m5 99 (by decide +kernel) rfl, rfl, tyX11_ok, nmX11, rfl, by decide +kernel⟩
theorem zd_X11_190 : zv_fd RX11 190 11 59 true (.array .int) := ⟨RX11, TX11, 72, tyX11, rfl, zin11, by decide, zv_m5 100 (by decide +kernel) rfl, rfl, tyX11_ok, nmX11, rfl, by decide +kernel⟩
theorem zd_X11_193 : zv_fd RX11 193 11 60 true (.array .int) := ⟨RX11, TX11, 72, tyX11, rfl, zin11, by decide, zv_m5 101 (by decide +kernel) rfl, rfl, tyX11_ok, nmX11, rfl, by decide +kernel⟩
theorem zd_X11_196 : zv_fd RX11 196 11 61 true (.array .int) := ⟨RX11, TX11, 72, tyX11, rfl, zin11, by decide, zv_m5 102 (by decide +kernel) rfl, rfl, tyX11_ok, nmX11, rfl, by decide +kernel⟩
theorem zd_X11_199 : zv_fd RX11 199 11 62 true (.array .int) := ⟨RX11, TX11, 72, tyX11, rfl, zin11, by decide, zv_m5 103 (by decide +kernel) rfl, rfl, tyX11_ok, nmX11, rfl, by decide +kernel⟩
theorem zd_X11_202 : zv_fd RX11 202 11 63 true (.array .int) := ⟨RX11, TX11, 72, tyX11, rfl, zin11, by decide, zv_m5 104 (by decide +kernel) rfl, rfl, tyX11_ok, nmX11, rfl, by decide +kernel⟩
theorem zd_X11_205 : zv_fd RX11 205 11 64 true (.array .int) := ⟨RX11, TX11, 72, tyX11, rfl, zin11, by decide, zv_m5 105 (by decide +kernel) rfl, rfl, tyX11_ok, nmX11, rfl, by decide +kernel⟩
theorem zd_X11_208 : zv_fd RX11 208 11 65 true (.array .int) := ⟨RX11, TX11, 72, tyX11, rfl, zin11, by decide, zv_m5 106 (by decide +kernel) rfl, rfl, tyX11_ok, nmX11, rfl, by decide +kernel⟩
theorem zd_X11_211 : zv_fd RX11 211 11 66 false .int := ⟨RX11, TX11, 72, tyX11, rfl, zin11, by decide, zv_m5 107 (by decide +kernel) rfl, rfl, tyX11_ok, nmX11, rfl, by decide +kernel⟩
theorem zd_X11_214 : zv_fd RX11 214 11 67 true (.array .int) := ⟨RX11, TX11, 72, tyX11, rfl, zin11, by decide, zv_m5 108 (by decide +kernel) rfl, rfl, tyX11_ok, nmX11, rfl, by decide +kernel⟩
theorem zd_X11_217 : zv_fd RX11 217 11 68 true (.array .int) := ⟨RX11, TX11, 72, tyX11, rfl, zin11, by decide, zv_m5 109 (by decide +kernel) rfl, rfl, tyX11_ok, nmX11, rfl, by decide +kernel⟩
theorem zd_X11_220 : zv_fd RX11 220 11 69 true (.array .int) := ⟨RX11, TX11, 72, tyX11, rfl, zin11, by decide, zv_m5 110 (by decide +kernel) rfl, rfl, tyX11_ok, nmX11, rfl, by decide +kernel⟩
theorem zd_X11_223 : zv_fd RX11 223 11 70 true (.array .long) := ⟨RX11, TX11, 72, tyX11, rfl, zin11, by decide, zv_m5 111 (by decide +kernel) rfl, rfl, tyX11_ok, nmX11, rfl, by decide +kernel⟩
theorem zd_X11_227 : zv_fd RX11 227 11 71 true (.array .long) := ⟨RX11, TX11, 72, tyX11, rfl, zin11, by decide, zv_m5 112 (by decide +kernel) rfl, rfl, tyX11_ok, nmX11, rfl, by decide +kernel⟩
theorem my_X10_act : zv_my yX10_act cX10_act 4 (some .int) 3 := ⟨zv_m4 193 (by decide +kernel) rfl, zv_m1 1 (by decide +kernel) rfl, by decide +kernel, by decide⟩
theorem my_X10_after : zv_my yX10_after cX10_after 3 (some .int) 2 := ⟨zv_m3 215 (by decide +kernel) rfl, zv_m1 1 (by decide +kernel) rfl, by decide +kernel, by decide⟩
theorem my_X10_aim : zv_my yX10_aim cX10_aim 2 (some .int) 1 := ⟨zv_m4 62 (by decide +kernel) rfl, zv_m1 1 (by decide +kernel) rfl, by decide +kernel, by decide⟩
theorem my_X10_alike : zv_my yX10_alike cX10_alike 3 (some .int) 0 := ⟨zv_m4 58 (by decide +kernel) rfl, zv_m1 1 (by decide +kernel) rfl, by decide +kernel, by decide⟩
theorem my_X10_allSquares : zv_my yX10_allSquares cX10_allSquares 1 (some .int) 1 := ⟨zv_m3 1 (by decide +kernel) rfl, zv_m1 1 (by decide +kernel) rfl, by decide +kernel, by decide⟩
theorem my_X10_at : zv_my yX10_at cX10_at 4 (some .int) 2 := ⟨zv_m3 160 (by decide +kernel) rfl, zv_m1 1 (by decide +kernel) rfl, by decide +kernel, by decide⟩
theorem my_X10_book : zv_my yX10_book cX10_book 2 (some .int) 1 := ⟨zv_m4 131 (by decide +kernel) rfl, zv_m1 1 (by decide +kernel) rfl, by decide +kernel, by decide⟩
theorem my_X10_clear : zv_my yX10_clear cX10_clear 2 (some .int) 0 := ⟨zv_m3 172 (by decide +kernel) rfl, zv_m1 1 (by decide +kernel) rfl, by decide +kernel, by decide⟩
theorem my_X10_count : zv_my yX10_count cX10_count 2 (some .int) 1 := ⟨zv_m4 233 (by decide +kernel) rfl, zv_m1 1 (by decide +kernel) rfl, by decide +kernel, by decide⟩
theorem my_X10_feed : zv_my yX10_feed cX10_feed 2 (some .int) 1 := ⟨zv_m2 128 (by decide +kernel) rfl, zv_m1 1 (by decide +kernel) rfl, by decide +kernel, by decide⟩
theorem my_X10_fitting : zv_my yX10_fitting cX10_fitting 6 (some .int) 1 := ⟨zv_m3 138 (by decide +kernel) rfl, zv_m1 1 (by decide +kernel) rfl, by decide +kernel, by decide⟩
theorem my_X10_fraction : zv_my yX10_fraction cX10_fraction 7 (some .long) 3 := ⟨zv_m4 119 (by decide +kernel) rfl, zv_m1 1 (by decide +kernel) rfl, by decide +kernel, by decide⟩
theorem my_X10_game : zv_my yX10_game cX10_game 3 (some .int) 1 := ⟨zv_m4 29 (by decide +kernel) rfl, zv_m1 1 (by decide +kernel) rfl, by decide +kernel, by decide⟩
theorem my_X10_ground : zv_my yX10_ground cX10_ground 1 (some (.object "NoneSees$Yard")) 0 := ⟨zv_m3 33 (by decide +kernel) rfl, zv_m1 1 (by decide +kernel) rfl, by decide +kernel, by decide⟩
theorem my_X10_hold : zv_my yX10_hold cX10_hold 8 (some .int) 2 := ⟨zv_m4 1 (by decide +kernel) rfl, zv_m1 1 (by decide +kernel) rfl, by decide +kernel, by decide⟩
theorem my_X10_image : zv_my yX10_image cX10_image 1 (some .int) 0 := ⟨zv_m4 174 (by decide +kernel) rfl, zv_m1 1 (by decide +kernel) rfl, by decide +kernel, by decide⟩
theorem my_X10_isIn : zv_my yX10_isIn cX10_isIn 2 (some .boolean) 2 := ⟨zv_m3 94 (by decide +kernel) rfl, zv_m1 1 (by decide +kernel) rfl, by decide +kernel, by decide⟩
theorem my_X10_isKind : zv_my yX10_isKind cX10_isKind 1 (some .boolean) 1 := ⟨zv_m2 90 (by decide +kernel) rfl, zv_m1 1 (by decide +kernel) rfl, by decide +kernel, by decide⟩
theorem my_X10_isPlan : zv_my yX10_isPlan cX10_isPlan 2 (some .boolean) 1 := ⟨zv_m2 108 (by decide +kernel) rfl, zv_m1 1 (by decide +kernel) rfl, by decide +kernel, by decide⟩
theorem my_X10_isSquare : zv_my yX10_isSquare cX10_isSquare 3 (some .boolean) 1 := ⟨zv_m3 120 (by decide +kernel) rfl, zv_m1 1 (by decide +kernel) rfl, by decide +kernel, by decide⟩
theorem my_X10_isUnder : zv_my yX10_isUnder cX10_isUnder 4 (some .boolean) 2 := ⟨zv_m4 229 (by decide +kernel) rfl, zv_m1 1 (by decide +kernel) rfl, by decide +kernel, by decide⟩
theorem my_X10_item : zv_my yX10_item cX10_item 5 (some .int) 3 := ⟨zv_m5 7 (by decide +kernel) rfl, zv_m1 1 (by decide +kernel) rfl, by decide +kernel, by decide⟩
theorem my_X10_joinMen : zv_my yX10_joinMen cX10_joinMen 1 none 0 := ⟨zv_m3 47 (by decide +kernel) rfl, zv_m1 1 (by decide +kernel) rfl, by decide +kernel, by decide⟩
theorem my_X10_judge : zv_my yX10_judge cX10_judge 3 (some .int) 2 := ⟨zv_m4 139 (by decide +kernel) rfl, zv_m1 1 (by decide +kernel) rfl, by decide +kernel, by decide⟩
theorem my_X10_judged : zv_my yX10_judged cX10_judged 6 (some .int) 2 := ⟨zv_m4 156 (by decide +kernel) rfl, zv_m1 1 (by decide +kernel) rfl, by decide +kernel, by decide⟩
theorem my_X10_leastHolders : zv_my yX10_leastHolders cX10_leastHolders 8 (some .int) 6 := ⟨zv_m4 13 (by decide +kernel) rfl, zv_m1 1 (by decide +kernel) rfl, by decide +kernel, by decide⟩
theorem my_X10_leastLinked : zv_my yX10_leastLinked cX10_leastLinked 5 (some .int) 2 := ⟨zv_m3 233 (by decide +kernel) rfl, zv_m1 1 (by decide +kernel) rfl, by decide +kernel, by decide⟩
theorem my_X10_leastRemoved : zv_my yX10_leastRemoved cX10_leastRemoved 9 (some .int) 3 := ⟨zv_m4 24 (by decide +kernel) rfl, zv_m1 1 (by decide +kernel) rfl, by decide +kernel, by decide⟩
theorem my_X10_lookByMen : zv_my yX10_lookByMen cX10_lookByMen 3 none 0 := ⟨zv_m3 51 (by decide +kernel) rfl, zv_m1 1 (by decide +kernel) rfl, by decide +kernel, by decide⟩
theorem my_X10_lookByPlan : zv_my yX10_lookByPlan cX10_lookByPlan 4 none 1 := ⟨zv_m3 142 (by decide +kernel) rfl, zv_m1 1 (by decide +kernel) rfl, by decide +kernel, by decide⟩
theorem my_X10_looked : zv_my yX10_looked cX10_looked 2 (some .int) 0 := ⟨zv_m4 135 (by decide +kernel) rfl, zv_m1 1 (by decide +kernel) rfl, by decide +kernel, by decide⟩
theorem my_X10_looksSame : zv_my yX10_looksSame cX10_looksSame 3 (some .boolean) 1 := ⟨zv_m4 50 (by decide +kernel) rfl, zv_m1 1 (by decide +kernel) rfl, by decide +kernel, by decide⟩
theorem my_X10_makesSeenSo : zv_my yX10_makesSeenSo cX10_makesSeenSo 5 (some .boolean) 1 := ⟨zv_m4 111 (by decide +kernel) rfl, zv_m1 1 (by decide +kernel) rfl, by decide +kernel, by decide⟩
theorem my_X10_mean : zv_my yX10_mean cX10_mean 2 (some .long) 1 := ⟨zv_m4 123 (by decide +kernel) rfl, zv_m1 1 (by decide +kernel) rfl, by decide +kernel, by decide⟩
theorem my_X10_more : zv_my yX10_more cX10_more 2 (some .int) 1 := ⟨zv_m4 17 (by decide +kernel) rfl, zv_m1 1 (by decide +kernel) rfl, by decide +kernel, by decide⟩
theorem my_X10_most : zv_my yX10_most cX10_most 3 (some .int) 1 := ⟨zv_m3 227 (by decide +kernel) rfl, zv_m1 1 (by decide +kernel) rfl, by decide +kernel, by decide⟩
theorem my_X10_mostApart : zv_my yX10_mostApart cX10_mostApart 8 (some .int) 3 := ⟨zv_m3 230 (by decide +kernel) rfl, zv_m1 1 (by decide +kernel) rfl, by decide +kernel, by decide⟩
theorem my_X10_mostLinked : zv_my yX10_mostLinked cX10_mostLinked 5 (some .int) 2 := ⟨zv_m3 236 (by decide +kernel) rfl, zv_m1 1 (by decide +kernel) rfl, by decide +kernel, by decide⟩
theorem my_X10_odds : zv_my yX10_odds cX10_odds 3 (some .long) 2 := ⟨zv_m4 115 (by decide +kernel) rfl, zv_m1 1 (by decide +kernel) rfl, by decide +kernel, by decide⟩
theorem my_X10_of : zv_my yX10_of cX10_of 3 (some .int) 2 := ⟨zv_m2 104 (by decide +kernel) rfl, zv_m1 1 (by decide +kernel) rfl, by decide +kernel, by decide⟩
theorem my_X10_openSquares : zv_my yX10_openSquares cX10_openSquares 1 (some .int) 0 := ⟨zv_m3 124 (by decide +kernel) rfl, zv_m1 1 (by decide +kernel) rfl, by decide +kernel, by decide⟩
theorem my_X10_plan : zv_my yX10_plan cX10_plan 3 (some .int) 2 := ⟨zv_m2 87 (by decide +kernel) rfl, zv_m1 1 (by decide +kernel) rfl, by decide +kernel, by decide⟩
theorem my_X10_prepareRowSearch : zv_my yX10_prepareRowSearch cX10_prepareRowSearch 3 none 1 := ⟨zv_m3 185 (by decide +kernel) rfl, zv_m1 1 (by decide +kernel) rfl, by decide +kernel, by decide⟩
theorem my_X10_reach : zv_my yX10_reach cX10_reach 2 (some .int) 0 := ⟨zv_m4 71 (by decide +kernel) rfl, zv_m1 1 (by decide +kernel) rfl, by decide +kernel, by decide⟩
theorem my_X10_read : zv_my yX10_read cX10_read 3 (some .long) 2 := ⟨zv_m5 18 (by decide +kernel) rfl, zv_m1 1 (by decide +kernel) rfl, by decide +kernel, by decide⟩
theorem my_X10_right : zv_my yX10_right cX10_right 4 (some .int) 1 := ⟨zv_m4 21 (by decide +kernel) rfl, zv_m1 1 (by decide +kernel) rfl, by decide +kernel, by decide⟩
theorem my_X10_row : zv_my yX10_row cX10_row 6 (some .int) 3 := ⟨zv_m2 120 (by decide +kernel) rfl, zv_m1 1 (by decide +kernel) rfl, by decide +kernel, by decide⟩
theorem my_X10_rubbed : zv_my yX10_rubbed cX10_rubbed 5 (some .int) 1 := ⟨zv_m4 107 (by decide +kernel) rfl, zv_m1 1 (by decide +kernel) rfl, by decide +kernel, by decide⟩
theorem my_X10_see : zv_my yX10_see cX10_see 3 (some .int) 2 := ⟨zv_m4 102 (by decide +kernel) rfl, zv_m1 1 (by decide +kernel) rfl, by decide +kernel, by decide⟩
theorem my_X10_sees : zv_my yX10_sees cX10_sees 3 (some .int) 2 := ⟨zv_m3 168 (by decide +kernel) rfl, zv_m1 1 (by decide +kernel) rfl, by decide +kernel, by decide⟩
theorem my_X10_set : zv_my yX10_set cX10_set 4 (some .int) 2 := ⟨zv_m3 116 (by decide +kernel) rfl, zv_m1 1 (by decide +kernel) rfl, by decide +kernel, by decide⟩
theorem my_X10_shift : zv_my yX10_shift cX10_shift 6 (some .int) 5 := ⟨zv_m5 22 (by decide +kernel) rfl, zv_m1 1 (by decide +kernel) rfl, by decide +kernel, by decide⟩
theorem my_X10_take : zv_my yX10_take cX10_take 3 (some .int) 1 := ⟨zv_m3 156 (by decide +kernel) rfl, zv_m1 1 (by decide +kernel) rfl, by decide +kernel, by decide⟩
theorem my_X10_taken : zv_my yX10_taken cX10_taken 4 (some .int) 2 := ⟨zv_m4 226 (by decide +kernel) rfl, zv_m1 1 (by decide +kernel) rfl, by decide +kernel, by decide⟩
theorem my_X10_tape : zv_my yX10_tape cX10_tape 4 (some .int) 3 := ⟨zv_m4 237 (by decide +kernel) rfl, zv_m1 1 (by decide +kernel) rfl, by decide +kernel, by decide⟩
theorem my_X10_told : zv_my yX10_told cX10_told 3 (some .int) 1 := ⟨zv_m3 29 (by decide +kernel) rfl, zv_m1 1 (by decide +kernel) rfl, by decide +kernel, by decide⟩
theorem my_X10_trace : zv_my yX10_trace cX10_trace 2 (some .int) 1 := ⟨zv_m4 222 (by decide +kernel) rfl, zv_m1 1 (by decide +kernel) rfl, by decide +kernel, by decide⟩
theorem my_X10_turned : zv_my yX10_turned cX10_turned 2 (some .int) 1 := ⟨zv_m4 46 (by decide +kernel) rfl, zv_m1 1 (by decide +kernel) rfl, by decide +kernel, by decide⟩
theorem my_X10_undo : zv_my yX10_undo cX10_undo 1 (some .int) 0 := ⟨zv_m4 189 (by decide +kernel) rfl, zv_m1 1 (by decide +kernel) rfl, by decide +kernel, by decide⟩
theorem my_X10_viewOf : zv_my yX10_viewOf cX10_viewOf 3 (some .int) 2 := ⟨zv_m3 59 (by decide +kernel) rfl, zv_m1 1 (by decide +kernel) rfl, by decide +kernel, by decide⟩
theorem my_X10_ways : zv_my yX10_ways cX10_ways 3 (some .int) 2 := ⟨zv_m3 181 (by decide +kernel) rfl, zv_m1 1 (by decide +kernel) rfl, by decide +kernel, by decide⟩
theorem my_X10_worst : zv_my yX10_worst cX10_worst 1 (some .int) 0 := ⟨zv_m3 177 (by decide +kernel) rfl, zv_m1 1 (by decide +kernel) rfl, by decide +kernel, by decide⟩
theorem my_X10_yard : zv_my yX10_yard cX10_yard 2 (some .int) 0 := ⟨zv_m2 140 (by decide +kernel) rfl, zv_m1 1 (by decide +kernel) rfl, by decide +kernel, by decide⟩
theorem my_X0_answerOf : zv_my yX0_answerOf cX0_answerOf 5 (some .int) 4 := ⟨zv_m4 218 (by decide +kernel) rfl, zv_m1 12 (by decide +kernel) rfl, by decide +kernel, by decide⟩
theorem my_X0_bodyOf : zv_my yX0_bodyOf cX0_bodyOf 3 (some .int) 2 := ⟨zv_m4 211 (by decide +kernel) rfl, zv_m1 12 (by decide +kernel) rfl, by decide +kernel, by decide⟩
theorem my_X0_forget : zv_my yX0_forget cX0_forget 1 none 0 := ⟨zv_m4 197 (by decide +kernel) rfl, zv_m1 12 (by decide +kernel) rfl, by decide +kernel, by decide⟩
theorem my_X0_run : zv_my yX0_run cX0_run 7 (some .int) 4 := ⟨zv_m4 206 (by decide +kernel) rfl, zv_m1 12 (by decide +kernel) rfl, by decide +kernel, by decide⟩
theorem my_X0_start : zv_my yX0_start cX0_start 6 (some .int) 5 := ⟨zv_m4 202 (by decide +kernel) rfl, zv_m1 12 (by decide +kernel) rfl, by decide +kernel, by decide⟩
theorem my_X1_firstWins : zv_my yX1_firstWins cX1_firstWins 7 (some .boolean) 2 := ⟨zv_m4 33 (by decide +kernel) rfl, zv_m1 10 (by decide +kernel) rfl, by decide +kernel, by decide⟩
theorem my_X1_gather : zv_my yX1_gather cX1_gather 4 (some .int) 1 := ⟨zv_m4 37 (by decide +kernel) rfl, zv_m1 10 (by decide +kernel) rfl, by decide +kernel, by decide⟩
theorem my_X1_goneBy : zv_my yX1_goneBy cX1_goneBy 7 (some .int) 3 := ⟨zv_m4 42 (by decide +kernel) rfl, zv_m1 10 (by decide +kernel) rfl, by decide +kernel, by decide⟩
theorem my_X2_add : zv_my yX2_add cX2_add 2 none 1 := ⟨zv_m2 100 (by decide +kernel) rfl, zv_m1 3 (by decide +kernel) rfl, by decide +kernel, by decide⟩
theorem my_X2_becomes : zv_my yX2_becomes cX2_becomes 3 none 1 := ⟨zv_m4 182 (by decide +kernel) rfl, zv_m1 3 (by decide +kernel) rfl, by decide +kernel, by decide⟩
theorem my_X2_contains : zv_my yX2_contains cX2_contains 3 (some .boolean) 1 := ⟨zv_m4 67 (by decide +kernel) rfl, zv_m1 3 (by decide +kernel) rfl, by decide +kernel, by decide⟩
theorem my_X2_drop : zv_my yX2_drop cX2_drop 1 none 0 := ⟨zv_m3 21 (by decide +kernel) rfl, zv_m1 3 (by decide +kernel) rfl, by decide +kernel, by decide⟩
theorem my_X2_get : zv_my yX2_get cX2_get 2 (some .int) 1 := ⟨zv_m2 112 (by decide +kernel) rfl, zv_m1 3 (by decide +kernel) rfl, by decide +kernel, by decide⟩
theorem my_X2_isFull : zv_my yX2_isFull cX2_isFull 1 (some .boolean) 0 := ⟨zv_m2 96 (by decide +kernel) rfl, zv_m1 3 (by decide +kernel) rfl, by decide +kernel, by decide⟩
theorem my_X2_put : zv_my yX2_put cX2_put 3 none 2 := ⟨zv_m2 124 (by decide +kernel) rfl, zv_m1 3 (by decide +kernel) rfl, by decide +kernel, by decide⟩
theorem my_X3_countAll : zv_my yX3_countAll cX3_countAll 1 none 0 := ⟨zv_m3 194 (by decide +kernel) rfl, zv_m1 9 (by decide +kernel) rfl, by decide +kernel, by decide⟩
theorem my_X3_findNext : zv_my yX3_findNext cX3_findNext 1 none 0 := ⟨zv_m3 223 (by decide +kernel) rfl, zv_m1 9 (by decide +kernel) rfl, by decide +kernel, by decide⟩
theorem my_X3_firstAt : zv_my yX3_firstAt cX3_firstAt 2 (some .int) 1 := ⟨zv_m3 211 (by decide +kernel) rfl, zv_m1 9 (by decide +kernel) rfl, by decide +kernel, by decide⟩
theorem my_X3_goBehind : zv_my yX3_goBehind cX3_goBehind 4 none 3 := ⟨zv_m3 203 (by decide +kernel) rfl, zv_m1 9 (by decide +kernel) rfl, by decide +kernel, by decide⟩
theorem my_X3_goOn : zv_my yX3_goOn cX3_goOn 6 none 3 := ⟨zv_m3 198 (by decide +kernel) rfl, zv_m1 9 (by decide +kernel) rfl, by decide +kernel, by decide⟩
theorem my_X3_noteWay : zv_my yX3_noteWay cX3_noteWay 2 none 0 := ⟨zv_m3 207 (by decide +kernel) rfl, zv_m1 9 (by decide +kernel) rfl, by decide +kernel, by decide⟩
theorem my_X3_prepare : zv_my yX3_prepare cX3_prepare 5 none 3 := ⟨zv_m3 189 (by decide +kernel) rfl, zv_m1 9 (by decide +kernel) rfl, by decide +kernel, by decide⟩
theorem my_X3_startBehind : zv_my yX3_startBehind cX3_startBehind 5 (some .boolean) 1 := ⟨zv_m3 219 (by decide +kernel) rfl, zv_m1 9 (by decide +kernel) rfl, by decide +kernel, by decide⟩
theorem my_X4_addOwnSquares : zv_my yX4_addOwnSquares cX4_addOwnSquares 2 none 0 := ⟨zv_m4 5 (by decide +kernel) rfl, zv_m1 8 (by decide +kernel) rfl, by decide +kernel, by decide⟩
theorem my_X4_allSeen : zv_my yX4_allSeen cX4_allSeen 3 (some .int) 0 := ⟨zv_m4 127 (by decide +kernel) rfl, zv_m1 8 (by decide +kernel) rfl, by decide +kernel, by decide⟩
theorem my_X4_join : zv_my yX4_join cX4_join 4 none 1 := ⟨zv_m3 102 (by decide +kernel) rfl, zv_m1 8 (by decide +kernel) rfl, by decide +kernel, by decide⟩
theorem my_X4_mostJoined : zv_my yX4_mostJoined cX4_mostJoined 4 (some .int) 0 := ⟨zv_m3 111 (by decide +kernel) rfl, zv_m1 8 (by decide +kernel) rfl, by decide +kernel, by decide⟩
theorem my_X4_mostSeen : zv_my yX4_mostSeen cX4_mostSeen 3 (some .int) 0 := ⟨zv_m4 9 (by decide +kernel) rfl, zv_m1 8 (by decide +kernel) rfl, by decide +kernel, by decide⟩
theorem my_X4_put : zv_my yX4_put cX4_put 3 none 2 := ⟨zv_m3 98 (by decide +kernel) rfl, zv_m1 8 (by decide +kernel) rfl, by decide +kernel, by decide⟩
theorem my_X4_seersOf : zv_my yX4_seersOf cX4_seersOf 4 (some .int) 1 := ⟨zv_m3 164 (by decide +kernel) rfl, zv_m1 8 (by decide +kernel) rfl, by decide +kernel, by decide⟩
theorem my_X4_together : zv_my yX4_together cX4_together 3 (some .int) 0 := ⟨zv_m3 147 (by decide +kernel) rfl, zv_m1 8 (by decide +kernel) rfl, by decide +kernel, by decide⟩
theorem my_X4_viewFrom : zv_my yX4_viewFrom cX4_viewFrom 2 (some .int) 1 := ⟨zv_m3 107 (by decide +kernel) rfl, zv_m1 8 (by decide +kernel) rfl, by decide +kernel, by decide⟩
theorem my_X5_becomes : zv_my yX5_becomes cX5_becomes 3 none 1 := ⟨zv_m4 178 (by decide +kernel) rfl, zv_m1 2 (by decide +kernel) rfl, by decide +kernel, by decide⟩
theorem my_X5_dropSeen : zv_my yX5_dropSeen cX5_dropSeen 1 none 0 := ⟨zv_m3 25 (by decide +kernel) rfl, zv_m1 2 (by decide +kernel) rfl, by decide +kernel, by decide⟩
theorem my_X5_leaveBoard : zv_my yX5_leaveBoard cX5_leaveBoard 1 none 0 := ⟨zv_m3 13 (by decide +kernel) rfl, zv_m1 2 (by decide +kernel) rfl, by decide +kernel, by decide⟩
theorem my_X5_manOn : zv_my yX5_manOn cX5_manOn 2 (some .int) 1 := ⟨zv_m3 55 (by decide +kernel) rfl, zv_m1 2 (by decide +kernel) rfl, by decide +kernel, by decide⟩
theorem my_X5_menBits : zv_my yX5_menBits cX5_menBits 3 (some .int) 0 := ⟨zv_m3 37 (by decide +kernel) rfl, zv_m1 2 (by decide +kernel) rfl, by decide +kernel, by decide⟩
theorem my_X5_menOf : zv_my yX5_menOf cX5_menOf 4 (some .int) 1 := ⟨zv_m2 116 (by decide +kernel) rfl, zv_m1 2 (by decide +kernel) rfl, by decide +kernel, by decide⟩
theorem my_X5_putMan : zv_my yX5_putMan cX5_putMan 3 none 2 := ⟨zv_m3 152 (by decide +kernel) rfl, zv_m1 2 (by decide +kernel) rfl, by decide +kernel, by decide⟩
theorem my_X5_takeAllMen : zv_my yX5_takeAllMen cX5_takeAllMen 1 none 0 := ⟨zv_m3 17 (by decide +kernel) rfl, zv_m1 2 (by decide +kernel) rfl, by decide +kernel, by decide⟩
theorem my_X6_become : zv_my yX6_become cX6_become 5 none 3 := ⟨zv_m5 1 (by decide +kernel) rfl, zv_m1 13 (by decide +kernel) rfl, by decide +kernel, by decide⟩
theorem my_X6_fitted : zv_my yX6_fitted cX6_fitted 3 (some .long) 2 := ⟨zv_m5 14 (by decide +kernel) rfl, zv_m1 13 (by decide +kernel) rfl, by decide +kernel, by decide⟩
theorem my_X6_get : zv_my yX6_get cX6_get 3 (some .long) 2 := ⟨zv_m4 168 (by decide +kernel) rfl, zv_m1 13 (by decide +kernel) rfl, by decide +kernel, by decide⟩
theorem my_X6_hasRun : zv_my yX6_hasRun cX6_hasRun 4 (some .boolean) 3 := ⟨zv_m5 26 (by decide +kernel) rfl, zv_m1 13 (by decide +kernel) rfl, by decide +kernel, by decide⟩
theorem my_X6_holdsNothing : zv_my yX6_holdsNothing cX6_holdsNothing 2 (some .boolean) 1 := ⟨zv_m4 147 (by decide +kernel) rfl, zv_m1 13 (by decide +kernel) rfl, by decide +kernel, by decide⟩
theorem my_X6_isPlace : zv_my yX6_isPlace cX6_isPlace 3 (some .boolean) 2 := ⟨zv_m4 160 (by decide +kernel) rfl, zv_m1 13 (by decide +kernel) rfl, by decide +kernel, by decide⟩
theorem my_X6_isTape : zv_my yX6_isTape cX6_isTape 2 (some .boolean) 1 := ⟨zv_m4 143 (by decide +kernel) rfl, zv_m1 13 (by decide +kernel) rfl, by decide +kernel, by decide⟩
theorem my_X6_move : zv_my yX6_move cX6_move 6 none 5 := ⟨zv_m5 30 (by decide +kernel) rfl, zv_m1 13 (by decide +kernel) rfl, by decide +kernel, by decide⟩
theorem my_X6_put : zv_my yX6_put cX6_put 5 none 3 := ⟨zv_m5 11 (by decide +kernel) rfl, zv_m1 13 (by decide +kernel) rfl, by decide +kernel, by decide⟩
theorem my_X6_sizeOf : zv_my yX6_sizeOf cX6_sizeOf 2 (some .int) 1 := ⟨zv_m4 164 (by decide +kernel) rfl, zv_m1 13 (by decide +kernel) rfl, by decide +kernel, by decide⟩
theorem my_X6_sortOf : zv_my yX6_sortOf cX6_sortOf 2 (some .int) 1 := ⟨zv_m4 151 (by decide +kernel) rfl, zv_m1 13 (by decide +kernel) rfl, by decide +kernel, by decide⟩
theorem my_X7_bring : zv_my yX7_bring cX7_bring 4 none 2 := ⟨zv_m4 91 (by decide +kernel) rfl, zv_m1 11 (by decide +kernel) rfl, by decide +kernel, by decide⟩
theorem my_X7_bringOne : zv_my yX7_bringOne cX7_bringOne 6 none 2 := ⟨zv_m4 96 (by decide +kernel) rfl, zv_m1 11 (by decide +kernel) rfl, by decide +kernel, by decide⟩
theorem my_X7_fewestSteps : zv_my yX7_fewestSteps cX7_fewestSteps 6 (some .int) 3 := ⟨zv_m4 75 (by decide +kernel) rfl, zv_m1 11 (by decide +kernel) rfl, by decide +kernel, by decide⟩
theorem my_X7_measure : zv_my yX7_measure cX7_measure 6 none 2 := ⟨zv_m4 82 (by decide +kernel) rfl, zv_m1 11 (by decide +kernel) rfl, by decide +kernel, by decide⟩
theorem my_X8_all : zv_my yX8_all cX8_all 1 (some .int) 0 := ⟨zv_m3 132 (by decide +kernel) rfl, zv_m1 7 (by decide +kernel) rfl, by decide +kernel, by decide⟩
theorem my_X8_free : zv_my yX8_free cX8_free 1 (some .int) 0 := ⟨zv_m3 128 (by decide +kernel) rfl, zv_m1 7 (by decide +kernel) rfl, by decide +kernel, by decide⟩
theorem my_X8_goOn : zv_my yX8_goOn cX8_goOn 2 (some .int) 1 := ⟨zv_m3 88 (by decide +kernel) rfl, zv_m1 7 (by decide +kernel) rfl, by decide +kernel, by decide⟩
theorem my_X8_layOut : zv_my yX8_layOut cX8_layOut 2 none 1 := ⟨zv_m3 9 (by decide +kernel) rfl, zv_m1 7 (by decide +kernel) rfl, by decide +kernel, by decide⟩
theorem my_X8_lookAlong : zv_my yX8_lookAlong cX8_lookAlong 10 (some .int) 4 := ⟨zv_m3 76 (by decide +kernel) rfl, zv_m1 7 (by decide +kernel) rfl, by decide +kernel, by decide⟩
theorem my_X8_spread : zv_my yX8_spread cX8_spread 6 (some .int) 1 := ⟨zv_m4 86 (by decide +kernel) rfl, zv_m1 7 (by decide +kernel) rfl, by decide +kernel, by decide⟩
theorem my_X8_turn : zv_my yX8_turn cX8_turn 10 (some .int) 2 := ⟨zv_m4 54 (by decide +kernel) rfl, zv_m1 7 (by decide +kernel) rfl, by decide +kernel, by decide⟩
theorem my_X8_view : zv_my yX8_view cX8_view 10 (some .int) 4 := ⟨zv_m3 63 (by decide +kernel) rfl, zv_m1 7 (by decide +kernel) rfl, by decide +kernel, by decide⟩
theorem my_X8_waysOf : zv_my yX8_waysOf cX8_waysOf 2 (some .int) 1 := ⟨zv_m3 68 (by decide +kernel) rfl, zv_m1 7 (by decide +kernel) rfl, by decide +kernel, by decide⟩
theorem my_X8_xOf : zv_my yX8_xOf cX8_xOf 2 (some .int) 1 := ⟨zv_m3 80 (by decide +kernel) rfl, zv_m1 7 (by decide +kernel) rfl, by decide +kernel, by decide⟩
theorem my_X8_yOf : zv_my yX8_yOf cX8_yOf 2 (some .int) 1 := ⟨zv_m3 84 (by decide +kernel) rfl, zv_m1 7 (by decide +kernel) rfl, by decide +kernel, by decide⟩
theorem my_X9_add : zv_my yX9_add cX9_add 2 none 1 := ⟨zv_m2 136 (by decide +kernel) rfl, zv_m1 6 (by decide +kernel) rfl, by decide +kernel, by decide⟩
theorem my_X9_isFull : zv_my yX9_isFull cX9_isFull 1 (some .boolean) 0 := ⟨zv_m2 132 (by decide +kernel) rfl, zv_m1 6 (by decide +kernel) rfl, by decide +kernel, by decide⟩
theorem my_X9_isLetter : zv_my yX9_isLetter cX9_isLetter 2 (some .boolean) 1 := ⟨zv_m2 230 (by decide +kernel) rfl, zv_m1 6 (by decide +kernel) rfl, by decide +kernel, by decide⟩
theorem my_X9_moveTo : zv_my yX9_moveTo cX9_moveTo 2 none 1 := ⟨zv_m2 148 (by decide +kernel) rfl, zv_m1 6 (by decide +kernel) rfl, by decide +kernel, by decide⟩
theorem my_X9_numberOf : zv_my yX9_numberOf cX9_numberOf 4 (some .int) 3 := ⟨zv_m2 238 (by decide +kernel) rfl, zv_m1 6 (by decide +kernel) rfl, by decide +kernel, by decide⟩
theorem my_X9_readAny : zv_my yX9_readAny cX9_readAny 5 (some .int) 1 := ⟨zv_m2 218 (by decide +kernel) rfl, zv_m1 6 (by decide +kernel) rfl, by decide +kernel, by decide⟩
theorem my_X9_readClause : zv_my yX9_readClause cX9_readClause 1 none 0 := ⟨zv_m2 152 (by decide +kernel) rfl, zv_m1 6 (by decide +kernel) rfl, by decide +kernel, by decide⟩
theorem my_X9_readClauses : zv_my yX9_readClauses cX9_readClauses 3 (some .int) 1 := ⟨zv_m2 144 (by decide +kernel) rfl, zv_m1 6 (by decide +kernel) rfl, by decide +kernel, by decide⟩
theorem my_X9_readNumber : zv_my yX9_readNumber cX9_readNumber 2 (some .int) 0 := ⟨zv_m2 209 (by decide +kernel) rfl, zv_m1 6 (by decide +kernel) rfl, by decide +kernel, by decide⟩
theorem my_X9_readOne : zv_my yX9_readOne cX9_readOne 4 (some .int) 1 := ⟨zv_m2 222 (by decide +kernel) rfl, zv_m1 6 (by decide +kernel) rfl, by decide +kernel, by decide⟩
theorem my_X9_readTest : zv_my yX9_readTest cX9_readTest 4 (some .int) 0 := ⟨zv_m2 226 (by decide +kernel) rfl, zv_m1 6 (by decide +kernel) rfl, by decide +kernel, by decide⟩
theorem my_X9_readWord : zv_my yX9_readWord cX9_readWord 3 none 1 := ⟨zv_m2 157 (by decide +kernel) rfl, zv_m1 6 (by decide +kernel) rfl, by decide +kernel, by decide⟩
theorem my_X9_squaresOf : zv_my yX9_squaresOf cX9_squaresOf 8 (some .int) 3 := ⟨zv_m2 234 (by decide +kernel) rfl, zv_m1 6 (by decide +kernel) rfl, by decide +kernel, by decide⟩
theorem my_X11_act : zv_my yX11_act cX11_act 4 (some .int) 3 := ⟨zv_m7 155 (by decide +kernel) rfl, zv_m1 14 (by decide +kernel) rfl, by decide +kernel, by decide⟩
theorem my_X11_after : zv_my yX11_after cX11_after 3 (some .int) 2 := ⟨zv_m7 10 (by decide +kernel) rfl, zv_m1 14 (by decide +kernel) rfl, by decide +kernel, by decide⟩
theorem my_X11_aim : zv_my yX11_aim cX11_aim 3 (some .int) 1 := ⟨zv_m7 86 (by decide +kernel) rfl, zv_m1 14 (by decide +kernel) rfl, by decide +kernel, by decide⟩
theorem my_X11_alike : zv_my yX11_alike cX11_alike 3 (some .int) 0 := ⟨zv_m7 82 (by decide +kernel) rfl, zv_m1 14 (by decide +kernel) rfl, by decide +kernel, by decide⟩
theorem my_X11_apart : zv_my yX11_apart cX11_apart 3 (some .int) 2 := ⟨zv_m6 150 (by decide +kernel) rfl, zv_m1 14 (by decide +kernel) rfl, by decide +kernel, by decide⟩
theorem my_X11_at : zv_my yX11_at cX11_at 3 (some .int) 2 := ⟨zv_m6 226 (by decide +kernel) rfl, zv_m1 14 (by decide +kernel) rfl, by decide +kernel, by decide⟩
theorem my_X11_away : zv_my yX11_away cX11_away 6 (some .int) 3 := ⟨zv_m6 174 (by decide +kernel) rfl, zv_m1 14 (by decide +kernel) rfl, by decide +kernel, by decide⟩
theorem my_X11_begin : zv_my yX11_begin cX11_begin 1 (some .int) 0 := ⟨zv_m6 130 (by decide +kernel) rfl, zv_m1 14 (by decide +kernel) rfl, by decide +kernel, by decide⟩
theorem my_X11_behind : zv_my yX11_behind cX11_behind 1 (some .int) 0 := ⟨zv_m6 134 (by decide +kernel) rfl, zv_m1 14 (by decide +kernel) rfl, by decide +kernel, by decide⟩
theorem my_X11_body : zv_my yX11_body cX11_body 2 none 1 := ⟨zv_m7 163 (by decide +kernel) rfl, zv_m1 14 (by decide +kernel) rfl, by decide +kernel, by decide⟩
theorem my_X11_book : zv_my yX11_book cX11_book 2 (some .int) 1 := ⟨zv_m7 131 (by decide +kernel) rfl, zv_m1 14 (by decide +kernel) rfl, by decide +kernel, by decide⟩
theorem my_X11_clear : zv_my yX11_clear cX11_clear 1 (some .int) 0 := ⟨zv_m6 38 (by decide +kernel) rfl, zv_m1 14 (by decide +kernel) rfl, by decide +kernel, by decide⟩
theorem my_X11_count : zv_my yX11_count cX11_count 2 (some .int) 1 := ⟨zv_m7 199 (by decide +kernel) rfl, zv_m1 14 (by decide +kernel) rfl, by decide +kernel, by decide⟩
theorem my_X11_divisor : zv_my yX11_divisor cX11_divisor 6 (some .int) 2 := ⟨zv_m7 123 (by decide +kernel) rfl, zv_m1 14 (by decide +kernel) rfl, by decide +kernel, by decide⟩
theorem my_X11_emits : zv_my yX11_emits cX11_emits 2 none 1 := ⟨zv_m6 114 (by decide +kernel) rfl, zv_m1 14 (by decide +kernel) rfl, by decide +kernel, by decide⟩
theorem my_X11_factOf : zv_my yX11_factOf cX11_factOf 5 (some .int) 2 := ⟨zv_m6 146 (by decide +kernel) rfl, zv_m1 14 (by decide +kernel) rfl, by decide +kernel, by decide⟩
theorem my_X11_feed : zv_my yX11_feed cX11_feed 2 (some .int) 1 := ⟨zv_m6 58 (by decide +kernel) rfl, zv_m1 14 (by decide +kernel) rfl, by decide +kernel, by decide⟩
theorem my_X11_fraction : zv_my yX11_fraction cX11_fraction 5 (some .long) 3 := ⟨zv_m7 119 (by decide +kernel) rfl, zv_m1 14 (by decide +kernel) rfl, by decide +kernel, by decide⟩
theorem my_X11_game : zv_my yX11_game cX11_game 8 (some .int) 1 := ⟨zv_m7 66 (by decide +kernel) rfl, zv_m1 14 (by decide +kernel) rfl, by decide +kernel, by decide⟩
theorem my_X11_goes : zv_my yX11_goes cX11_goes 9 (some .boolean) 2 := ⟨zv_m7 54 (by decide +kernel) rfl, zv_m1 14 (by decide +kernel) rfl, by decide +kernel, by decide⟩
theorem my_X11_goesText : zv_my yX11_goesText cX11_goesText 3 (some .boolean) 1 := ⟨zv_m6 66 (by decide +kernel) rfl, zv_m1 14 (by decide +kernel) rfl, by decide +kernel, by decide⟩
theorem my_X11_gone : zv_my yX11_gone cX11_gone 4 (some .int) 3 := ⟨zv_m7 62 (by decide +kernel) rfl, zv_m1 14 (by decide +kernel) rfl, by decide +kernel, by decide⟩
theorem my_X11_has : zv_my yX11_has cX11_has 3 (some .boolean) 2 := ⟨zv_m6 178 (by decide +kernel) rfl, zv_m1 14 (by decide +kernel) rfl, by decide +kernel, by decide⟩
theorem my_X11_hold : zv_my yX11_hold cX11_hold 3 (some .int) 2 := ⟨zv_m7 26 (by decide +kernel) rfl, zv_m1 14 (by decide +kernel) rfl, by decide +kernel, by decide⟩
theorem my_X11_holds : zv_my yX11_holds cX11_holds 8 (some .boolean) 2 := ⟨zv_m6 142 (by decide +kernel) rfl, zv_m1 14 (by decide +kernel) rfl, by decide +kernel, by decide⟩
theorem my_X11_image : zv_my yX11_image cX11_image 2 (some .int) 0 := ⟨zv_m7 147 (by decide +kernel) rfl, zv_m1 14 (by decide +kernel) rfl, by decide +kernel, by decide⟩
theorem my_X11_in : zv_my yX11_in cX11_in 4 (some .boolean) 3 := ⟨zv_m6 26 (by decide +kernel) rfl, zv_m1 14 (by decide +kernel) rfl, by decide +kernel, by decide⟩
theorem my_X11_isAlike : zv_my yX11_isAlike cX11_isAlike 5 (some .boolean) 1 := ⟨zv_m7 74 (by decide +kernel) rfl, zv_m1 14 (by decide +kernel) rfl, by decide +kernel, by decide⟩
theorem my_X11_isDigit : zv_my yX11_isDigit cX11_isDigit 1 (some .boolean) 0 := ⟨zv_m6 110 (by decide +kernel) rfl, zv_m1 14 (by decide +kernel) rfl, by decide +kernel, by decide⟩
theorem my_X11_isFit : zv_my yX11_isFit cX11_isFit 3 (some .boolean) 2 := ⟨zv_m6 218 (by decide +kernel) rfl, zv_m1 14 (by decide +kernel) rfl, by decide +kernel, by decide⟩
theorem my_X11_isPeace : zv_my yX11_isPeace cX11_isPeace 2 (some .boolean) 0 := ⟨zv_m6 198 (by decide +kernel) rfl, zv_m1 14 (by decide +kernel) rfl, by decide +kernel, by decide⟩
theorem my_X11_isPeaceOf : zv_my yX11_isPeaceOf cX11_isPeaceOf 3 (some .boolean) 1 := ⟨zv_m7 58 (by decide +kernel) rfl, zv_m1 14 (by decide +kernel) rfl, by decide +kernel, by decide⟩
theorem my_X11_isPlan : zv_my yX11_isPlan cX11_isPlan 2 (some .boolean) 1 := ⟨zv_m6 34 (by decide +kernel) rfl, zv_m1 14 (by decide +kernel) rfl, by decide +kernel, by decide⟩
theorem my_X11_isSeen : zv_my yX11_isSeen cX11_isSeen 2 (some .boolean) 0 := ⟨zv_m7 110 (by decide +kernel) rfl, zv_m1 14 (by decide +kernel) rfl, by decide +kernel, by decide⟩
theorem my_X11_isSquare : zv_my yX11_isSquare cX11_isSquare 2 (some .boolean) 1 := ⟨zv_m6 158 (by decide +kernel) rfl, zv_m1 14 (by decide +kernel) rfl, by decide +kernel, by decide⟩
theorem my_X11_isTape : zv_my yX11_isTape cX11_isTape 2 (some .boolean) 1 := ⟨zv_m7 143 (by decide +kernel) rfl, zv_m1 14 (by decide +kernel) rfl, by decide +kernel, by decide⟩
theorem my_X11_isWay : zv_my yX11_isWay cX11_isWay 4 (some .boolean) 0 := ⟨zv_m7 2 (by decide +kernel) rfl, zv_m1 14 (by decide +kernel) rfl, by decide +kernel, by decide⟩
theorem my_X11_item : zv_my yX11_item cX11_item 5 (some .int) 3 := ⟨zv_m7 207 (by decide +kernel) rfl, zv_m1 14 (by decide +kernel) rfl, by decide +kernel, by decide⟩
theorem my_X11_judge : zv_my yX11_judge cX11_judge 4 (some .int) 2 := ⟨zv_m7 139 (by decide +kernel) rfl, zv_m1 14 (by decide +kernel) rfl, by decide +kernel, by decide⟩
theorem my_X11_layBad : zv_my yX11_layBad cX11_layBad 5 none 1 := ⟨zv_m6 238 (by decide +kernel) rfl, zv_m1 14 (by decide +kernel) rfl, by decide +kernel, by decide⟩
theorem my_X11_layBoard : zv_my yX11_layBoard cX11_layBoard 2 none 0 := ⟨zv_m6 126 (by decide +kernel) rfl, zv_m1 14 (by decide +kernel) rfl, by decide +kernel, by decide⟩
theorem my_X11_layHold : zv_my yX11_layHold cX11_layHold 9 none 1 := ⟨zv_m7 30 (by decide +kernel) rfl, zv_m1 14 (by decide +kernel) rfl, by decide +kernel, by decide⟩
theorem my_X11_layMen : zv_my yX11_layMen cX11_layMen 4 (some .boolean) 0 := ⟨zv_m7 14 (by decide +kernel) rfl, zv_m1 14 (by decide +kernel) rfl, by decide +kernel, by decide⟩
theorem my_X11_layOrder : zv_my yX11_layOrder cX11_layOrder 9 (some .boolean) 2 := ⟨zv_m7 98 (by decide +kernel) rfl, zv_m1 14 (by decide +kernel) rfl, by decide +kernel, by decide⟩
theorem my_X11_laySteps : zv_my yX11_laySteps cX11_laySteps 5 none 1 := ⟨zv_m7 94 (by decide +kernel) rfl, zv_m1 14 (by decide +kernel) rfl, by decide +kernel, by decide⟩
theorem my_X11_leaps : zv_my yX11_leaps cX11_leaps 4 (some .int) 1 := ⟨zv_m6 190 (by decide +kernel) rfl, zv_m1 14 (by decide +kernel) rfl, by decide +kernel, by decide⟩
theorem my_X11_line : zv_my yX11_line cX11_line 5 (some .int) 2 := ⟨zv_m6 170 (by decide +kernel) rfl, zv_m1 14 (by decide +kernel) rfl, by decide +kernel, by decide⟩
theorem my_X11_lines : zv_my yX11_lines cX11_lines 6 (some .int) 3 := ⟨zv_m6 166 (by decide +kernel) rfl, zv_m1 14 (by decide +kernel) rfl, by decide +kernel, by decide⟩
theorem my_X11_looked : zv_my yX11_looked cX11_looked 2 (some .int) 0 := ⟨zv_m7 135 (by decide +kernel) rfl, zv_m1 14 (by decide +kernel) rfl, by decide +kernel, by decide⟩
theorem my_X11_looksAct : zv_my yX11_looksAct cX11_looksAct 3 (some .int) 2 := ⟨zv_m7 159 (by decide +kernel) rfl, zv_m1 14 (by decide +kernel) rfl, by decide +kernel, by decide⟩
theorem my_X11_lowest : zv_my yX11_lowest cX11_lowest 3 (some .int) 1 := ⟨zv_m7 22 (by decide +kernel) rfl, zv_m1 14 (by decide +kernel) rfl, by decide +kernel, by decide⟩
theorem my_X11_manLooks : zv_my yX11_manLooks cX11_manLooks 3 (some .int) 2 := ⟨zv_m7 167 (by decide +kernel) rfl, zv_m1 14 (by decide +kernel) rfl, by decide +kernel, by decide⟩
theorem my_X11_manSees : zv_my yX11_manSees cX11_manSees 3 (some .int) 2 := ⟨zv_m7 179 (by decide +kernel) rfl, zv_m1 14 (by decide +kernel) rfl, by decide +kernel, by decide⟩
theorem my_X11_manTells : zv_my yX11_manTells cX11_manTells 3 (some .int) 2 := ⟨zv_m7 187 (by decide +kernel) rfl, zv_m1 14 (by decide +kernel) rfl, by decide +kernel, by decide⟩
theorem my_X11_mayBe : zv_my yX11_mayBe cX11_mayBe 2 (some .boolean) 1 := ⟨zv_m6 214 (by decide +kernel) rfl, zv_m1 14 (by decide +kernel) rfl, by decide +kernel, by decide⟩
theorem my_X11_mayHold : zv_my yX11_mayHold cX11_mayHold 2 (some .boolean) 1 := ⟨zv_m7 34 (by decide +kernel) rfl, zv_m1 14 (by decide +kernel) rfl, by decide +kernel, by decide⟩
theorem my_X11_mean : zv_my yX11_mean cX11_mean 5 (some .long) 1 := ⟨zv_m7 127 (by decide +kernel) rfl, zv_m1 14 (by decide +kernel) rfl, by decide +kernel, by decide⟩
theorem my_X11_men : zv_my yX11_men cX11_men 3 (some .int) 0 := ⟨zv_m6 46 (by decide +kernel) rfl, zv_m1 14 (by decide +kernel) rfl, by decide +kernel, by decide⟩
theorem my_X11_more : zv_my yX11_more cX11_more 2 (some .int) 1 := ⟨zv_m7 42 (by decide +kernel) rfl, zv_m1 14 (by decide +kernel) rfl, by decide +kernel, by decide⟩
theorem my_X11_moreOf : zv_my yX11_moreOf cX11_moreOf 4 (some .int) 1 := ⟨zv_m7 46 (by decide +kernel) rfl, zv_m1 14 (by decide +kernel) rfl, by decide +kernel, by decide⟩
theorem my_X11_most : zv_my yX11_most cX11_most 8 (some .int) 1 := ⟨zv_m7 18 (by decide +kernel) rfl, zv_m1 14 (by decide +kernel) rfl, by decide +kernel, by decide⟩
theorem my_X11_narrow : zv_my yX11_narrow cX11_narrow 4 (some .long) 2 := ⟨zv_m7 211 (by decide +kernel) rfl, zv_m1 14 (by decide +kernel) rfl, by decide +kernel, by decide⟩
theorem my_X11_next : zv_my yX11_next cX11_next 1 (some .int) 0 := ⟨zv_m6 78 (by decide +kernel) rfl, zv_m1 14 (by decide +kernel) rfl, by decide +kernel, by decide⟩
theorem my_X11_nextRow : zv_my yX11_nextRow cX11_nextRow 2 (some .boolean) 0 := ⟨zv_m7 6 (by decide +kernel) rfl, zv_m1 14 (by decide +kernel) rfl, by decide +kernel, by decide⟩
theorem my_X11_nextTo : zv_my yX11_nextTo cX11_nextTo 5 (some .int) 2 := ⟨zv_m6 182 (by decide +kernel) rfl, zv_m1 14 (by decide +kernel) rfl, by decide +kernel, by decide⟩
theorem my_X11_odds : zv_my yX11_odds cX11_odds 5 (some .long) 2 := ⟨zv_m7 114 (by decide +kernel) rfl, zv_m1 14 (by decide +kernel) rfl, by decide +kernel, by decide⟩
theorem my_X11_of : zv_my yX11_of cX11_of 5 (some .int) 2 := ⟨zv_m6 54 (by decide +kernel) rfl, zv_m1 14 (by decide +kernel) rfl, by decide +kernel, by decide⟩
theorem my_X11_one : zv_my yX11_one cX11_one 5 (some .int) 3 := ⟨zv_m6 186 (by decide +kernel) rfl, zv_m1 14 (by decide +kernel) rfl, by decide +kernel, by decide⟩
theorem my_X11_ones : zv_my yX11_ones cX11_ones 4 (some .int) 1 := ⟨zv_m6 50 (by decide +kernel) rfl, zv_m1 14 (by decide +kernel) rfl, by decide +kernel, by decide⟩
theorem my_X11_place : zv_my yX11_place cX11_place 2 (some .int) 1 := ⟨zv_m6 102 (by decide +kernel) rfl, zv_m1 14 (by decide +kernel) rfl, by decide +kernel, by decide⟩
theorem my_X11_plan : zv_my yX11_plan cX11_plan 4 (some .int) 2 := ⟨zv_m6 22 (by decide +kernel) rfl, zv_m1 14 (by decide +kernel) rfl, by decide +kernel, by decide⟩
theorem my_X11_quarrels : zv_my yX11_quarrels cX11_quarrels 2 (some .int) 1 := ⟨zv_m6 202 (by decide +kernel) rfl, zv_m1 14 (by decide +kernel) rfl, by decide +kernel, by decide⟩
theorem my_X11_reach : zv_my yX11_reach cX11_reach 7 (some .int) 0 := ⟨zv_m7 90 (by decide +kernel) rfl, zv_m1 14 (by decide +kernel) rfl, by decide +kernel, by decide⟩
theorem my_X11_read : zv_my yX11_read cX11_read 3 (some .long) 2 := ⟨zv_m7 215 (by decide +kernel) rfl, zv_m1 14 (by decide +kernel) rfl, by decide +kernel, by decide⟩
theorem my_X11_right : zv_my yX11_right cX11_right 4 (some .int) 1 := ⟨zv_m7 50 (by decide +kernel) rfl, zv_m1 14 (by decide +kernel) rfl, by decide +kernel, by decide⟩
theorem my_X11_rookSees : zv_my yX11_rookSees cX11_rookSees 3 (some .int) 2 := ⟨zv_m7 175 (by decide +kernel) rfl, zv_m1 14 (by decide +kernel) rfl, by decide +kernel, by decide⟩
theorem my_X11_row : zv_my yX11_row cX11_row 5 (some .int) 3 := ⟨zv_m6 30 (by decide +kernel) rfl, zv_m1 14 (by decide +kernel) rfl, by decide +kernel, by decide⟩
theorem my_X11_rubbed : zv_my yX11_rubbed cX11_rubbed 4 (some .int) 1 := ⟨zv_m7 106 (by decide +kernel) rfl, zv_m1 14 (by decide +kernel) rfl, by decide +kernel, by decide⟩
theorem my_X11_see : zv_my yX11_see cX11_see 3 (some .int) 2 := ⟨zv_m7 102 (by decide +kernel) rfl, zv_m1 14 (by decide +kernel) rfl, by decide +kernel, by decide⟩
theorem my_X11_seersOf : zv_my yX11_seersOf cX11_seersOf 4 (some .int) 1 := ⟨zv_m6 206 (by decide +kernel) rfl, zv_m1 14 (by decide +kernel) rfl, by decide +kernel, by decide⟩
theorem my_X11_sees : zv_my yX11_sees cX11_sees 3 (some .int) 2 := ⟨zv_m6 154 (by decide +kernel) rfl, zv_m1 14 (by decide +kernel) rfl, by decide +kernel, by decide⟩
theorem my_X11_seesAct : zv_my yX11_seesAct cX11_seesAct 4 (some .int) 2 := ⟨zv_m7 171 (by decide +kernel) rfl, zv_m1 14 (by decide +kernel) rfl, by decide +kernel, by decide⟩
theorem my_X11_seesOf : zv_my yX11_seesOf cX11_seesOf 3 (some .int) 2 := ⟨zv_m6 162 (by decide +kernel) rfl, zv_m1 14 (by decide +kernel) rfl, by decide +kernel, by decide⟩
theorem my_X11_set : zv_my yX11_set cX11_set 4 (some .int) 2 := ⟨zv_m6 210 (by decide +kernel) rfl, zv_m1 14 (by decide +kernel) rfl, by decide +kernel, by decide⟩
theorem my_X11_settle : zv_my yX11_settle cX11_settle 2 none 1 := ⟨zv_m6 122 (by decide +kernel) rfl, zv_m1 14 (by decide +kernel) rfl, by decide +kernel, by decide⟩
theorem my_X11_shift : zv_my yX11_shift cX11_shift 7 (some .int) 5 := ⟨zv_m7 219 (by decide +kernel) rfl, zv_m1 14 (by decide +kernel) rfl, by decide +kernel, by decide⟩
theorem my_X11_squaresOf : zv_my yX11_squaresOf cX11_squaresOf 5 (some .int) 1 := ⟨zv_m6 138 (by decide +kernel) rfl, zv_m1 14 (by decide +kernel) rfl, by decide +kernel, by decide⟩
theorem my_X11_take : zv_my yX11_take cX11_take 3 (some .int) 1 := ⟨zv_m6 222 (by decide +kernel) rfl, zv_m1 14 (by decide +kernel) rfl, by decide +kernel, by decide⟩
theorem my_X11_takeAll : zv_my yX11_takeAll cX11_takeAll 3 (some .int) 0 := ⟨zv_m6 42 (by decide +kernel) rfl, zv_m1 14 (by decide +kernel) rfl, by decide +kernel, by decide⟩
theorem my_X11_taken : zv_my yX11_taken cX11_taken 4 (some .int) 2 := ⟨zv_m7 195 (by decide +kernel) rfl, zv_m1 14 (by decide +kernel) rfl, by decide +kernel, by decide⟩
theorem my_X11_takes : zv_my yX11_takes cX11_takes 2 (some .boolean) 1 := ⟨zv_m6 90 (by decide +kernel) rfl, zv_m1 14 (by decide +kernel) rfl, by decide +kernel, by decide⟩
theorem my_X11_takesAlone : zv_my yX11_takesAlone cX11_takesAlone 4 (some .boolean) 2 := ⟨zv_m6 86 (by decide +kernel) rfl, zv_m1 14 (by decide +kernel) rfl, by decide +kernel, by decide⟩
theorem my_X11_takesClause : zv_my yX11_takesClause cX11_takesClause 2 (some .boolean) 1 := ⟨zv_m6 70 (by decide +kernel) rfl, zv_m1 14 (by decide +kernel) rfl, by decide +kernel, by decide⟩
theorem my_X11_takesE : zv_my yX11_takesE cX11_takesE 4 (some .boolean) 1 := ⟨zv_m6 94 (by decide +kernel) rfl, zv_m1 14 (by decide +kernel) rfl, by decide +kernel, by decide⟩
theorem my_X11_takesHead : zv_my yX11_takesHead cX11_takesHead 2 (some .boolean) 1 := ⟨zv_m6 74 (by decide +kernel) rfl, zv_m1 14 (by decide +kernel) rfl, by decide +kernel, by decide⟩
theorem my_X11_takesNumber : zv_my yX11_takesNumber cX11_takesNumber 2 (some .boolean) 0 := ⟨zv_m6 106 (by decide +kernel) rfl, zv_m1 14 (by decide +kernel) rfl, by decide +kernel, by decide⟩
theorem my_X11_takesTest : zv_my yX11_takesTest cX11_takesTest 3 (some .boolean) 0 := ⟨zv_m6 98 (by decide +kernel) rfl, zv_m1 14 (by decide +kernel) rfl, by decide +kernel, by decide⟩
theorem my_X11_takesWord : zv_my yX11_takesWord cX11_takesWord 3 (some .boolean) 2 := ⟨zv_m6 82 (by decide +kernel) rfl, zv_m1 14 (by decide +kernel) rfl, by decide +kernel, by decide⟩
theorem my_X11_tape : zv_my yX11_tape cX11_tape 5 (some .int) 3 := ⟨zv_m7 203 (by decide +kernel) rfl, zv_m1 14 (by decide +kernel) rfl, by decide +kernel, by decide⟩
theorem my_X11_tellsAct : zv_my yX11_tellsAct cX11_tellsAct 4 (some .int) 2 := ⟨zv_m7 183 (by decide +kernel) rfl, zv_m1 14 (by decide +kernel) rfl, by decide +kernel, by decide⟩
theorem my_X11_told : zv_my yX11_told cX11_told 2 (some .int) 1 := ⟨zv_m6 194 (by decide +kernel) rfl, zv_m1 14 (by decide +kernel) rfl, by decide +kernel, by decide⟩
theorem my_X11_trace : zv_my yX11_trace cX11_trace 2 (some .int) 1 := ⟨zv_m7 191 (by decide +kernel) rfl, zv_m1 14 (by decide +kernel) rfl, by decide +kernel, by decide⟩
theorem my_X11_tries : zv_my yX11_tries cX11_tries 5 none 4 := ⟨zv_m7 38 (by decide +kernel) rfl, zv_m1 14 (by decide +kernel) rfl, by decide +kernel, by decide⟩
theorem my_X11_turned : zv_my yX11_turned cX11_turned 2 (some .int) 1 := ⟨zv_m7 70 (by decide +kernel) rfl, zv_m1 14 (by decide +kernel) rfl, by decide +kernel, by decide⟩
theorem my_X11_turnedSquare : zv_my yX11_turnedSquare cX11_turnedSquare 7 (some .int) 2 := ⟨zv_m7 78 (by decide +kernel) rfl, zv_m1 14 (by decide +kernel) rfl, by decide +kernel, by decide⟩
theorem my_X11_undo : zv_my yX11_undo cX11_undo 2 (some .int) 0 := ⟨zv_m7 151 (by decide +kernel) rfl, zv_m1 14 (by decide +kernel) rfl, by decide +kernel, by decide⟩
theorem my_X11_ways : zv_my yX11_ways cX11_ways 6 (some .int) 2 := ⟨zv_m6 234 (by decide +kernel) rfl, zv_m1 14 (by decide +kernel) rfl, by decide +kernel, by decide⟩
theorem my_X11_whole : zv_my yX11_whole cX11_whole 1 none 0 := ⟨zv_m6 118 (by decide +kernel) rfl, zv_m1 14 (by decide +kernel) rfl, by decide +kernel, by decide⟩
theorem my_X11_worst : zv_my yX11_worst cX11_worst 5 (some .int) 0 := ⟨zv_m6 230 (by decide +kernel) rfl, zv_m1 14 (by decide +kernel) rfl, by decide +kernel, by decide⟩
theorem my_X11_yard : zv_my yX11_yard cX11_yard 3 (some .int) 0 := ⟨zv_m6 62 (by decide +kernel) rfl, zv_m1 14 (by decide +kernel) rfl, by decide +kernel, by decide⟩
theorem my_J6_bitCount_0f7a4 : zv_my yJ6_bitCount_0f7a4 cJ6_bitCount_0f7a4 1 (some .int) 1 := ⟨zv_m3 40 (by decide +kernel) rfl, zv_m1 19 (by decide +kernel) rfl, by decide +kernel, by decide⟩
theorem my_J9_floorMod_7cf53 : zv_my yJ9_floorMod_7cf53 cJ9_floorMod_7cf53 3 (some .int) 2 := ⟨zv_m3 91 (by decide +kernel) rfl, zv_m1 4 (by decide +kernel) rfl, by decide +kernel, by decide⟩
theorem my_J9_max_7cf53 : zv_my yJ9_max_7cf53 cJ9_max_7cf53 2 (some .int) 2 := ⟨zv_m1 43 (by decide +kernel) rfl, zv_m1 4 (by decide +kernel) rfl, by decide +kernel, by decide⟩
theorem my_J9_min_7cf53 : zv_my yJ9_min_7cf53 cJ9_min_7cf53 2 (some .int) 2 := ⟨zv_m2 213 (by decide +kernel) rfl, zv_m1 4 (by decide +kernel) rfl, by decide +kernel, by decide⟩
theorem my_J7_fill_53178 : zv_my yJ7_fill_53178 cJ7_fill_53178 4 none 2 := ⟨zv_m1 56 (by decide +kernel) rfl, zv_m1 5 (by decide +kernel) rfl, by decide +kernel, by decide⟩
theorem mv_X10_act : zv_myV yX10_act 10 := ⟨zv_m4 191 (by decide +kernel) rfl, zv_m4 192 (by decide +kernel) rfl, TX10, 14, rfl⟩
theorem mv_X10_after : zv_myV yX10_after 10 := ⟨zv_m3 213 (by decide +kernel) rfl, zv_m3 214 (by decide +kernel) rfl, TX10, 14, rfl⟩
theorem mv_X10_aim : zv_myV yX10_aim 10 := ⟨zv_m4 60 (by decide +kernel) rfl, zv_m4 61 (by decide +kernel) rfl, TX10, 14, rfl⟩
theorem mv_X10_alike : zv_myV yX10_alike 10 := ⟨zv_m4 56 (by decide +kernel) rfl, zv_m4 57 (by decide +kernel) rfl, TX10, 14, rfl⟩
theorem mv_X10_at : zv_myV yX10_at 10 := ⟨zv_m3 158 (by decide +kernel) rfl, zv_m3 159 (by decide +kernel) rfl, TX10, 14, rfl⟩
theorem mv_X10_book : zv_myV yX10_book 10 := ⟨zv_m4 129 (by decide +kernel) rfl, zv_m4 130 (by decide +kernel) rfl, TX10, 14, rfl⟩
theorem mv_X10_clear : zv_myV yX10_clear 10 := ⟨zv_m3 170 (by decide +kernel) rfl, zv_m3 171 (by decide +kernel) rfl, TX10, 14, rfl⟩
theorem mv_X10_count : zv_myV yX10_count 10 := ⟨zv_m4 231 (by decide +kernel) rfl, zv_m4 232 (by decide +kernel) rfl, TX10, 14, rfl⟩
theorem mv_X10_feed : zv_myV yX10_feed 10 := ⟨zv_m2 126 (by decide +kernel) rfl, zv_m2 127 (by decide +kernel) rfl, TX10, 14, rfl⟩
theorem mv_X10_fitting : zv_myV yX10_fitting 10 := ⟨zv_m3 137 (by decide +kernel) rfl, zv_mem 20 (by decide +kernel) rfl, TX10, 14, rfl⟩
theorem mv_X10_game : zv_myV yX10_game 10 := ⟨zv_m4 27 (by decide +kernel) rfl, zv_m4 28 (by decide +kernel) rfl, TX10, 14, rfl⟩
theorem mv_X10_ground : zv_myV yX10_ground 10 := ⟨zv_m3 32 (by decide +kernel) rfl, zv_mem 11 (by decide +kernel) rfl, TX10, 14, rfl⟩
theorem mv_X10_hold : zv_myV yX10_hold 10 := ⟨zv_m3 239 (by decide +kernel) rfl, zv_m4 0 (by decide +kernel) rfl, TX10, 14, rfl⟩
theorem mv_X10_image : zv_myV yX10_image 10 := ⟨zv_m4 172 (by decide +kernel) rfl, zv_m4 173 (by decide +kernel) rfl, TX10, 14, rfl⟩
theorem mv_X10_isPlan : zv_myV yX10_isPlan 10 := ⟨zv_m2 107 (by decide +kernel) rfl, zv_mem 0 (by decide +kernel) rfl, TX10, 14, rfl⟩
theorem mv_X10_isSquare : zv_myV yX10_isSquare 10 := ⟨zv_m3 119 (by decide +kernel) rfl, zv_mem 18 (by decide +kernel) rfl, TX10, 14, rfl⟩
theorem mv_X10_item : zv_myV yX10_item 10 := ⟨zv_m5 5 (by decide +kernel) rfl, zv_m5 6 (by decide +kernel) rfl, TX10, 14, rfl⟩
theorem mv_X10_joinMen : zv_myV yX10_joinMen 10 := ⟨zv_m3 46 (by decide +kernel) rfl, zv_mem 12 (by decide +kernel) rfl, TX10, 14, rfl⟩
theorem mv_X10_judge : zv_myV yX10_judge 10 := ⟨zv_m4 137 (by decide +kernel) rfl, zv_m4 138 (by decide +kernel) rfl, TX10, 14, rfl⟩
theorem mv_X10_judged : zv_myV yX10_judged 10 := ⟨zv_m4 155 (by decide +kernel) rfl, zv_mem 33 (by decide +kernel) rfl, TX10, 14, rfl⟩
theorem mv_X10_lookByMen : zv_myV yX10_lookByMen 10 := ⟨zv_m3 50 (by decide +kernel) rfl, zv_mem 13 (by decide +kernel) rfl, TX10, 14, rfl⟩
theorem mv_X10_lookByPlan : zv_myV yX10_lookByPlan 10 := ⟨zv_m3 141 (by decide +kernel) rfl, zv_mem 21 (by decide +kernel) rfl, TX10, 14, rfl⟩
theorem mv_X10_looked : zv_myV yX10_looked 10 := ⟨zv_m4 133 (by decide +kernel) rfl, zv_m4 134 (by decide +kernel) rfl, TX10, 14, rfl⟩
theorem mv_X10_looksSame : zv_myV yX10_looksSame 10 := ⟨zv_m4 49 (by decide +kernel) rfl, zv_mem 28 (by decide +kernel) rfl, TX10, 14, rfl⟩
theorem mv_X10_makesSeenSo : zv_myV yX10_makesSeenSo 10 := ⟨zv_m4 110 (by decide +kernel) rfl, zv_mem 32 (by decide +kernel) rfl, TX10, 14, rfl⟩
theorem mv_X10_mean : zv_myV yX10_mean 10 := ⟨zv_m4 121 (by decide +kernel) rfl, zv_m4 122 (by decide +kernel) rfl, TX10, 14, rfl⟩
theorem mv_X10_more : zv_myV yX10_more 10 := ⟨zv_m4 15 (by decide +kernel) rfl, zv_m4 16 (by decide +kernel) rfl, TX10, 14, rfl⟩
theorem mv_X10_most : zv_myV yX10_most 10 := ⟨zv_m3 225 (by decide +kernel) rfl, zv_m3 226 (by decide +kernel) rfl, TX10, 14, rfl⟩
theorem mv_X10_odds : zv_myV yX10_odds 10 := ⟨zv_m4 113 (by decide +kernel) rfl, zv_m4 114 (by decide +kernel) rfl, TX10, 14, rfl⟩
theorem mv_X10_of : zv_myV yX10_of 10 := ⟨zv_m2 102 (by decide +kernel) rfl, zv_m2 103 (by decide +kernel) rfl, TX10, 14, rfl⟩
theorem mv_X10_openSquares : zv_myV yX10_openSquares 10 := ⟨zv_m3 123 (by decide +kernel) rfl, zv_mem 19 (by decide +kernel) rfl, TX10, 14, rfl⟩
theorem mv_X10_plan : zv_myV yX10_plan 10 := ⟨zv_m2 85 (by decide +kernel) rfl, zv_m2 86 (by decide +kernel) rfl, TX10, 14, rfl⟩
theorem mv_X10_prepareRowSearch : zv_myV yX10_prepareRowSearch 10 := ⟨zv_m3 184 (by decide +kernel) rfl, zv_mem 22 (by decide +kernel) rfl, TX10, 14, rfl⟩
theorem mv_X10_reach : zv_myV yX10_reach 10 := ⟨zv_m4 69 (by decide +kernel) rfl, zv_m4 70 (by decide +kernel) rfl, TX10, 14, rfl⟩
theorem mv_X10_read : zv_myV yX10_read 10 := ⟨zv_m5 16 (by decide +kernel) rfl, zv_m5 17 (by decide +kernel) rfl, TX10, 14, rfl⟩
theorem mv_X10_right : zv_myV yX10_right 10 := ⟨zv_m4 19 (by decide +kernel) rfl, zv_m4 20 (by decide +kernel) rfl, TX10, 14, rfl⟩
theorem mv_X10_row : zv_myV yX10_row 10 := ⟨zv_m2 118 (by decide +kernel) rfl, zv_m2 119 (by decide +kernel) rfl, TX10, 14, rfl⟩
theorem mv_X10_rubbed : zv_myV yX10_rubbed 10 := ⟨zv_m4 105 (by decide +kernel) rfl, zv_m4 106 (by decide +kernel) rfl, TX10, 14, rfl⟩
theorem mv_X10_see : zv_myV yX10_see 10 := ⟨zv_m4 100 (by decide +kernel) rfl, zv_m4 101 (by decide +kernel) rfl, TX10, 14, rfl⟩
theorem mv_X10_sees : zv_myV yX10_sees 10 := ⟨zv_m3 166 (by decide +kernel) rfl, zv_m3 167 (by decide +kernel) rfl, TX10, 14, rfl⟩
theorem mv_X10_set : zv_myV yX10_set 10 := ⟨zv_m3 114 (by decide +kernel) rfl, zv_m3 115 (by decide +kernel) rfl, TX10, 14, rfl⟩
theorem mv_X10_shift : zv_myV yX10_shift 10 := ⟨zv_m5 20 (by decide +kernel) rfl, zv_m5 21 (by decide +kernel) rfl, TX10, 14, rfl⟩
theorem mv_X10_take : zv_myV yX10_take 10 := ⟨zv_m3 154 (by decide +kernel) rfl, zv_m3 155 (by decide +kernel) rfl, TX10, 14, rfl⟩
theorem mv_X10_taken : zv_myV yX10_taken 10 := ⟨zv_m4 224 (by decide +kernel) rfl, zv_m4 225 (by decide +kernel) rfl, TX10, 14, rfl⟩
theorem mv_X10_tape : zv_myV yX10_tape 10 := ⟨zv_m4 235 (by decide +kernel) rfl, zv_m4 236 (by decide +kernel) rfl, TX10, 14, rfl⟩
theorem mv_X10_told : zv_myV yX10_told 10 := ⟨zv_m3 27 (by decide +kernel) rfl, zv_m3 28 (by decide +kernel) rfl, TX10, 14, rfl⟩
theorem mv_X10_trace : zv_myV yX10_trace 10 := ⟨zv_m4 220 (by decide +kernel) rfl, zv_m4 221 (by decide +kernel) rfl, TX10, 14, rfl⟩
theorem mv_X10_turned : zv_myV yX10_turned 10 := ⟨zv_m4 44 (by decide +kernel) rfl, zv_m4 45 (by decide +kernel) rfl, TX10, 14, rfl⟩
theorem mv_X10_undo : zv_myV yX10_undo 10 := ⟨zv_m4 187 (by decide +kernel) rfl, zv_m4 188 (by decide +kernel) rfl, TX10, 14, rfl⟩
theorem mv_X10_viewOf : zv_myV yX10_viewOf 10 := ⟨zv_m3 58 (by decide +kernel) rfl, zv_mem 14 (by decide +kernel) rfl, TX10, 14, rfl⟩
theorem mv_X10_ways : zv_myV yX10_ways 10 := ⟨zv_m3 179 (by decide +kernel) rfl, zv_m3 180 (by decide +kernel) rfl, TX10, 14, rfl⟩
theorem mv_X10_worst : zv_myV yX10_worst 10 := ⟨zv_m3 175 (by decide +kernel) rfl, zv_m3 176 (by decide +kernel) rfl, TX10, 14, rfl⟩
theorem mv_X10_yard : zv_myV yX10_yard 10 := ⟨zv_m2 138 (by decide +kernel) rfl, zv_m2 139 (by decide +kernel) rfl, TX10, 14, rfl⟩
theorem mv_X0_answerOf : zv_myV yX0_answerOf 0 := ⟨zv_m4 217 (by decide +kernel) rfl, zv_mem 36 (by decide +kernel) rfl, TX0, 5, rfl⟩
theorem mv_X0_forget : zv_myV yX0_forget 0 := ⟨zv_m4 195 (by decide +kernel) rfl, zv_m4 196 (by decide +kernel) rfl, TX0, 5, rfl⟩
theorem mv_X0_run : zv_myV yX0_run 0 := ⟨zv_m4 205 (by decide +kernel) rfl, zv_mem 35 (by decide +kernel) rfl, TX0, 5, rfl⟩
theorem mv_X0_start : zv_myV yX0_start 0 := ⟨zv_m4 200 (by decide +kernel) rfl, zv_m4 201 (by decide +kernel) rfl, TX0, 5, rfl⟩
theorem mv_X1_firstWins : zv_myV yX1_firstWins 1 := ⟨zv_m4 31 (by decide +kernel) rfl, zv_m4 32 (by decide +kernel) rfl, TX1, 3, rfl⟩
theorem mv_X1_gather : zv_myV yX1_gather 1 := ⟨zv_m4 36 (by decide +kernel) rfl, zv_mem 26 (by decide +kernel) rfl, TX1, 3, rfl⟩
theorem mv_X1_goneBy : zv_myV yX1_goneBy 1 := ⟨zv_m4 41 (by decide +kernel) rfl, zv_mem 27 (by decide +kernel) rfl, TX1, 3, rfl⟩
theorem mv_X2_add : zv_myV yX2_add 2 := ⟨zv_m2 98 (by decide +kernel) rfl, zv_m2 99 (by decide +kernel) rfl, TX2, 2, rfl⟩
theorem mv_X2_becomes : zv_myV yX2_becomes 2 := ⟨zv_m4 180 (by decide +kernel) rfl, zv_m4 181 (by decide +kernel) rfl, TX2, 2, rfl⟩
theorem mv_X2_contains : zv_myV yX2_contains 2 := ⟨zv_m4 65 (by decide +kernel) rfl, zv_m4 66 (by decide +kernel) rfl, TX2, 2, rfl⟩
theorem mv_X2_drop : zv_myV yX2_drop 2 := ⟨zv_m3 19 (by decide +kernel) rfl, zv_m3 20 (by decide +kernel) rfl, TX2, 2, rfl⟩
theorem mv_X2_get : zv_myV yX2_get 2 := ⟨zv_m2 110 (by decide +kernel) rfl, zv_m2 111 (by decide +kernel) rfl, TX2, 2, rfl⟩
theorem mv_X2_isFull : zv_myV yX2_isFull 2 := ⟨zv_m2 94 (by decide +kernel) rfl, zv_m2 95 (by decide +kernel) rfl, TX2, 2, rfl⟩
theorem mv_X2_put : zv_myV yX2_put 2 := ⟨zv_m2 122 (by decide +kernel) rfl, zv_m2 123 (by decide +kernel) rfl, TX2, 2, rfl⟩
theorem mv_X3_countAll : zv_myV yX3_countAll 3 := ⟨zv_m3 192 (by decide +kernel) rfl, zv_m3 193 (by decide +kernel) rfl, TX3, 8, rfl⟩
theorem mv_X3_findNext : zv_myV yX3_findNext 3 := ⟨zv_m3 221 (by decide +kernel) rfl, zv_m3 222 (by decide +kernel) rfl, TX3, 8, rfl⟩
theorem mv_X3_firstAt : zv_myV yX3_firstAt 3 := ⟨zv_m3 209 (by decide +kernel) rfl, zv_m3 210 (by decide +kernel) rfl, TX3, 8, rfl⟩
theorem mv_X3_goBehind : zv_myV yX3_goBehind 3 := ⟨zv_m3 202 (by decide +kernel) rfl, zv_mem 24 (by decide +kernel) rfl, TX3, 8, rfl⟩
theorem mv_X3_goOn : zv_myV yX3_goOn 3 := ⟨zv_m3 197 (by decide +kernel) rfl, zv_mem 23 (by decide +kernel) rfl, TX3, 8, rfl⟩
theorem mv_X3_noteWay : zv_myV yX3_noteWay 3 := ⟨zv_m3 206 (by decide +kernel) rfl, zv_mem 25 (by decide +kernel) rfl, TX3, 8, rfl⟩
theorem mv_X3_prepare : zv_myV yX3_prepare 3 := ⟨zv_m3 187 (by decide +kernel) rfl, zv_m3 188 (by decide +kernel) rfl, TX3, 8, rfl⟩
theorem mv_X3_startBehind : zv_myV yX3_startBehind 3 := ⟨zv_m3 217 (by decide +kernel) rfl, zv_m3 218 (by decide +kernel) rfl, TX3, 8, rfl⟩
theorem mv_X4_addOwnSquares : zv_myV yX4_addOwnSquares 4 := ⟨zv_m4 3 (by decide +kernel) rfl, zv_m4 4 (by decide +kernel) rfl, TX4, 2, rfl⟩
theorem mv_X4_allSeen : zv_myV yX4_allSeen 4 := ⟨zv_m4 125 (by decide +kernel) rfl, zv_m4 126 (by decide +kernel) rfl, TX4, 2, rfl⟩
theorem mv_X4_join : zv_myV yX4_join 4 := ⟨zv_m3 100 (by decide +kernel) rfl, zv_m3 101 (by decide +kernel) rfl, TX4, 2, rfl⟩
theorem mv_X4_mostJoined : zv_myV yX4_mostJoined 4 := ⟨zv_m3 109 (by decide +kernel) rfl, zv_m3 110 (by decide +kernel) rfl, TX4, 2, rfl⟩
theorem mv_X4_mostSeen : zv_myV yX4_mostSeen 4 := ⟨zv_m4 7 (by decide +kernel) rfl, zv_m4 8 (by decide +kernel) rfl, TX4, 2, rfl⟩
theorem mv_X4_put : zv_myV yX4_put 4 := ⟨zv_m3 96 (by decide +kernel) rfl, zv_m3 97 (by decide +kernel) rfl, TX4, 2, rfl⟩
theorem mv_X4_seersOf : zv_myV yX4_seersOf 4 := ⟨zv_m3 162 (by decide +kernel) rfl, zv_m3 163 (by decide +kernel) rfl, TX4, 2, rfl⟩
theorem mv_X4_together : zv_myV yX4_together 4 := ⟨zv_m3 145 (by decide +kernel) rfl, zv_m3 146 (by decide +kernel) rfl, TX4, 2, rfl⟩
theorem mv_X4_viewFrom : zv_myV yX4_viewFrom 4 := ⟨zv_m3 105 (by decide +kernel) rfl, zv_m3 106 (by decide +kernel) rfl, TX4, 2, rfl⟩
theorem mv_X5_becomes : zv_myV yX5_becomes 5 := ⟨zv_m4 176 (by decide +kernel) rfl, zv_m4 177 (by decide +kernel) rfl, TX5, 9, rfl⟩
theorem mv_X5_dropSeen : zv_myV yX5_dropSeen 5 := ⟨zv_m3 23 (by decide +kernel) rfl, zv_m3 24 (by decide +kernel) rfl, TX5, 9, rfl⟩
theorem mv_X5_leaveBoard : zv_myV yX5_leaveBoard 5 := ⟨zv_m3 11 (by decide +kernel) rfl, zv_m3 12 (by decide +kernel) rfl, TX5, 9, rfl⟩
theorem mv_X5_manOn : zv_myV yX5_manOn 5 := ⟨zv_m3 53 (by decide +kernel) rfl, zv_m3 54 (by decide +kernel) rfl, TX5, 9, rfl⟩
theorem mv_X5_menBits : zv_myV yX5_menBits 5 := ⟨zv_m3 35 (by decide +kernel) rfl, zv_m3 36 (by decide +kernel) rfl, TX5, 9, rfl⟩
theorem mv_X5_menOf : zv_myV yX5_menOf 5 := ⟨zv_m2 114 (by decide +kernel) rfl, zv_m2 115 (by decide +kernel) rfl, TX5, 9, rfl⟩
theorem mv_X5_putMan : zv_myV yX5_putMan 5 := ⟨zv_m3 150 (by decide +kernel) rfl, zv_m3 151 (by decide +kernel) rfl, TX5, 9, rfl⟩
theorem mv_X5_takeAllMen : zv_myV yX5_takeAllMen 5 := ⟨zv_m3 15 (by decide +kernel) rfl, zv_m3 16 (by decide +kernel) rfl, TX5, 9, rfl⟩
theorem mv_X6_become : zv_myV yX6_become 6 := ⟨zv_m4 239 (by decide +kernel) rfl, zv_m5 0 (by decide +kernel) rfl, TX6, 3, rfl⟩
theorem mv_X6_get : zv_myV yX6_get 6 := ⟨zv_m4 166 (by decide +kernel) rfl, zv_m4 167 (by decide +kernel) rfl, TX6, 3, rfl⟩
theorem mv_X6_hasRun : zv_myV yX6_hasRun 6 := ⟨zv_m5 24 (by decide +kernel) rfl, zv_m5 25 (by decide +kernel) rfl, TX6, 3, rfl⟩
theorem mv_X6_holdsNothing : zv_myV yX6_holdsNothing 6 := ⟨zv_m4 145 (by decide +kernel) rfl, zv_m4 146 (by decide +kernel) rfl, TX6, 3, rfl⟩
theorem mv_X6_isPlace : zv_myV yX6_isPlace 6 := ⟨zv_m4 158 (by decide +kernel) rfl, zv_m4 159 (by decide +kernel) rfl, TX6, 3, rfl⟩
theorem mv_X6_isTape : zv_myV yX6_isTape 6 := ⟨zv_m4 141 (by decide +kernel) rfl, zv_m4 142 (by decide +kernel) rfl, TX6, 3, rfl⟩
theorem mv_X6_move : zv_myV yX6_move 6 := ⟨zv_m5 28 (by decide +kernel) rfl, zv_m5 29 (by decide +kernel) rfl, TX6, 3, rfl⟩
theorem mv_X6_put : zv_myV yX6_put 6 := ⟨zv_m5 9 (by decide +kernel) rfl, zv_m5 10 (by decide +kernel) rfl, TX6, 3, rfl⟩
theorem mv_X6_sizeOf : zv_myV yX6_sizeOf 6 := ⟨zv_m4 163 (by decide +kernel) rfl, zv_mem 34 (by decide +kernel) rfl, TX6, 3, rfl⟩
theorem mv_X6_sortOf : zv_myV yX6_sortOf 6 := ⟨zv_m4 149 (by decide +kernel) rfl, zv_m4 150 (by decide +kernel) rfl, TX6, 3, rfl⟩
theorem mv_X7_bring : zv_myV yX7_bring 7 := ⟨zv_m4 90 (by decide +kernel) rfl, zv_mem 30 (by decide +kernel) rfl, TX7, 2, rfl⟩
theorem mv_X7_bringOne : zv_myV yX7_bringOne 7 := ⟨zv_m4 95 (by decide +kernel) rfl, zv_mem 31 (by decide +kernel) rfl, TX7, 2, rfl⟩
theorem mv_X7_fewestSteps : zv_myV yX7_fewestSteps 7 := ⟨zv_m4 73 (by decide +kernel) rfl, zv_m4 74 (by decide +kernel) rfl, TX7, 2, rfl⟩
theorem mv_X7_measure : zv_myV yX7_measure 7 := ⟨zv_m4 81 (by decide +kernel) rfl, zv_mem 29 (by decide +kernel) rfl, TX7, 2, rfl⟩
theorem mv_X8_all : zv_myV yX8_all 8 := ⟨zv_m3 130 (by decide +kernel) rfl, zv_m3 131 (by decide +kernel) rfl, TX8, 4, rfl⟩
theorem mv_X8_free : zv_myV yX8_free 8 := ⟨zv_m3 126 (by decide +kernel) rfl, zv_m3 127 (by decide +kernel) rfl, TX8, 4, rfl⟩
theorem mv_X8_goOn : zv_myV yX8_goOn 8 := ⟨zv_m3 87 (by decide +kernel) rfl, zv_mem 17 (by decide +kernel) rfl, TX8, 4, rfl⟩
theorem mv_X8_layOut : zv_myV yX8_layOut 8 := ⟨zv_m3 7 (by decide +kernel) rfl, zv_m3 8 (by decide +kernel) rfl, TX8, 4, rfl⟩
theorem mv_X8_lookAlong : zv_myV yX8_lookAlong 8 := ⟨zv_m3 75 (by decide +kernel) rfl, zv_mem 16 (by decide +kernel) rfl, TX8, 4, rfl⟩
theorem mv_X8_spread : zv_myV yX8_spread 8 := ⟨zv_m4 84 (by decide +kernel) rfl, zv_m4 85 (by decide +kernel) rfl, TX8, 4, rfl⟩
theorem mv_X8_turn : zv_myV yX8_turn 8 := ⟨zv_m4 52 (by decide +kernel) rfl, zv_m4 53 (by decide +kernel) rfl, TX8, 4, rfl⟩
theorem mv_X8_view : zv_myV yX8_view 8 := ⟨zv_m3 61 (by decide +kernel) rfl, zv_m3 62 (by decide +kernel) rfl, TX8, 4, rfl⟩
theorem mv_X8_waysOf : zv_myV yX8_waysOf 8 := ⟨zv_m3 67 (by decide +kernel) rfl, zv_mem 15 (by decide +kernel) rfl, TX8, 4, rfl⟩
theorem mv_X8_xOf : zv_myV yX8_xOf 8 := ⟨zv_m3 78 (by decide +kernel) rfl, zv_m3 79 (by decide +kernel) rfl, TX8, 4, rfl⟩
theorem mv_X8_yOf : zv_myV yX8_yOf 8 := ⟨zv_m3 82 (by decide +kernel) rfl, zv_m3 83 (by decide +kernel) rfl, TX8, 4, rfl⟩
theorem mv_X9_add : zv_myV yX9_add 9 := ⟨zv_m2 134 (by decide +kernel) rfl, zv_m2 135 (by decide +kernel) rfl, TX9, 10, rfl⟩
theorem mv_X9_isFull : zv_myV yX9_isFull 9 := ⟨zv_m2 130 (by decide +kernel) rfl, zv_m2 131 (by decide +kernel) rfl, TX9, 10, rfl⟩
theorem mv_X9_isLetter : zv_myV yX9_isLetter 9 := ⟨zv_m2 229 (by decide +kernel) rfl, zv_mem 8 (by decide +kernel) rfl, TX9, 10, rfl⟩
theorem mv_X9_moveTo : zv_myV yX9_moveTo 9 := ⟨zv_m2 147 (by decide +kernel) rfl, zv_mem 1 (by decide +kernel) rfl, TX9, 10, rfl⟩
theorem mv_X9_numberOf : zv_myV yX9_numberOf 9 := ⟨zv_m2 237 (by decide +kernel) rfl, zv_mem 10 (by decide +kernel) rfl, TX9, 10, rfl⟩
theorem mv_X9_readAny : zv_myV yX9_readAny 9 := ⟨zv_m2 217 (by decide +kernel) rfl, zv_mem 5 (by decide +kernel) rfl, TX9, 10, rfl⟩
theorem mv_X9_readClause : zv_myV yX9_readClause 9 := ⟨zv_m2 151 (by decide +kernel) rfl, zv_mem 2 (by decide +kernel) rfl, TX9, 10, rfl⟩
theorem mv_X9_readClauses : zv_myV yX9_readClauses 9 := ⟨zv_m2 142 (by decide +kernel) rfl, zv_m2 143 (by decide +kernel) rfl, TX9, 10, rfl⟩
theorem mv_X9_readNumber : zv_myV yX9_readNumber 9 := ⟨zv_m2 208 (by decide +kernel) rfl, zv_mem 4 (by decide +kernel) rfl, TX9, 10, rfl⟩
theorem mv_X9_readOne : zv_myV yX9_readOne 9 := ⟨zv_m2 221 (by decide +kernel) rfl, zv_mem 6 (by decide +kernel) rfl, TX9, 10, rfl⟩
theorem mv_X9_readTest : zv_myV yX9_readTest 9 := ⟨zv_m2 225 (by decide +kernel) rfl, zv_mem 7 (by decide +kernel) rfl, TX9, 10, rfl⟩
theorem mv_X9_readWord : zv_myV yX9_readWord 9 := ⟨zv_m2 156 (by decide +kernel) rfl, zv_mem 3 (by decide +kernel) rfl, TX9, 10, rfl⟩
theorem mv_X9_squaresOf : zv_myV yX9_squaresOf 9 := ⟨zv_m2 233 (by decide +kernel) rfl, zv_mem 9 (by decide +kernel) rfl, TX9, 10, rfl⟩
theorem mv_X11_act : zv_myV yX11_act 11 := ⟨zv_m7 153 (by decide +kernel) rfl, zv_m7 154 (by decide +kernel) rfl, TX11, 72, rfl⟩
theorem mv_X11_after : zv_myV yX11_after 11 := ⟨zv_m7 8 (by decide +kernel) rfl, zv_m7 9 (by decide +kernel) rfl, TX11, 72, rfl⟩
theorem mv_X11_aim : zv_myV yX11_aim 11 := ⟨zv_m7 84 (by decide +kernel) rfl, zv_m7 85 (by decide +kernel) rfl, TX11, 72, rfl⟩
theorem mv_X11_alike : zv_myV yX11_alike 11 := ⟨zv_m7 80 (by decide +kernel) rfl, zv_m7 81 (by decide +kernel) rfl, TX11, 72, rfl⟩
theorem mv_X11_apart : zv_myV yX11_apart 11 := ⟨zv_m6 149 (by decide +kernel) rfl, zv_mem 63 (by decide +kernel) rfl, TX11, 72, rfl⟩
theorem mv_X11_at : zv_myV yX11_at 11 := ⟨zv_m6 224 (by decide +kernel) rfl, zv_m6 225 (by decide +kernel) rfl, TX11, 72, rfl⟩
theorem mv_X11_away : zv_myV yX11_away 11 := ⟨zv_m6 173 (by decide +kernel) rfl, zv_mem 68 (by decide +kernel) rfl, TX11, 72, rfl⟩
theorem mv_X11_begin : zv_myV yX11_begin 11 := ⟨zv_m6 129 (by decide +kernel) rfl, zv_mem 58 (by decide +kernel) rfl, TX11, 72, rfl⟩
theorem mv_X11_behind : zv_myV yX11_behind 11 := ⟨zv_m6 133 (by decide +kernel) rfl, zv_mem 59 (by decide +kernel) rfl, TX11, 72, rfl⟩
theorem mv_X11_body : zv_myV yX11_body 11 := ⟨zv_m7 162 (by decide +kernel) rfl, zv_mem 99 (by decide +kernel) rfl, TX11, 72, rfl⟩
theorem mv_X11_book : zv_myV yX11_book 11 := ⟨zv_m7 129 (by decide +kernel) rfl, zv_m7 130 (by decide +kernel) rfl, TX11, 72, rfl⟩
theorem mv_X11_clear : zv_myV yX11_clear 11 := ⟨zv_m6 36 (by decide +kernel) rfl, zv_m6 37 (by decide +kernel) rfl, TX11, 72, rfl⟩
theorem mv_X11_count : zv_myV yX11_count 11 := ⟨zv_m7 197 (by decide +kernel) rfl, zv_m7 198 (by decide +kernel) rfl, TX11, 72, rfl⟩
theorem mv_X11_divisor : zv_myV yX11_divisor 11 := ⟨zv_m7 122 (by decide +kernel) rfl, zv_mem 96 (by decide +kernel) rfl, TX11, 72, rfl⟩
theorem mv_X11_emits : zv_myV yX11_emits 11 := ⟨zv_m6 113 (by decide +kernel) rfl, zv_mem 54 (by decide +kernel) rfl, TX11, 72, rfl⟩
theorem mv_X11_factOf : zv_myV yX11_factOf 11 := ⟨zv_m6 145 (by decide +kernel) rfl, zv_mem 62 (by decide +kernel) rfl, TX11, 72, rfl⟩
theorem mv_X11_feed : zv_myV yX11_feed 11 := ⟨zv_m6 56 (by decide +kernel) rfl, zv_m6 57 (by decide +kernel) rfl, TX11, 72, rfl⟩
theorem mv_X11_fraction : zv_myV yX11_fraction 11 := ⟨zv_m7 118 (by decide +kernel) rfl, zv_mem 95 (by decide +kernel) rfl, TX11, 72, rfl⟩
theorem mv_X11_game : zv_myV yX11_game 11 := ⟨zv_m7 64 (by decide +kernel) rfl, zv_m7 65 (by decide +kernel) rfl, TX11, 72, rfl⟩
theorem mv_X11_goes : zv_myV yX11_goes 11 := ⟨zv_m7 53 (by decide +kernel) rfl, zv_mem 87 (by decide +kernel) rfl, TX11, 72, rfl⟩
theorem mv_X11_goesText : zv_myV yX11_goesText 11 := ⟨zv_m6 65 (by decide +kernel) rfl, zv_mem 42 (by decide +kernel) rfl, TX11, 72, rfl⟩
theorem mv_X11_gone : zv_myV yX11_gone 11 := ⟨zv_m7 61 (by decide +kernel) rfl, zv_mem 89 (by decide +kernel) rfl, TX11, 72, rfl⟩
theorem mv_X11_has : zv_myV yX11_has 11 := ⟨zv_m6 177 (by decide +kernel) rfl, zv_mem 69 (by decide +kernel) rfl, TX11, 72, rfl⟩
theorem mv_X11_hold : zv_myV yX11_hold 11 := ⟨zv_m7 24 (by decide +kernel) rfl, zv_m7 25 (by decide +kernel) rfl, TX11, 72, rfl⟩
theorem mv_X11_holds : zv_myV yX11_holds 11 := ⟨zv_m6 141 (by decide +kernel) rfl, zv_mem 61 (by decide +kernel) rfl, TX11, 72, rfl⟩
theorem mv_X11_image : zv_myV yX11_image 11 := ⟨zv_m7 145 (by decide +kernel) rfl, zv_m7 146 (by decide +kernel) rfl, TX11, 72, rfl⟩
theorem mv_X11_in : zv_myV yX11_in 11 := ⟨zv_m6 25 (by decide +kernel) rfl, zv_mem 37 (by decide +kernel) rfl, TX11, 72, rfl⟩
theorem mv_X11_isAlike : zv_myV yX11_isAlike 11 := ⟨zv_m7 73 (by decide +kernel) rfl, zv_mem 90 (by decide +kernel) rfl, TX11, 72, rfl⟩
theorem mv_X11_isDigit : zv_myV yX11_isDigit 11 := ⟨zv_m6 109 (by decide +kernel) rfl, zv_mem 53 (by decide +kernel) rfl, TX11, 72, rfl⟩
theorem mv_X11_isFit : zv_myV yX11_isFit 11 := ⟨zv_m6 217 (by decide +kernel) rfl, zv_mem 77 (by decide +kernel) rfl, TX11, 72, rfl⟩
theorem mv_X11_isPeace : zv_myV yX11_isPeace 11 := ⟨zv_m6 197 (by decide +kernel) rfl, zv_mem 73 (by decide +kernel) rfl, TX11, 72, rfl⟩
theorem mv_X11_isPeaceOf : zv_myV yX11_isPeaceOf 11 := ⟨zv_m7 57 (by decide +kernel) rfl, zv_mem 88 (by decide +kernel) rfl, TX11, 72, rfl⟩
theorem mv_X11_isPlan : zv_myV yX11_isPlan 11 := ⟨zv_m6 33 (by decide +kernel) rfl, zv_mem 38 (by decide +kernel) rfl, TX11, 72, rfl⟩
theorem mv_X11_isSeen : zv_myV yX11_isSeen 11 := ⟨zv_m7 109 (by decide +kernel) rfl, zv_mem 94 (by decide +kernel) rfl, TX11, 72, rfl⟩
theorem mv_X11_isSquare : zv_myV yX11_isSquare 11 := ⟨zv_m6 157 (by decide +kernel) rfl, zv_mem 64 (by decide +kernel) rfl, TX11, 72, rfl⟩
theorem mv_X11_isTape : zv_myV yX11_isTape 11 := ⟨zv_m7 142 (by decide +kernel) rfl, zv_mem 97 (by decide +kernel) rfl, TX11, 72, rfl⟩
theorem mv_X11_isWay : zv_myV yX11_isWay 11 := ⟨zv_m7 1 (by decide +kernel) rfl, zv_mem 79 (by decide +kernel) rfl, TX11, 72, rfl⟩
theorem mv_X11_item : zv_myV yX11_item 11 := ⟨zv_m7 205 (by decide +kernel) rfl, zv_m7 206 (by decide +kernel) rfl, TX11, 72, rfl⟩
theorem mv_X11_judge : zv_myV yX11_judge 11 := ⟨zv_m7 137 (by decide +kernel) rfl, zv_m7 138 (by decide +kernel) rfl, TX11, 72, rfl⟩
theorem mv_X11_layBad : zv_myV yX11_layBad 11 := ⟨zv_m6 237 (by decide +kernel) rfl, zv_mem 78 (by decide +kernel) rfl, TX11, 72, rfl⟩
theorem mv_X11_layBoard : zv_myV yX11_layBoard 11 := ⟨zv_m6 125 (by decide +kernel) rfl, zv_mem 57 (by decide +kernel) rfl, TX11, 72, rfl⟩
theorem mv_X11_layHold : zv_myV yX11_layHold 11 := ⟨zv_m7 29 (by decide +kernel) rfl, zv_mem 83 (by decide +kernel) rfl, TX11, 72, rfl⟩
theorem mv_X11_layMen : zv_myV yX11_layMen 11 := ⟨zv_m7 13 (by decide +kernel) rfl, zv_mem 81 (by decide +kernel) rfl, TX11, 72, rfl⟩
theorem mv_X11_layOrder : zv_myV yX11_layOrder 11 := ⟨zv_m7 97 (by decide +kernel) rfl, zv_mem 93 (by decide +kernel) rfl, TX11, 72, rfl⟩
theorem mv_X11_laySteps : zv_myV yX11_laySteps 11 := ⟨zv_m7 93 (by decide +kernel) rfl, zv_mem 92 (by decide +kernel) rfl, TX11, 72, rfl⟩
theorem mv_X11_leaps : zv_myV yX11_leaps 11 := ⟨zv_m6 189 (by decide +kernel) rfl, zv_mem 72 (by decide +kernel) rfl, TX11, 72, rfl⟩
theorem mv_X11_line : zv_myV yX11_line 11 := ⟨zv_m6 169 (by decide +kernel) rfl, zv_mem 67 (by decide +kernel) rfl, TX11, 72, rfl⟩
theorem mv_X11_lines : zv_myV yX11_lines 11 := ⟨zv_m6 165 (by decide +kernel) rfl, zv_mem 66 (by decide +kernel) rfl, TX11, 72, rfl⟩
theorem mv_X11_looked : zv_myV yX11_looked 11 := ⟨zv_m7 133 (by decide +kernel) rfl, zv_m7 134 (by decide +kernel) rfl, TX11, 72, rfl⟩
theorem mv_X11_looksAct : zv_myV yX11_looksAct 11 := ⟨zv_m7 158 (by decide +kernel) rfl, zv_mem 98 (by decide +kernel) rfl, TX11, 72, rfl⟩
theorem mv_X11_lowest : zv_myV yX11_lowest 11 := ⟨zv_m7 21 (by decide +kernel) rfl, zv_mem 82 (by decide +kernel) rfl, TX11, 72, rfl⟩
theorem mv_X11_manLooks : zv_myV yX11_manLooks 11 := ⟨zv_m7 166 (by decide +kernel) rfl, zv_mem 100 (by decide +kernel) rfl, TX11, 72, rfl⟩
theorem mv_X11_manSees : zv_myV yX11_manSees 11 := ⟨zv_m7 178 (by decide +kernel) rfl, zv_mem 103 (by decide +kernel) rfl, TX11, 72, rfl⟩
theorem mv_X11_manTells : zv_myV yX11_manTells 11 := ⟨zv_m7 186 (by decide +kernel) rfl, zv_mem 105 (by decide +kernel) rfl, TX11, 72, rfl⟩
theorem mv_X11_mayBe : zv_myV yX11_mayBe 11 := ⟨zv_m6 213 (by decide +kernel) rfl, zv_mem 76 (by decide +kernel) rfl, TX11, 72, rfl⟩
theorem mv_X11_mayHold : zv_myV yX11_mayHold 11 := ⟨zv_m7 33 (by decide +kernel) rfl, zv_mem 84 (by decide +kernel) rfl, TX11, 72, rfl⟩
theorem mv_X11_mean : zv_myV yX11_mean 11 := ⟨zv_m7 125 (by decide +kernel) rfl, zv_m7 126 (by decide +kernel) rfl, TX11, 72, rfl⟩
theorem mv_X11_men : zv_myV yX11_men 11 := ⟨zv_m6 45 (by decide +kernel) rfl, zv_mem 40 (by decide +kernel) rfl, TX11, 72, rfl⟩
theorem mv_X11_more : zv_myV yX11_more 11 := ⟨zv_m7 40 (by decide +kernel) rfl, zv_m7 41 (by decide +kernel) rfl, TX11, 72, rfl⟩
theorem mv_X11_moreOf : zv_myV yX11_moreOf 11 := ⟨zv_m7 45 (by decide +kernel) rfl, zv_mem 86 (by decide +kernel) rfl, TX11, 72, rfl⟩
theorem mv_X11_most : zv_myV yX11_most 11 := ⟨zv_m7 16 (by decide +kernel) rfl, zv_m7 17 (by decide +kernel) rfl, TX11, 72, rfl⟩
theorem mv_X11_narrow : zv_myV yX11_narrow 11 := ⟨zv_m7 210 (by decide +kernel) rfl, zv_mem 106 (by decide +kernel) rfl, TX11, 72, rfl⟩
theorem mv_X11_next : zv_myV yX11_next 11 := ⟨zv_m6 77 (by decide +kernel) rfl, zv_mem 45 (by decide +kernel) rfl, TX11, 72, rfl⟩
theorem mv_X11_nextRow : zv_myV yX11_nextRow 11 := ⟨zv_m7 5 (by decide +kernel) rfl, zv_mem 80 (by decide +kernel) rfl, TX11, 72, rfl⟩
theorem mv_X11_nextTo : zv_myV yX11_nextTo 11 := ⟨zv_m6 181 (by decide +kernel) rfl, zv_mem 70 (by decide +kernel) rfl, TX11, 72, rfl⟩
theorem mv_X11_odds : zv_myV yX11_odds 11 := ⟨zv_m7 112 (by decide +kernel) rfl, zv_m7 113 (by decide +kernel) rfl, TX11, 72, rfl⟩
theorem mv_X11_of : zv_myV yX11_of 11 := ⟨zv_m6 52 (by decide +kernel) rfl, zv_m6 53 (by decide +kernel) rfl, TX11, 72, rfl⟩
theorem mv_X11_one : zv_myV yX11_one 11 := ⟨zv_m6 185 (by decide +kernel) rfl, zv_mem 71 (by decide +kernel) rfl, TX11, 72, rfl⟩
theorem mv_X11_ones : zv_myV yX11_ones 11 := ⟨zv_m6 49 (by decide +kernel) rfl, zv_mem 41 (by decide +kernel) rfl, TX11, 72, rfl⟩
theorem mv_X11_place : zv_myV yX11_place 11 := ⟨zv_m6 101 (by decide +kernel) rfl, zv_mem 51 (by decide +kernel) rfl, TX11, 72, rfl⟩
theorem mv_X11_plan : zv_myV yX11_plan 11 := ⟨zv_m6 20 (by decide +kernel) rfl, zv_m6 21 (by decide +kernel) rfl, TX11, 72, rfl⟩
theorem mv_X11_quarrels : zv_myV yX11_quarrels 11 := ⟨zv_m6 201 (by decide +kernel) rfl, zv_mem 74 (by decide +kernel) rfl, TX11, 72, rfl⟩
theorem mv_X11_reach : zv_myV yX11_reach 11 := ⟨zv_m7 88 (by decide +kernel) rfl, zv_m7 89 (by decide +kernel) rfl, TX11, 72, rfl⟩
theorem mv_X11_read : zv_myV yX11_read 11 := ⟨zv_m7 213 (by decide +kernel) rfl, zv_m7 214 (by decide +kernel) rfl, TX11, 72, rfl⟩
theorem mv_X11_right : zv_myV yX11_right 11 := ⟨zv_m7 48 (by decide +kernel) rfl, zv_m7 49 (by decide +kernel) rfl, TX11, 72, rfl⟩
theorem mv_X11_rookSees : zv_myV yX11_rookSees 11 := ⟨zv_m7 174 (by decide +kernel) rfl, zv_mem 102 (by decide +kernel) rfl, TX11, 72, rfl⟩
theorem mv_X11_row : zv_myV yX11_row 11 := ⟨zv_m6 28 (by decide +kernel) rfl, zv_m6 29 (by decide +kernel) rfl, TX11, 72, rfl⟩
theorem mv_X11_rubbed : zv_myV yX11_rubbed 11 := ⟨zv_m7 104 (by decide +kernel) rfl, zv_m7 105 (by decide +kernel) rfl, TX11, 72, rfl⟩
theorem mv_X11_see : zv_myV yX11_see 11 := ⟨zv_m7 100 (by decide +kernel) rfl, zv_m7 101 (by decide +kernel) rfl, TX11, 72, rfl⟩
theorem mv_X11_seersOf : zv_myV yX11_seersOf 11 := ⟨zv_m6 205 (by decide +kernel) rfl, zv_mem 75 (by decide +kernel) rfl, TX11, 72, rfl⟩
theorem mv_X11_sees : zv_myV yX11_sees 11 := ⟨zv_m6 152 (by decide +kernel) rfl, zv_m6 153 (by decide +kernel) rfl, TX11, 72, rfl⟩
theorem mv_X11_seesAct : zv_myV yX11_seesAct 11 := ⟨zv_m7 170 (by decide +kernel) rfl, zv_mem 101 (by decide +kernel) rfl, TX11, 72, rfl⟩
theorem mv_X11_seesOf : zv_myV yX11_seesOf 11 := ⟨zv_m6 161 (by decide +kernel) rfl, zv_mem 65 (by decide +kernel) rfl, TX11, 72, rfl⟩
theorem mv_X11_set : zv_myV yX11_set 11 := ⟨zv_m6 208 (by decide +kernel) rfl, zv_m6 209 (by decide +kernel) rfl, TX11, 72, rfl⟩
theorem mv_X11_settle : zv_myV yX11_settle 11 := ⟨zv_m6 121 (by decide +kernel) rfl, zv_mem 56 (by decide +kernel) rfl, TX11, 72, rfl⟩
theorem mv_X11_shift : zv_myV yX11_shift 11 := ⟨zv_m7 217 (by decide +kernel) rfl, zv_m7 218 (by decide +kernel) rfl, TX11, 72, rfl⟩
theorem mv_X11_squaresOf : zv_myV yX11_squaresOf 11 := ⟨zv_m6 137 (by decide +kernel) rfl, zv_mem 60 (by decide +kernel) rfl, TX11, 72, rfl⟩
theorem mv_X11_take : zv_myV yX11_take 11 := ⟨zv_m6 220 (by decide +kernel) rfl, zv_m6 221 (by decide +kernel) rfl, TX11, 72, rfl⟩
theorem mv_X11_takeAll : zv_myV yX11_takeAll 11 := ⟨zv_m6 41 (by decide +kernel) rfl, zv_mem 39 (by decide +kernel) rfl, TX11, 72, rfl⟩
theorem mv_X11_taken : zv_myV yX11_taken 11 := ⟨zv_m7 193 (by decide +kernel) rfl, zv_m7 194 (by decide +kernel) rfl, TX11, 72, rfl⟩
theorem mv_X11_takes : zv_myV yX11_takes 11 := ⟨zv_m6 89 (by decide +kernel) rfl, zv_mem 48 (by decide +kernel) rfl, TX11, 72, rfl⟩
theorem mv_X11_takesAlone : zv_myV yX11_takesAlone 11 := ⟨zv_m6 85 (by decide +kernel) rfl, zv_mem 47 (by decide +kernel) rfl, TX11, 72, rfl⟩
theorem mv_X11_takesClause : zv_myV yX11_takesClause 11 := ⟨zv_m6 69 (by decide +kernel) rfl, zv_mem 43 (by decide +kernel) rfl, TX11, 72, rfl⟩
theorem mv_X11_takesE : zv_myV yX11_takesE 11 := ⟨zv_m6 93 (by decide +kernel) rfl, zv_mem 49 (by decide +kernel) rfl, TX11, 72, rfl⟩
theorem mv_X11_takesHead : zv_myV yX11_takesHead 11 := ⟨zv_m6 73 (by decide +kernel) rfl, zv_mem 44 (by decide +kernel) rfl, TX11, 72, rfl⟩
theorem mv_X11_takesNumber : zv_myV yX11_takesNumber 11 := ⟨zv_m6 105 (by decide +kernel) rfl, zv_mem 52 (by decide +kernel) rfl, TX11, 72, rfl⟩
theorem mv_X11_takesTest : zv_myV yX11_takesTest 11 := ⟨zv_m6 97 (by decide +kernel) rfl, zv_mem 50 (by decide +kernel) rfl, TX11, 72, rfl⟩
theorem mv_X11_takesWord : zv_myV yX11_takesWord 11 := ⟨zv_m6 81 (by decide +kernel) rfl, zv_mem 46 (by decide +kernel) rfl, TX11, 72, rfl⟩
theorem mv_X11_tape : zv_myV yX11_tape 11 := ⟨zv_m7 201 (by decide +kernel) rfl, zv_m7 202 (by decide +kernel) rfl, TX11, 72, rfl⟩
theorem mv_X11_tellsAct : zv_myV yX11_tellsAct 11 := ⟨zv_m7 182 (by decide +kernel) rfl, zv_mem 104 (by decide +kernel) rfl, TX11, 72, rfl⟩
theorem mv_X11_told : zv_myV yX11_told 11 := ⟨zv_m6 192 (by decide +kernel) rfl, zv_m6 193 (by decide +kernel) rfl, TX11, 72, rfl⟩
theorem mv_X11_trace : zv_myV yX11_trace 11 := ⟨zv_m7 189 (by decide +kernel) rfl, zv_m7 190 (by decide +kernel) rfl, TX11, 72, rfl⟩
theorem mv_X11_tries : zv_myV yX11_tries 11 := ⟨zv_m7 37 (by decide +kernel) rfl, zv_mem 85 (by decide +kernel) rfl, TX11, 72, rfl⟩
theorem mv_X11_turned : zv_myV yX11_turned 11 := ⟨zv_m7 68 (by decide +kernel) rfl, zv_m7 69 (by decide +kernel) rfl, TX11, 72, rfl⟩
theorem mv_X11_turnedSquare : zv_myV yX11_turnedSquare 11 := ⟨zv_m7 77 (by decide +kernel) rfl, zv_mem 91 (by decide +kernel) rfl, TX11, 72, rfl⟩
theorem mv_X11_undo : zv_myV yX11_undo 11 := ⟨zv_m7 149 (by decide +kernel) rfl, zv_m7 150 (by decide +kernel) rfl, TX11, 72, rfl⟩
theorem mv_X11_ways : zv_myV yX11_ways 11 := ⟨zv_m6 232 (by decide +kernel) rfl, zv_m6 233 (by decide +kernel) rfl, TX11, 72, rfl⟩
theorem mv_X11_whole : zv_myV yX11_whole 11 := ⟨zv_m6 117 (by decide +kernel) rfl, zv_mem 55 (by decide +kernel) rfl, TX11, 72, rfl⟩
theorem mv_X11_worst : zv_myV yX11_worst 11 := ⟨zv_m6 228 (by decide +kernel) rfl, zv_m6 229 (by decide +kernel) rfl, TX11, 72, rfl⟩
theorem mv_X11_yard : zv_myV yX11_yard 11 := ⟨zv_m6 60 (by decide +kernel) rfl, zv_m6 61 (by decide +kernel) rfl, TX11, 72, rfl⟩
theorem ws_X10_allSquares : Cond.static yX10_allSquares ∈ zv_tbl := zv_m3 0 (by decide +kernel) rfl
theorem ws_X10_fraction : Cond.static yX10_fraction ∈ zv_tbl := zv_m4 118 (by decide +kernel) rfl
theorem ws_X10_isIn : Cond.static yX10_isIn ∈ zv_tbl := zv_m3 93 (by decide +kernel) rfl
theorem ws_X10_isKind : Cond.static yX10_isKind ∈ zv_tbl := zv_m2 89 (by decide +kernel) rfl
theorem ws_X10_isUnder : Cond.static yX10_isUnder ∈ zv_tbl := zv_m4 228 (by decide +kernel) rfl
theorem ws_X10_leastHolders : Cond.static yX10_leastHolders ∈ zv_tbl := zv_m4 12 (by decide +kernel) rfl
theorem ws_X10_leastLinked : Cond.static yX10_leastLinked ∈ zv_tbl := zv_m3 232 (by decide +kernel) rfl
theorem ws_X10_leastRemoved : Cond.static yX10_leastRemoved ∈ zv_tbl := zv_m4 23 (by decide +kernel) rfl
theorem ws_X10_mostApart : Cond.static yX10_mostApart ∈ zv_tbl := zv_m3 229 (by decide +kernel) rfl
theorem ws_X10_mostLinked : Cond.static yX10_mostLinked ∈ zv_tbl := zv_m3 235 (by decide +kernel) rfl
theorem ws_X0_bodyOf : Cond.static yX0_bodyOf ∈ zv_tbl := zv_m4 210 (by decide +kernel) rfl
theorem ws_X6_fitted : Cond.static yX6_fitted ∈ zv_tbl := zv_m5 13 (by decide +kernel) rfl
theorem ws_J6_bitCount_0f7a4 : Cond.static yJ6_bitCount_0f7a4 ∈ zv_tbl := zv_m3 39 (by decide +kernel) rfl
theorem ws_J9_floorMod_7cf53 : Cond.static yJ9_floorMod_7cf53 ∈ zv_tbl := zv_m3 90 (by decide +kernel) rfl
theorem ws_J9_max_7cf53 : Cond.static yJ9_max_7cf53 ∈ zv_tbl := zv_m1 42 (by decide +kernel) rfl
theorem ws_J9_min_7cf53 : Cond.static yJ9_min_7cf53 ∈ zv_tbl := zv_m2 212 (by decide +kernel) rfl
theorem ws_J7_fill_53178 : Cond.static yJ7_fill_53178 ∈ zv_tbl := zv_m1 55 (by decide +kernel) rfl
theorem pn_X10 : plainName RX10 = true := by decide +kernel
theorem pn_X0 : plainName RX0 = true := by decide +kernel
theorem pn_X1 : plainName RX1 = true := by decide +kernel
theorem pn_X2 : plainName RX2 = true := by decide +kernel
theorem pn_X3 : plainName RX3 = true := by decide +kernel
theorem pn_X4 : plainName RX4 = true := by decide +kernel
theorem pn_X5 : plainName RX5 = true := by decide +kernel
theorem pn_X6 : plainName RX6 = true := by decide +kernel
theorem pn_X7 : plainName RX7 = true := by decide +kernel
theorem pn_X8 : plainName RX8 = true := by decide +kernel
theorem pn_X9 : plainName RX9 = true := by decide +kernel
theorem pn_X11 : plainName RX11 = true := by decide +kernel
theorem pn_J6 : plainName RJ6 = true := by decide +kernel
theorem pn_J7 : plainName RJ7 = true := by decide +kernel
theorem pf_X10_act : plainFor yX10_act = true := plainFor_of_name pn_X10
theorem pf_X10_after : plainFor yX10_after = true := plainFor_of_name pn_X10
theorem pf_X10_aim : plainFor yX10_aim = true := plainFor_of_name pn_X10
theorem pf_X10_alike : plainFor yX10_alike = true := plainFor_of_name pn_X10
theorem pf_X10_allSquares : plainFor yX10_allSquares = true := plainFor_of_name pn_X10
theorem pf_X10_at : plainFor yX10_at = true := plainFor_of_name pn_X10
theorem pf_X10_book : plainFor yX10_book = true := plainFor_of_name pn_X10
theorem pf_X10_clear : plainFor yX10_clear = true := plainFor_of_name pn_X10
theorem pf_X10_count : plainFor yX10_count = true := plainFor_of_name pn_X10
theorem pf_X10_feed : plainFor yX10_feed = true := plainFor_of_name pn_X10
theorem pf_X10_fitting : plainFor yX10_fitting = true := plainFor_of_name pn_X10
theorem pf_X10_fraction : plainFor yX10_fraction = true := plainFor_of_name pn_X10
theorem pf_X10_game : plainFor yX10_game = true := plainFor_of_name pn_X10
theorem pf_X10_ground : plainFor yX10_ground = true := plainFor_of_name pn_X10
theorem pf_X10_hold : plainFor yX10_hold = true := plainFor_of_name pn_X10
theorem pf_X10_image : plainFor yX10_image = true := plainFor_of_name pn_X10
theorem pf_X10_isIn : plainFor yX10_isIn = true := plainFor_of_name pn_X10
theorem pf_X10_isKind : plainFor yX10_isKind = true := plainFor_of_name pn_X10
theorem pf_X10_isPlan : plainFor yX10_isPlan = true := plainFor_of_name pn_X10
theorem pf_X10_isSquare : plainFor yX10_isSquare = true := plainFor_of_name pn_X10
theorem pf_X10_isUnder : plainFor yX10_isUnder = true := plainFor_of_name pn_X10
theorem pf_X10_item : plainFor yX10_item = true := plainFor_of_name pn_X10
theorem pf_X10_joinMen : plainFor yX10_joinMen = true := plainFor_of_name pn_X10
theorem pf_X10_judge : plainFor yX10_judge = true := plainFor_of_name pn_X10
theorem pf_X10_judged : plainFor yX10_judged = true := plainFor_of_name pn_X10
theorem pf_X10_leastHolders : plainFor yX10_leastHolders = true := plainFor_of_name pn_X10
theorem pf_X10_leastLinked : plainFor yX10_leastLinked = true := plainFor_of_name pn_X10
theorem pf_X10_leastRemoved : plainFor yX10_leastRemoved = true := plainFor_of_name pn_X10
theorem pf_X10_lookByMen : plainFor yX10_lookByMen = true := plainFor_of_name pn_X10
theorem pf_X10_lookByPlan : plainFor yX10_lookByPlan = true := plainFor_of_name pn_X10
theorem pf_X10_looked : plainFor yX10_looked = true := plainFor_of_name pn_X10
theorem pf_X10_looksSame : plainFor yX10_looksSame = true := plainFor_of_name pn_X10
theorem pf_X10_makesSeenSo : plainFor yX10_makesSeenSo = true := plainFor_of_name pn_X10
theorem pf_X10_mean : plainFor yX10_mean = true := plainFor_of_name pn_X10
theorem pf_X10_more : plainFor yX10_more = true := plainFor_of_name pn_X10
theorem pf_X10_most : plainFor yX10_most = true := plainFor_of_name pn_X10
theorem pf_X10_mostApart : plainFor yX10_mostApart = true := plainFor_of_name pn_X10
theorem pf_X10_mostLinked : plainFor yX10_mostLinked = true := plainFor_of_name pn_X10
theorem pf_X10_odds : plainFor yX10_odds = true := plainFor_of_name pn_X10
theorem pf_X10_of : plainFor yX10_of = true := plainFor_of_name pn_X10
theorem pf_X10_openSquares : plainFor yX10_openSquares = true := plainFor_of_name pn_X10
theorem pf_X10_plan : plainFor yX10_plan = true := plainFor_of_name pn_X10
theorem pf_X10_prepareRowSearch : plainFor yX10_prepareRowSearch = true := plainFor_of_name pn_X10
theorem pf_X10_reach : plainFor yX10_reach = true := plainFor_of_name pn_X10
theorem pf_X10_read : plainFor yX10_read = true := plainFor_of_name pn_X10
theorem pf_X10_right : plainFor yX10_right = true := plainFor_of_name pn_X10
theorem pf_X10_row : plainFor yX10_row = true := plainFor_of_name pn_X10
theorem pf_X10_rubbed : plainFor yX10_rubbed = true := plainFor_of_name pn_X10
theorem pf_X10_see : plainFor yX10_see = true := plainFor_of_name pn_X10
theorem pf_X10_sees : plainFor yX10_sees = true := plainFor_of_name pn_X10
theorem pf_X10_set : plainFor yX10_set = true := plainFor_of_name pn_X10
theorem pf_X10_shift : plainFor yX10_shift = true := plainFor_of_name pn_X10
theorem pf_X10_take : plainFor yX10_take = true := plainFor_of_name pn_X10
theorem pf_X10_taken : plainFor yX10_taken = true := plainFor_of_name pn_X10
theorem pf_X10_tape : plainFor yX10_tape = true := plainFor_of_name pn_X10
theorem pf_X10_told : plainFor yX10_told = true := plainFor_of_name pn_X10
theorem pf_X10_trace : plainFor yX10_trace = true := plainFor_of_name pn_X10
theorem pf_X10_turned : plainFor yX10_turned = true := plainFor_of_name pn_X10
theorem pf_X10_undo : plainFor yX10_undo = true := plainFor_of_name pn_X10
theorem pf_X10_viewOf : plainFor yX10_viewOf = true := plainFor_of_name pn_X10
theorem pf_X10_ways : plainFor yX10_ways = true := plainFor_of_name pn_X10
theorem pf_X10_worst : plainFor yX10_worst = true := plainFor_of_name pn_X10
theorem pf_X10_yard : plainFor yX10_yard = true := plainFor_of_name pn_X10
theorem pf_X0_answerOf : plainFor yX0_answerOf = true := plainFor_of_name pn_X0
theorem pf_X0_bodyOf : plainFor yX0_bodyOf = true := plainFor_of_name pn_X0
theorem pf_X0_forget : plainFor yX0_forget = true := plainFor_of_name pn_X0
theorem pf_X0_run : plainFor yX0_run = true := plainFor_of_name pn_X0
theorem pf_X0_start : plainFor yX0_start = true := plainFor_of_name pn_X0
theorem pf_X1_firstWins : plainFor yX1_firstWins = true := plainFor_of_name pn_X1
theorem pf_X1_gather : plainFor yX1_gather = true := plainFor_of_name pn_X1
theorem pf_X1_goneBy : plainFor yX1_goneBy = true := plainFor_of_name pn_X1
theorem pf_X2_add : plainFor yX2_add = true := plainFor_of_name pn_X2
theorem pf_X2_becomes : plainFor yX2_becomes = true := plainFor_of_name pn_X2
theorem pf_X2_contains : plainFor yX2_contains = true := plainFor_of_name pn_X2
theorem pf_X2_drop : plainFor yX2_drop = true := plainFor_of_name pn_X2
theorem pf_X2_get : plainFor yX2_get = true := plainFor_of_name pn_X2
theorem pf_X2_isFull : plainFor yX2_isFull = true := plainFor_of_name pn_X2
theorem pf_X2_put : plainFor yX2_put = true := plainFor_of_name pn_X2
theorem pf_X3_countAll : plainFor yX3_countAll = true := plainFor_of_name pn_X3
theorem pf_X3_findNext : plainFor yX3_findNext = true := plainFor_of_name pn_X3
theorem pf_X3_firstAt : plainFor yX3_firstAt = true := plainFor_of_name pn_X3
theorem pf_X3_goBehind : plainFor yX3_goBehind = true := plainFor_of_name pn_X3
theorem pf_X3_goOn : plainFor yX3_goOn = true := plainFor_of_name pn_X3
theorem pf_X3_noteWay : plainFor yX3_noteWay = true := plainFor_of_name pn_X3
theorem pf_X3_prepare : plainFor yX3_prepare = true := plainFor_of_name pn_X3
theorem pf_X3_startBehind : plainFor yX3_startBehind = true := plainFor_of_name pn_X3
theorem pf_X4_addOwnSquares : plainFor yX4_addOwnSquares = true := plainFor_of_name pn_X4
theorem pf_X4_allSeen : plainFor yX4_allSeen = true := plainFor_of_name pn_X4
theorem pf_X4_join : plainFor yX4_join = true := plainFor_of_name pn_X4
theorem pf_X4_mostJoined : plainFor yX4_mostJoined = true := plainFor_of_name pn_X4
theorem pf_X4_mostSeen : plainFor yX4_mostSeen = true := plainFor_of_name pn_X4
theorem pf_X4_put : plainFor yX4_put = true := plainFor_of_name pn_X4
theorem pf_X4_seersOf : plainFor yX4_seersOf = true := plainFor_of_name pn_X4
theorem pf_X4_together : plainFor yX4_together = true := plainFor_of_name pn_X4
theorem pf_X4_viewFrom : plainFor yX4_viewFrom = true := plainFor_of_name pn_X4
theorem pf_X5_becomes : plainFor yX5_becomes = true := plainFor_of_name pn_X5
theorem pf_X5_dropSeen : plainFor yX5_dropSeen = true := plainFor_of_name pn_X5
theorem pf_X5_leaveBoard : plainFor yX5_leaveBoard = true := plainFor_of_name pn_X5
theorem pf_X5_manOn : plainFor yX5_manOn = true := plainFor_of_name pn_X5
theorem pf_X5_menBits : plainFor yX5_menBits = true := plainFor_of_name pn_X5
theorem pf_X5_menOf : plainFor yX5_menOf = true := plainFor_of_name pn_X5
theorem pf_X5_putMan : plainFor yX5_putMan = true := plainFor_of_name pn_X5
theorem pf_X5_takeAllMen : plainFor yX5_takeAllMen = true := plainFor_of_name pn_X5
theorem pf_X6_become : plainFor yX6_become = true := plainFor_of_name pn_X6
theorem pf_X6_fitted : plainFor yX6_fitted = true := plainFor_of_name pn_X6
theorem pf_X6_get : plainFor yX6_get = true := plainFor_of_name pn_X6
theorem pf_X6_hasRun : plainFor yX6_hasRun = true := plainFor_of_name pn_X6
theorem pf_X6_holdsNothing : plainFor yX6_holdsNothing = true := plainFor_of_name pn_X6
theorem pf_X6_isPlace : plainFor yX6_isPlace = true := plainFor_of_name pn_X6
theorem pf_X6_isTape : plainFor yX6_isTape = true := plainFor_of_name pn_X6
theorem pf_X6_move : plainFor yX6_move = true := plainFor_of_name pn_X6
theorem pf_X6_put : plainFor yX6_put = true := plainFor_of_name pn_X6
theorem pf_X6_sizeOf : plainFor yX6_sizeOf = true := plainFor_of_name pn_X6
theorem pf_X6_sortOf : plainFor yX6_sortOf = true := plainFor_of_name pn_X6
theorem pf_X7_bring : plainFor yX7_bring = true := plainFor_of_name pn_X7
theorem pf_X7_bringOne : plainFor yX7_bringOne = true := plainFor_of_name pn_X7
theorem pf_X7_fewestSteps : plainFor yX7_fewestSteps = true := plainFor_of_name pn_X7
theorem pf_X7_measure : plainFor yX7_measure = true := plainFor_of_name pn_X7
theorem pf_X8_all : plainFor yX8_all = true := plainFor_of_name pn_X8
theorem pf_X8_free : plainFor yX8_free = true := plainFor_of_name pn_X8
theorem pf_X8_goOn : plainFor yX8_goOn = true := plainFor_of_name pn_X8
theorem pf_X8_layOut : plainFor yX8_layOut = true := plainFor_of_name pn_X8
theorem pf_X8_lookAlong : plainFor yX8_lookAlong = true := plainFor_of_name pn_X8
theorem pf_X8_spread : plainFor yX8_spread = true := plainFor_of_name pn_X8
theorem pf_X8_turn : plainFor yX8_turn = true := plainFor_of_name pn_X8
theorem pf_X8_view : plainFor yX8_view = true := plainFor_of_name pn_X8
theorem pf_X8_waysOf : plainFor yX8_waysOf = true := plainFor_of_name pn_X8
theorem pf_X8_xOf : plainFor yX8_xOf = true := plainFor_of_name pn_X8
theorem pf_X8_yOf : plainFor yX8_yOf = true := plainFor_of_name pn_X8
theorem pf_X9_add : plainFor yX9_add = true := plainFor_of_name pn_X9
theorem pf_X9_isFull : plainFor yX9_isFull = true := plainFor_of_name pn_X9
theorem pf_X9_isLetter : plainFor yX9_isLetter = true := plainFor_of_name pn_X9
theorem pf_X9_moveTo : plainFor yX9_moveTo = true := plainFor_of_name pn_X9
theorem pf_X9_numberOf : plainFor yX9_numberOf = true := plainFor_of_name pn_X9
theorem pf_X9_readAny : plainFor yX9_readAny = true := plainFor_of_name pn_X9
theorem pf_X9_readClause : plainFor yX9_readClause = true := plainFor_of_name pn_X9
theorem pf_X9_readClauses : plainFor yX9_readClauses = true := plainFor_of_name pn_X9
theorem pf_X9_readNumber : plainFor yX9_readNumber = true := plainFor_of_name pn_X9
theorem pf_X9_readOne : plainFor yX9_readOne = true := plainFor_of_name pn_X9
theorem pf_X9_readTest : plainFor yX9_readTest = true := plainFor_of_name pn_X9
theorem pf_X9_readWord : plainFor yX9_readWord = true := plainFor_of_name pn_X9
theorem pf_X9_squaresOf : plainFor yX9_squaresOf = true := plainFor_of_name pn_X9
theorem pf_X11_act : plainFor yX11_act = true := plainFor_of_name pn_X11
theorem pf_X11_after : plainFor yX11_after = true := plainFor_of_name pn_X11
theorem pf_X11_aim : plainFor yX11_aim = true := plainFor_of_name pn_X11
theorem pf_X11_alike : plainFor yX11_alike = true := plainFor_of_name pn_X11
theorem pf_X11_apart : plainFor yX11_apart = true := plainFor_of_name pn_X11
theorem pf_X11_at : plainFor yX11_at = true := plainFor_of_name pn_X11
theorem pf_X11_away : plainFor yX11_away = true := plainFor_of_name pn_X11
theorem pf_X11_begin : plainFor yX11_begin = true := plainFor_of_name pn_X11
theorem pf_X11_behind : plainFor yX11_behind = true := plainFor_of_name pn_X11
theorem pf_X11_body : plainFor yX11_body = true := plainFor_of_name pn_X11
theorem pf_X11_book : plainFor yX11_book = true := plainFor_of_name pn_X11
theorem pf_X11_clear : plainFor yX11_clear = true := plainFor_of_name pn_X11
theorem pf_X11_count : plainFor yX11_count = true := plainFor_of_name pn_X11
theorem pf_X11_divisor : plainFor yX11_divisor = true := plainFor_of_name pn_X11
theorem pf_X11_emits : plainFor yX11_emits = true := plainFor_of_name pn_X11
theorem pf_X11_factOf : plainFor yX11_factOf = true := plainFor_of_name pn_X11
theorem pf_X11_feed : plainFor yX11_feed = true := plainFor_of_name pn_X11
theorem pf_X11_fraction : plainFor yX11_fraction = true := plainFor_of_name pn_X11
theorem pf_X11_game : plainFor yX11_game = true := plainFor_of_name pn_X11
theorem pf_X11_goes : plainFor yX11_goes = true := plainFor_of_name pn_X11
theorem pf_X11_goesText : plainFor yX11_goesText = true := plainFor_of_name pn_X11
theorem pf_X11_gone : plainFor yX11_gone = true := plainFor_of_name pn_X11
theorem pf_X11_has : plainFor yX11_has = true := plainFor_of_name pn_X11
theorem pf_X11_hold : plainFor yX11_hold = true := plainFor_of_name pn_X11
theorem pf_X11_holds : plainFor yX11_holds = true := plainFor_of_name pn_X11
theorem pf_X11_image : plainFor yX11_image = true := plainFor_of_name pn_X11
theorem pf_X11_in : plainFor yX11_in = true := plainFor_of_name pn_X11
theorem pf_X11_isAlike : plainFor yX11_isAlike = true := plainFor_of_name pn_X11
theorem pf_X11_isDigit : plainFor yX11_isDigit = true := plainFor_of_name pn_X11
theorem pf_X11_isFit : plainFor yX11_isFit = true := plainFor_of_name pn_X11
theorem pf_X11_isPeace : plainFor yX11_isPeace = true := plainFor_of_name pn_X11
theorem pf_X11_isPeaceOf : plainFor yX11_isPeaceOf = true := plainFor_of_name pn_X11
theorem pf_X11_isPlan : plainFor yX11_isPlan = true := plainFor_of_name pn_X11
theorem pf_X11_isSeen : plainFor yX11_isSeen = true := plainFor_of_name pn_X11
theorem pf_X11_isSquare : plainFor yX11_isSquare = true := plainFor_of_name pn_X11
theorem pf_X11_isTape : plainFor yX11_isTape = true := plainFor_of_name pn_X11
theorem pf_X11_isWay : plainFor yX11_isWay = true := plainFor_of_name pn_X11
theorem pf_X11_item : plainFor yX11_item = true := plainFor_of_name pn_X11
theorem pf_X11_judge : plainFor yX11_judge = true := plainFor_of_name pn_X11
theorem pf_X11_layBad : plainFor yX11_layBad = true := plainFor_of_name pn_X11
theorem pf_X11_layBoard : plainFor yX11_layBoard = true := plainFor_of_name pn_X11
theorem pf_X11_layHold : plainFor yX11_layHold = true := plainFor_of_name pn_X11
theorem pf_X11_layMen : plainFor yX11_layMen = true := plainFor_of_name pn_X11
theorem pf_X11_layOrder : plainFor yX11_layOrder = true := plainFor_of_name pn_X11
theorem pf_X11_laySteps : plainFor yX11_laySteps = true := plainFor_of_name pn_X11
theorem pf_X11_leaps : plainFor yX11_leaps = true := plainFor_of_name pn_X11
theorem pf_X11_line : plainFor yX11_line = true := plainFor_of_name pn_X11
theorem pf_X11_lines : plainFor yX11_lines = true := plainFor_of_name pn_X11
theorem pf_X11_looked : plainFor yX11_looked = true := plainFor_of_name pn_X11
theorem pf_X11_looksAct : plainFor yX11_looksAct = true := plainFor_of_name pn_X11
theorem pf_X11_lowest : plainFor yX11_lowest = true := plainFor_of_name pn_X11
theorem pf_X11_manLooks : plainFor yX11_manLooks = true := plainFor_of_name pn_X11
theorem pf_X11_manSees : plainFor yX11_manSees = true := plainFor_of_name pn_X11
theorem pf_X11_manTells : plainFor yX11_manTells = true := plainFor_of_name pn_X11
theorem pf_X11_mayBe : plainFor yX11_mayBe = true := plainFor_of_name pn_X11
theorem pf_X11_mayHold : plainFor yX11_mayHold = true := plainFor_of_name pn_X11
theorem pf_X11_mean : plainFor yX11_mean = true := plainFor_of_name pn_X11
theorem pf_X11_men : plainFor yX11_men = true := plainFor_of_name pn_X11
theorem pf_X11_more : plainFor yX11_more = true := plainFor_of_name pn_X11
theorem pf_X11_moreOf : plainFor yX11_moreOf = true := plainFor_of_name pn_X11
theorem pf_X11_most : plainFor yX11_most = true := plainFor_of_name pn_X11
theorem pf_X11_narrow : plainFor yX11_narrow = true := plainFor_of_name pn_X11
theorem pf_X11_next : plainFor yX11_next = true := plainFor_of_name pn_X11
theorem pf_X11_nextRow : plainFor yX11_nextRow = true := plainFor_of_name pn_X11
theorem pf_X11_nextTo : plainFor yX11_nextTo = true := plainFor_of_name pn_X11
theorem pf_X11_odds : plainFor yX11_odds = true := plainFor_of_name pn_X11
theorem pf_X11_of : plainFor yX11_of = true := plainFor_of_name pn_X11
theorem pf_X11_one : plainFor yX11_one = true := plainFor_of_name pn_X11
theorem pf_X11_ones : plainFor yX11_ones = true := plainFor_of_name pn_X11
theorem pf_X11_place : plainFor yX11_place = true := plainFor_of_name pn_X11
theorem pf_X11_plan : plainFor yX11_plan = true := plainFor_of_name pn_X11
theorem pf_X11_quarrels : plainFor yX11_quarrels = true := plainFor_of_name pn_X11
theorem pf_X11_reach : plainFor yX11_reach = true := plainFor_of_name pn_X11
theorem pf_X11_read : plainFor yX11_read = true := plainFor_of_name pn_X11
theorem pf_X11_right : plainFor yX11_right = true := plainFor_of_name pn_X11
theorem pf_X11_rookSees : plainFor yX11_rookSees = true := plainFor_of_name pn_X11
theorem pf_X11_row : plainFor yX11_row = true := plainFor_of_name pn_X11
theorem pf_X11_rubbed : plainFor yX11_rubbed = true := plainFor_of_name pn_X11
theorem pf_X11_see : plainFor yX11_see = true := plainFor_of_name pn_X11
theorem pf_X11_seersOf : plainFor yX11_seersOf = true := plainFor_of_name pn_X11
theorem pf_X11_sees : plainFor yX11_sees = true := plainFor_of_name pn_X11
theorem pf_X11_seesAct : plainFor yX11_seesAct = true := plainFor_of_name pn_X11
theorem pf_X11_seesOf : plainFor yX11_seesOf = true := plainFor_of_name pn_X11
theorem pf_X11_set : plainFor yX11_set = true := plainFor_of_name pn_X11
theorem pf_X11_settle : plainFor yX11_settle = true := plainFor_of_name pn_X11
theorem pf_X11_shift : plainFor yX11_shift = true := plainFor_of_name pn_X11
theorem pf_X11_squaresOf : plainFor yX11_squaresOf = true := plainFor_of_name pn_X11
theorem pf_X11_take : plainFor yX11_take = true := plainFor_of_name pn_X11
theorem pf_X11_takeAll : plainFor yX11_takeAll = true := plainFor_of_name pn_X11
theorem pf_X11_taken : plainFor yX11_taken = true := plainFor_of_name pn_X11
theorem pf_X11_takes : plainFor yX11_takes = true := plainFor_of_name pn_X11
theorem pf_X11_takesAlone : plainFor yX11_takesAlone = true := plainFor_of_name pn_X11
theorem pf_X11_takesClause : plainFor yX11_takesClause = true := plainFor_of_name pn_X11
theorem pf_X11_takesE : plainFor yX11_takesE = true := plainFor_of_name pn_X11
theorem pf_X11_takesHead : plainFor yX11_takesHead = true := plainFor_of_name pn_X11
theorem pf_X11_takesNumber : plainFor yX11_takesNumber = true := plainFor_of_name pn_X11
theorem pf_X11_takesTest : plainFor yX11_takesTest = true := plainFor_of_name pn_X11
theorem pf_X11_takesWord : plainFor yX11_takesWord = true := plainFor_of_name pn_X11
theorem pf_X11_tape : plainFor yX11_tape = true := plainFor_of_name pn_X11
theorem pf_X11_tellsAct : plainFor yX11_tellsAct = true := plainFor_of_name pn_X11
theorem pf_X11_told : plainFor yX11_told = true := plainFor_of_name pn_X11
theorem pf_X11_trace : plainFor yX11_trace = true := plainFor_of_name pn_X11
theorem pf_X11_tries : plainFor yX11_tries = true := plainFor_of_name pn_X11
theorem pf_X11_turned : plainFor yX11_turned = true := plainFor_of_name pn_X11
theorem pf_X11_turnedSquare : plainFor yX11_turnedSquare = true := plainFor_of_name pn_X11
theorem pf_X11_undo : plainFor yX11_undo = true := plainFor_of_name pn_X11
theorem pf_X11_ways : plainFor yX11_ways = true := plainFor_of_name pn_X11
theorem pf_X11_whole : plainFor yX11_whole = true := plainFor_of_name pn_X11
theorem pf_X11_worst : plainFor yX11_worst = true := plainFor_of_name pn_X11
theorem pf_X11_yard : plainFor yX11_yard = true := plainFor_of_name pn_X11
theorem pf_J6_bitCount_0f7a4 : plainFor yJ6_bitCount_0f7a4 = true := plainFor_of_name pn_J6
theorem pf_J9_floorMod_7cf53 : plainFor yJ9_floorMod_7cf53 = true := by decide +kernel
theorem pf_J9_max_7cf53 : plainFor yJ9_max_7cf53 = true := by decide +kernel
theorem pf_J9_min_7cf53 : plainFor yJ9_min_7cf53 = true := by decide +kernel
theorem pf_J7_fill_53178 : plainFor yJ7_fill_53178 = true := plainFor_of_name pn_J7
theorem zsy_n : Cond.native arraycopyName ∈ zv_tbl := zv_m5 34 (by decide +kernel) rfl
theorem zsy_s : Cond.static arraycopyName ∈ zv_tbl := zv_m5 33 (by decide +kernel) rfl
theorem zsy_i : Cond.initialized "java/lang/System" ∈ zv_tbl := zv_m1 20 (by decide +kernel) rfl
