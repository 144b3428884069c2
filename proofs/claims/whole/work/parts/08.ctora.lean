def wF (m : zv_M) (a : Nat) (v : Int32) (n : Nat) : zv_M := (fun o k => if o = a ∧ k < n then v else m.1 o k, m.2)
theorem zc_some {α : Type} {x : Option α} {v : α} (h : x = some v) : zw x (fun r => r = v) := by rw [h]; rfl
section ZE
variable {S : State} {D : va_G} {cA : Nat → ClassId} {tb sx : Nat → Nat} {p : Program} {l : Launch} {e : Env} {R : Room} {s : State} {mi : MethodId} {args : Array Value} {below : List Frame} {meth : Method} {c : Code} {nL : Nat} {Qf : State → Prop} {kc ks pc : Nat} {lo : List (Nat × Value)} {st : List Value} {sh : List zv_C} {m : zv_M} {cc : ByteArray} {own : String} {ret : Option FieldType} {ini : Bool}

theorem zr_E {st' : List Value} {sh' : List zv_C} {m' : zv_M} (h1 : st = st') (h2 : sh = sh') (h3 : m = m') (kk : zv_V S D cA p l e R s mi args below meth c nL Qf kc ks pc lo st' sh' m') : zv_V S D cA p l e R s mi args below meth c nL Qf kc ks pc lo st sh m := by
  subst h1; subst h2; subst h3
  exact kk
end ZE
theorem zdv_0 : ∀ k, k < 5 → defaultValue (tyX0 k) = if zv_kd 0 k = true then .null else .int 0 := fun k hk => match k, hk with
  | 0, _ => rfl
  | 1, _ => rfl
  | 2, _ => rfl
  | 3, _ => rfl
  | 4, _ => rfl
  | k + 5, h => absurd h (by omega)
theorem zhC_0 : ∀ q, vwCl[0]? = some q → q.1 = RX0 := fun q h => by
  have e : (RX0, TX0, 5) = q := Option.some.inj h
  rw [← e]
theorem zdv_1 : ∀ k, k < 3 → defaultValue (tyX1 k) = if zv_kd 1 k = true then .null else .int 0 := fun k hk => match k, hk with
  | 0, _ => rfl
  | 1, _ => rfl
  | 2, _ => rfl
  | k + 3, h => absurd h (by omega)
theorem zhC_1 : ∀ q, vwCl[1]? = some q → q.1 = RX1 := fun q h => by
  have e : (RX1, TX1, 3) = q := Option.some.inj h
  rw [← e]
theorem zdv_2 : ∀ k, k < 2 → defaultValue (tyX2 k) = if zv_kd 2 k = true then .null else .int 0 := fun k hk => match k, hk with
  | 0, _ => rfl
  | 1, _ => rfl
  | k + 2, h => absurd h (by omega)
theorem zhC_2 : ∀ q, vwCl[2]? = some q → q.1 = RX2 := fun q h => by
  have e : (RX2, TX2, 2) = q := Option.some.inj h
  rw [← e]
theorem zdv_3 : ∀ k, k < 8 → defaultValue (tyX3 k) = if zv_kd 3 k = true then .null else .int 0 := fun k hk => match k, hk with
  | 0, _ => rfl
  | 1, _ => rfl
  | 2, _ => rfl
  | 3, _ => rfl
  | 4, _ => rfl
  | 5, _ => rfl
  | 6, _ => rfl
  | 7, _ => rfl
  | k + 8, h => absurd h (by omega)
theorem zhC_3 : ∀ q, vwCl[3]? = some q → q.1 = RX3 := fun q h => by
  have e : (RX3, TX3, 8) = q := Option.some.inj h
  rw [← e]
theorem zdv_4 : ∀ k, k < 2 → defaultValue (tyX4 k) = if zv_kd 4 k = true then .null else .int 0 := fun k hk => match k, hk with
  | 0, _ => rfl
  | 1, _ => rfl
  | k + 2, h => absurd h (by omega)
theorem zhC_4 : ∀ q, vwCl[4]? = some q → q.1 = RX4 := fun q h => by
  have e : (RX4, TX4, 2) = q := Option.some.inj h
  rw [← e]
theorem zdv_5 : ∀ k, k < 9 → defaultValue (tyX5 k) = if zv_kd 5 k = true then .null else .int 0 := fun k hk => match k, hk with
  | 0, _ => rfl
  | 1, _ => rfl
  | 2, _ => rfl
  | 3, _ => rfl
  | 4, _ => rfl
  | 5, _ => rfl
  | 6, _ => rfl
  | 7, _ => rfl
  | 8, _ => rfl
  | k + 9, h => absurd h (by omega)
theorem zhC_5 : ∀ q, vwCl[5]? = some q → q.1 = RX5 := fun q h => by
  have e : (RX5, TX5, 9) = q := Option.some.inj h
  rw [← e]
theorem zdv_6 : ∀ k, k < 3 → defaultValue (tyX6 k) = if zv_kd 6 k = true then .null else .int 0 := fun k hk => match k, hk with
  | 0, _ => rfl
  | 1, _ => rfl
  | 2, _ => rfl
  | k + 3, h => absurd h (by omega)
theorem zhC_6 : ∀ q, vwCl[6]? = some q → q.1 = RX6 := fun q h => by
  have e : (RX6, TX6, 3) = q := Option.some.inj h
  rw [← e]
theorem zdv_7 : ∀ k, k < 2 → defaultValue (tyX7 k) = if zv_kd 7 k = true then .null else .int 0 := fun k hk => match k, hk with
  | 0, _ => rfl
  | 1, _ => rfl
  | k + 2, h => absurd h (by omega)
theorem zhC_7 : ∀ q, vwCl[7]? = some q → q.1 = RX7 := fun q h => by
  have e : (RX7, TX7, 2) = q := Option.some.inj h
  rw [← e]
theorem zdv_8 : ∀ k, k < 4 → defaultValue (tyX8 k) = if zv_kd 8 k = true then .null else .int 0 := fun k hk => match k, hk with
  | 0, _ => rfl
  | 1, _ => rfl
  | 2, _ => rfl
  | 3, _ => rfl
  | k + 4, h => absurd h (by omega)
theorem zhC_8 : ∀ q, vwCl[8]? = some q → q.1 = RX8 := fun q h => by
  have e : (RX8, TX8, 4) = q := Option.some.inj h
  rw [← e]
theorem zdv_9 : ∀ k, k < 10 → defaultValue (tyX9 k) = if zv_kd 9 k = true then .null else .int 0 := fun k hk => match k, hk with
  | 0, _ => rfl
  | 1, _ => rfl
  | 2, _ => rfl
  | 3, _ => rfl
  | 4, _ => rfl
  | 5, _ => rfl
  | 6, _ => rfl
  | 7, _ => rfl
  | 8, _ => rfl
  | 9, _ => rfl
  | k + 10, h => absurd h (by omega)
theorem zhC_9 : ∀ q, vwCl[9]? = some q → q.1 = RX9 := fun q h => by
  have e : (RX9, TX9, 10) = q := Option.some.inj h
  rw [← e]
theorem zdv_10 : ∀ k, k < 14 → defaultValue (tyX10 k) = if zv_kd 10 k = true then .null else .int 0 := fun k hk => match k, hk with
  | 0, _ => rfl
  | 1, _ => rfl
  | 2, _ => rfl
  | 3, _ => rfl
  | 4, _ => rfl
  | 5, _ => rfl
  | 6, _ => rfl
  | 7, _ => rfl
  | 8, _ => rfl
  | 9, _ => rfl
  | 10, _ => rfl
  | 11, _ => rfl
  | 12, _ => rfl
  | 13, _ => rfl
  | k + 14, h => absurd h (by omega)
theorem zhC_10 : ∀ q, vwCl[10]? = some q → q.1 = RX10 := fun q h => by
  have e : (RX10, TX10, 14) = q := Option.some.inj h
  rw [← e]
theorem zdv_11 : ∀ k, k < 72 → defaultValue (tyX11 k) = if zv_kd 11 k = true then .null else .int 0 := fun k hk => match k, hk with
  | 0, _ => rfl
  | 1, _ => rfl
  | 2, _ => rfl
  | 3, _ => rfl
  | 4, _ => rfl
  | 5, _ => rfl
  | 6, _ => rfl
  | 7, _ => rfl
  | 8, _ => rfl
  | 9, _ => rfl
  | 10, _ => rfl
  | 11, _ => rfl
  | 12, _ => rfl
  | 13, _ => rfl
  | 14, _ => rfl
  | 15, _ => rfl
  | 16, _ => rfl
  | 17, _ => rfl
  | 18, _ => rfl
  | 19, _ => rfl
  | 20, _ => rfl
  | 21, _ => rfl
  | 22, _ => rfl
  | 23, _ => rfl
  | 24, _ => rfl
  | 25, _ => rfl
  | 26, _ => rfl
  | 27, _ => rfl
  | 28, _ => rfl
  | 29, _ => rfl
  | 30, _ => rfl
  | 31, _ => rfl
  | 32, _ => rfl
  | 33, _ => rfl
  | 34, _ => rfl
  | 35, _ => rfl
  | 36, _ => rfl
  | 37, _ => rfl
  | 38, _ => rfl
  | 39, _ => rfl
  | 40, _ => rfl
  | 41, _ => rfl
  | 42, _ => rfl
  | 43, _ => rfl
  | 44, _ => rfl
  | 45, _ => rfl
  | 46, _ => rfl
  | 47, _ => rfl
  | 48, _ => rfl
  | 49, _ => rfl
  | 50, _ => rfl
  | 51, _ => rfl
  | 52, _ => rfl
  | 53, _ => rfl
  | 54, _ => rfl
  | 55, _ => rfl
  | 56, _ => rfl
  | 57, _ => rfl
  | 58, _ => rfl
  | 59, _ => rfl
  | 60, _ => rfl
  | 61, _ => rfl
  | 62, _ => rfl
  | 63, _ => rfl
  | 64, _ => rfl
  | 65, _ => rfl
  | 66, _ => rfl
  | 67, _ => rfl
  | 68, _ => rfl
  | 69, _ => rfl
  | 70, _ => rfl
  | 71, _ => rfl
  | k + 72, h => absurd h (by omega)
theorem zhC_11 : ∀ q, vwCl[11]? = some q → q.1 = RX11 := fun q h => by
  have e : (RX11, TX11, 72) = q := Option.some.inj h
  rw [← e]
theorem zwa_0 : Cond.arrayClass (newarray.typeOf .int) ∈ zv_tbl := zv_m1 53 (by decide +kernel) rfl
theorem zwa_1 : Cond.arrayClass (newarray.typeOf .byte) ∈ zv_tbl := zv_m1 136 (by decide +kernel) rfl
theorem zwa_2 : Cond.arrayClass (newarray.typeOf .boolean) ∈ zv_tbl := zv_m6 18 (by decide +kernel) rfl
theorem zwa_3 : Cond.arrayClass (newarray.typeOf .long) ∈ zv_tbl := zv_m2 40 (by decide +kernel) rfl
theorem zwo : Cond.arrayOver (.object "NoneSees$Yard") ∈ zv_tbl := zv_m1 138 (by decide +kernel) rfl
theorem zoi_i : Cond.instanceMethod Lib.objectInit ∈ zv_tbl := zv_m1 27 (by decide +kernel) rfl
theorem zoi_c : Cond.code Lib.objectInit ⟨#[0xb1]⟩ 1 none ∈ zv_tbl := zv_m1 28 (by decide +kernel) rfl
theorem wo_X10_3 : Cond.methodLink RX10 3 Lib.objectInit ∈ zv_tbl := zv_m1 26 (by decide +kernel) rfl
theorem wk_X10_9 : Cond.classLink RX10 9 RX5 ∈ zv_tbl := zv_m1 29 (by decide +kernel) rfl
theorem wins_5 : Cond.instantiable RX5 9 ∈ zv_tbl := zv_m1 30 (by decide +kernel) rfl
theorem wini_5 : Cond.initialized RX5 ∈ zv_tbl := zv_m1 2 (by decide +kernel) rfl
theorem wo_X5_3 : Cond.methodLink RX5 3 Lib.objectInit ∈ zv_tbl := zv_m1 34 (by decide +kernel) rfl
theorem wk_X5_9 : Cond.classLink RX5 9 RX2 ∈ zv_tbl := zv_m1 35 (by decide +kernel) rfl
theorem wins_2 : Cond.instantiable RX2 2 ∈ zv_tbl := zv_m1 36 (by decide +kernel) rfl
theorem wini_2 : Cond.initialized RX2 ∈ zv_tbl := zv_m1 3 (by decide +kernel) rfl
theorem wo_X2_1 : Cond.methodLink RX2 1 Lib.objectInit ∈ zv_tbl := zv_m1 40 (by decide +kernel) rfl
theorem wm_X2_7 : Cond.methodLink RX2 7 yJ9_max_7cf53 ∈ zv_tbl := zv_m1 41 (by decide +kernel) rfl
theorem wm_X5_11i : Cond.methodLink RX5 11 yX2_init ∈ zv_tbl := zv_m1 37 (by decide +kernel) rfl
theorem wim_X2_init : Cond.instanceMethod yX2_init ∈ zv_tbl := zv_m1 38 (by decide +kernel) rfl
theorem wm_X10_11i : Cond.methodLink RX10 11 yX5_init ∈ zv_tbl := zv_m1 31 (by decide +kernel) rfl
theorem wim_X5_init : Cond.instanceMethod yX5_init ∈ zv_tbl := zv_m1 32 (by decide +kernel) rfl
theorem wk_X10_25 : Cond.classLink RX10 25 RX9 ∈ zv_tbl := zv_m1 93 (by decide +kernel) rfl
theorem wins_9 : Cond.instantiable RX9 10 ∈ zv_tbl := zv_m1 94 (by decide +kernel) rfl
theorem wini_9 : Cond.initialized RX9 ∈ zv_tbl := zv_m1 6 (by decide +kernel) rfl
theorem wo_X9_3 : Cond.methodLink RX9 3 Lib.objectInit ∈ zv_tbl := zv_m1 98 (by decide +kernel) rfl
theorem wm_X10_27i : Cond.methodLinkNest RX10 27 yX9_init "NoneSees" ∈ zv_tbl := zv_m1 95 (by decide +kernel) rfl
theorem wim_X9_init : Cond.instanceMethod yX9_init ∈ zv_tbl := zv_m1 96 (by decide +kernel) rfl
theorem wk_X10_32 : Cond.classLink RX10 32 RX8 ∈ zv_tbl := zv_m1 137 (by decide +kernel) rfl
theorem wins_8 : Cond.instantiable RX8 4 ∈ zv_tbl := zv_m1 139 (by decide +kernel) rfl
theorem wini_8 : Cond.initialized RX8 ∈ zv_tbl := zv_m1 7 (by decide +kernel) rfl
theorem wo_X8_3 : Cond.methodLink RX8 3 Lib.objectInit ∈ zv_tbl := zv_m1 143 (by decide +kernel) rfl
theorem wm_X10_38i : Cond.methodLinkNest RX10 38 yX8_init "NoneSees" ∈ zv_tbl := zv_m1 140 (by decide +kernel) rfl
theorem wim_X8_init : Cond.instanceMethod yX8_init ∈ zv_tbl := zv_m1 141 (by decide +kernel) rfl
theorem wk_X10_47 : Cond.classLink RX10 47 RX4 ∈ zv_tbl := zv_m1 161 (by decide +kernel) rfl
theorem wins_4 : Cond.instantiable RX4 2 ∈ zv_tbl := zv_m1 162 (by decide +kernel) rfl
theorem wini_4 : Cond.initialized RX4 ∈ zv_tbl := zv_m1 8 (by decide +kernel) rfl
theorem wo_X4_3 : Cond.methodLink RX4 3 Lib.objectInit ∈ zv_tbl := zv_m1 166 (by decide +kernel) rfl
theorem wm_X10_49i : Cond.methodLinkNest RX10 49 yX4_init "NoneSees" ∈ zv_tbl := zv_m1 163 (by decide +kernel) rfl
theorem wim_X4_init : Cond.instanceMethod yX4_init ∈ zv_tbl := zv_m1 164 (by decide +kernel) rfl
theorem wk_X10_57 : Cond.classLink RX10 57 RX3 ∈ zv_tbl := zv_m1 176 (by decide +kernel) rfl
theorem wins_3 : Cond.instantiable RX3 8 ∈ zv_tbl := zv_m1 177 (by decide +kernel) rfl
theorem wini_3 : Cond.initialized RX3 ∈ zv_tbl := zv_m1 9 (by decide +kernel) rfl
theorem wo_X3_3 : Cond.methodLink RX3 3 Lib.objectInit ∈ zv_tbl := zv_m1 181 (by decide +kernel) rfl
theorem wm_X10_59i : Cond.methodLinkNest RX10 59 yX3_init "NoneSees" ∈ zv_tbl := zv_m1 178 (by decide +kernel) rfl
theorem wim_X3_init : Cond.instanceMethod yX3_init ∈ zv_tbl := zv_m1 179 (by decide +kernel) rfl
theorem wk_X10_64 : Cond.classLink RX10 64 RX1 ∈ zv_tbl := zv_m1 208 (by decide +kernel) rfl
theorem wins_1 : Cond.instantiable RX1 3 ∈ zv_tbl := zv_m1 209 (by decide +kernel) rfl
theorem wini_1 : Cond.initialized RX1 ∈ zv_tbl := zv_m1 10 (by decide +kernel) rfl
theorem wo_X1_3 : Cond.methodLink RX1 3 Lib.objectInit ∈ zv_tbl := zv_m1 213 (by decide +kernel) rfl
theorem wm_X10_66i : Cond.methodLinkNest RX10 66 yX1_init "NoneSees" ∈ zv_tbl := zv_m1 210 (by decide +kernel) rfl
theorem wim_X1_init : Cond.instanceMethod yX1_init ∈ zv_tbl := zv_m1 211 (by decide +kernel) rfl
theorem wk_X10_71 : Cond.classLink RX10 71 RX7 ∈ zv_tbl := zv_m1 224 (by decide +kernel) rfl
theorem wins_7 : Cond.instantiable RX7 2 ∈ zv_tbl := zv_m1 225 (by decide +kernel) rfl
theorem wini_7 : Cond.initialized RX7 ∈ zv_tbl := zv_m1 11 (by decide +kernel) rfl
theorem wo_X7_3 : Cond.methodLink RX7 3 Lib.objectInit ∈ zv_tbl := zv_m1 229 (by decide +kernel) rfl
theorem wm_X10_73i : Cond.methodLinkNest RX10 73 yX7_init "NoneSees" ∈ zv_tbl := zv_m1 226 (by decide +kernel) rfl
theorem wim_X7_init : Cond.instanceMethod yX7_init ∈ zv_tbl := zv_m1 227 (by decide +kernel) rfl
theorem wk_X10_78 : Cond.classLink RX10 78 RX0 ∈ zv_tbl := zv_m1 237 (by decide +kernel) rfl
theorem wins_0 : Cond.instantiable RX0 5 ∈ zv_tbl := zv_m1 238 (by decide +kernel) rfl
theorem wini_0 : Cond.initialized RX0 ∈ zv_tbl := zv_m1 12 (by decide +kernel) rfl
theorem wo_X0_1 : Cond.methodLink RX0 1 Lib.objectInit ∈ zv_tbl := zv_m2 2 (by decide +kernel) rfl
theorem wk_X0_7 : Cond.classLink RX0 7 RX2 ∈ zv_tbl := zv_m2 3 (by decide +kernel) rfl
theorem wm_X0_9i : Cond.methodLink RX0 9 yX2_init ∈ zv_tbl := zv_m2 4 (by decide +kernel) rfl
theorem wm_X10_80i : Cond.methodLinkNest RX10 80 yX0_init "NoneSees" ∈ zv_tbl := zv_m1 239 (by decide +kernel) rfl
theorem wim_X0_init : Cond.instanceMethod yX0_init ∈ zv_tbl := zv_m2 0 (by decide +kernel) rfl
theorem wk_X10_85 : Cond.classLink RX10 85 RX6 ∈ zv_tbl := zv_m2 23 (by decide +kernel) rfl
theorem wins_6 : Cond.instantiable RX6 3 ∈ zv_tbl := zv_m2 24 (by decide +kernel) rfl
theorem wini_6 : Cond.initialized RX6 ∈ zv_tbl := zv_m1 13 (by decide +kernel) rfl
theorem wo_X6_1 : Cond.methodLink RX6 1 Lib.objectInit ∈ zv_tbl := zv_m2 28 (by decide +kernel) rfl
theorem wm_X6_20 : Cond.methodLink RX6 20 yJ7_fill_53178 ∈ zv_tbl := zv_m2 29 (by decide +kernel) rfl
theorem wm_X10_87i : Cond.methodLink RX10 87 yX6_init ∈ zv_tbl := zv_m2 25 (by decide +kernel) rfl
theorem wim_X6_init : Cond.instanceMethod yX6_init ∈ zv_tbl := zv_m2 26 (by decide +kernel) rfl
theorem wo_X11_1 : Cond.methodLink RX11 1 Lib.objectInit ∈ zv_tbl := zv_m5 40 (by decide +kernel) rfl
set_option maxRecDepth 100000 in
theorem myc_X2_init : zv_my yX2_init cX2_init 2 none 1 := ⟨zv_m1 39 (by decide +kernel) rfl, zv_m1 3 (by decide +kernel) rfl, by decide +kernel, by decide⟩
theorem pfc_X2_init : plainFor yX2_init = true := plainFor_of_name pn_X2
set_option maxRecDepth 100000 in
theorem myc_X5_init : zv_my yX5_init cX5_init 1 none 0 := ⟨zv_m1 33 (by decide +kernel) rfl, zv_m1 2 (by decide +kernel) rfl, by decide +kernel, by decide⟩
theorem pfc_X5_init : plainFor yX5_init = true := plainFor_of_name pn_X5
set_option maxRecDepth 100000 in
theorem myc_X9_init : zv_my yX9_init cX9_init 1 none 0 := ⟨zv_m1 97 (by decide +kernel) rfl, zv_m1 6 (by decide +kernel) rfl, by decide +kernel, by decide⟩
theorem pfc_X9_init : plainFor yX9_init = true := plainFor_of_name pn_X9
set_option maxRecDepth 100000 in
theorem myc_X8_init : zv_my yX8_init cX8_init 1 none 0 := ⟨zv_m1 142 (by decide +kernel) rfl, zv_m1 7 (by decide +kernel) rfl, by decide +kernel, by decide⟩
theorem pfc_X8_init : plainFor yX8_init = true := plainFor_of_name pn_X8
set_option maxRecDepth 100000 in
theorem myc_X4_init : zv_my yX4_init cX4_init 1 none 0 := ⟨zv_m1 165 (by decide +kernel) rfl, zv_m1 8 (by decide +kernel) rfl, by decide +kernel, by decide⟩
theorem pfc_X4_init : plainFor yX4_init = true := plainFor_of_name pn_X4
set_option maxRecDepth 100000 in
theorem myc_X3_init : zv_my yX3_init cX3_init 1 none 0 := ⟨zv_m1 180 (by decide +kernel) rfl, zv_m1 9 (by decide +kernel) rfl, by decide +kernel, by decide⟩
theorem pfc_X3_init : plainFor yX3_init = true := plainFor_of_name pn_X3
set_option maxRecDepth 100000 in
theorem myc_X1_init : zv_my yX1_init cX1_init 1 none 0 := ⟨zv_m1 212 (by decide +kernel) rfl, zv_m1 10 (by decide +kernel) rfl, by decide +kernel, by decide⟩
theorem pfc_X1_init : plainFor yX1_init = true := plainFor_of_name pn_X1
set_option maxRecDepth 100000 in
theorem myc_X7_init : zv_my yX7_init cX7_init 1 none 0 := ⟨zv_m1 228 (by decide +kernel) rfl, zv_m1 11 (by decide +kernel) rfl, by decide +kernel, by decide⟩
theorem pfc_X7_init : plainFor yX7_init = true := plainFor_of_name pn_X7
set_option maxRecDepth 100000 in
theorem myc_X0_init : zv_my yX0_init cX0_init 1 none 0 := ⟨zv_m2 1 (by decide +kernel) rfl, zv_m1 12 (by decide +kernel) rfl, by decide +kernel, by decide⟩
theorem pfc_X0_init : plainFor yX0_init = true := plainFor_of_name pn_X0
set_option maxRecDepth 100000 in
theorem myc_X6_init : zv_my yX6_init cX6_init 1 none 0 := ⟨zv_m2 27 (by decide +kernel) rfl, zv_m1 13 (by decide +kernel) rfl, by decide +kernel, by decide⟩
theorem pfc_X6_init : plainFor yX6_init = true := plainFor_of_name pn_X6
set_option maxRecDepth 100000 in
theorem myc_X10_init : zv_my yX10_init cX10_init 2 none 0 := ⟨zv_m1 25 (by decide +kernel) rfl, zv_m1 1 (by decide +kernel) rfl, by decide +kernel, by decide⟩
theorem pfc_X10_init : plainFor yX10_init = true := plainFor_of_name pn_X10
set_option maxRecDepth 100000 in
theorem myc_X11_init : zv_my yX11_init cX11_init 1 none 0 := ⟨zv_m5 39 rfl rfl, zv_m1 14 (by decide +kernel) rfl, by decide +kernel, by decide⟩
theorem pfc_X11_init : plainFor yX11_init = true := plainFor_of_name pn_X11
set_option maxRecDepth 100000 in
set_option maxHeartbeats 4000000 in
theorem xc_max {l : Launch} {S : State} {D : va_G} {cA : Nat → ClassId} {tb sx : Nat → Nat} (hG : zv_G S D cA tb sx) (d : Nat) (hd : 1 ≤ d) (p1 : Int32) (p2 : Int32) (sh : List zv_C) (m : zv_M) (P : Int32 → Prop) (h : zw (fJ_max p1 p2) P) : zv_Met l S D cA d 0 0 yJ9_max_7cf53 cJ9_max_7cf53 2 (some .int) [.int p1, .int p2] sh m (zq_i sh (fun v m' => m = m' ∧ P v)) := by
  refine zv_met false hG pf_J9_max_7cf53 (fun z => by cases z) (Nat.le_of_ble_eq_true rfl) [(0, .int p1), (1, .int p2)] rfl (fun p e s mi args below meth c X => ?_)
  rw [fJ_max] at h
  refine zr_iload_n X dJ9_max_7cf53_0 0 rfl ?_
  refine zr_iload_n X dJ9_max_7cf53_1 1 rfl ?_
  refine zr_icmp_lt (tgt := 9) X dJ9_max_7cf53_2 (by decide) (fun q => ?_) (fun q => ?_)
  · rw [if_pos q] at h
    refine zr_iload_n X dJ9_max_7cf53_9 1 rfl ?_
    exact zr_iret X dJ9_max_7cf53_10 rfl ⟨Nat.le_refl _, Nat.le_refl _⟩ ⟨rfl, _, rfl, rfl, h⟩
  · rw [if_neg q] at h
    refine zr_iload_n X dJ9_max_7cf53_5 0 rfl ?_
    refine zr_goto (tgt := 10) X dJ9_max_7cf53_6 (by decide) ?_
    exact zr_iret X dJ9_max_7cf53_10 rfl ⟨Nat.le_refl _, Nat.le_refl _⟩ ⟨rfl, _, rfl, rfl, h⟩


set_option maxRecDepth 100000 in
set_option maxHeartbeats 4000000 in
theorem xc_fill {l : Launch} {S : State} {D : va_G} {cA : Nat → ClassId} {tb sx : Nat → Nat} (hG : zv_G S D cA tb sx) (d : Nat) (hd : 1 ≤ d) (a n : Nat) (hn : n < 2 ^ 31) (v : Int32) (sh : List zv_C) (m : zv_M) (ha : sh[a]? = some (.inr (.inl (0, n)))) : zv_Met l S D cA d 0 0 yJ7_fill_53178 cJ7_fill_53178 4 none [.ref (S.heap.size + a), .int v] sh m (zq_v sh (fun m' => m' = wF m a v n)) := by
  refine zv_met false hG pf_J7_fill_53178 (fun z => by cases z) (Nat.le_of_ble_eq_true rfl) [(0, .ref (S.heap.size + a)), (1, .int v)] rfl (fun p e s mi args below meth c X => ?_)
  refine zr_iconst (v := 0) X dJ7_fill_53178_0 (by decide) ?_
  refine zr_istore_n (lo' := [(2, .int 0), (0, .ref (S.heap.size + a)), (1, .int v)]) X dJ7_fill_53178_1 (by decide) rfl ?_
  refine zr_aload_n X dJ7_fill_53178_2 1 rfl ?_
  refine zr_alen (v := nI n) X dJ7_fill_53178_3 ha (by decide) rfl ?_
  refine zr_istore_n (lo' := [(3, .int (nI n)), (2, .int 0), (0, .ref (S.heap.size + a)), (1, .int v)]) X dJ7_fill_53178_4 (by decide) rfl ?_
  refine zr_sub [2, 3, 1, 0] rfl ?_
  have key : ∀ k j : Nat, j + k = n → zv_V S D cA p l e (zv_rm d 0 0) s mi args below meth c 4 (MQ below (zv_Q S D cA (zq_v sh (fun m' => m' = wF m a v n))) args s 0 0 (zv_fr S)) 0 0 5 [(0, .ref (S.heap.size + a)), (1, .int v), (2, .int (nI j)), (3, .int (nI n))] [] sh (wF m a v j) := by
    intro k
    induction k with
    | zero =>
      intro j hj
      have hj : j = n := by omega
      subst hj
      refine zr_iload_n X dJ7_fill_53178_5 2 rfl ?_
      refine zr_iload_n X dJ7_fill_53178_6 3 rfl ?_
      refine zr_icmp_ge (tgt := 20) X dJ7_fill_53178_7 (by decide) (fun _ => ?_) (fun q => absurd q Int32.lt_irrefl)
      exact zr_vret X dJ7_fill_53178_20 ⟨Nat.le_refl _, Nat.le_refl _⟩ ⟨rfl, rfl, rfl⟩
    | succ k ih =>
      intro j hj
      refine zr_iload_n X dJ7_fill_53178_5 2 rfl ?_
      refine zr_iload_n X dJ7_fill_53178_6 3 rfl ?_
      refine zr_icmp_ge (tgt := 20) X dJ7_fill_53178_7 (by decide) (fun q => absurd (nI_lt (a := j) (b := n) (by omega) hn) q) (fun _ => ?_)
      refine zr_aload_n X dJ7_fill_53178_10 0 rfl ?_
      refine zr_iload_n X dJ7_fill_53178_11 2 rfl ?_
      refine zr_iload_n X dJ7_fill_53178_12 1 rfl ?_
      refine zr_iast X dJ7_fill_53178_13 ha (vp_in_nI (by omega) hn) ?_
      refine zr_iinc (v := nI (j + 1)) (lo' := [(2, .int (nI (j + 1))), (0, .ref (S.heap.size + a)), (1, .int v), (3, .int (nI n))]) X dJ7_fill_53178_14 2 rfl (by rw [nI_succ]; rfl) (by decide) rfl ?_
      refine zr_goto (tgt := 5) X dJ7_fill_53178_17 (by decide) ?_
      refine zr_sub [1, 2, 0, 3] rfl ?_
      have e : wI (wF m a v j) a (nI j).toNatClampNeg v = wF m a v (j + 1) := by
        rw [nI_clamp (by omega)]
        simp only [wI, wF, Prod.mk.injEq, and_true]
        funext o k
        by_cases h1 : o = a ∧ k = j
        · rw [if_pos h1, if_pos ⟨h1.1, by omega⟩]
        · rw [if_neg h1]
          by_cases h2 : o = a ∧ k < j
          · rw [if_pos h2, if_pos ⟨h2.1, by omega⟩]
          · rw [if_neg h2, if_neg (by omega)]
      rw [e]
      exact ih (j + 1) (by omega)
  have e0 : wF m a v 0 = m := by
    simp [wF]
  have h := key n 0 (by omega)
  rw [e0] at h
  exact h
