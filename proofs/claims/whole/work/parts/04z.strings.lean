theorem my_J0_length_8abf5 : zv_my yJ0_length_8abf5 cJ0_length_8abf5 1 (some .int) 0 := ⟨zv_m2 161 (by decide +kernel) rfl, zv_m1 15 (by decide +kernel) rfl, by decide +kernel, by decide⟩
theorem pf_J0_length_8abf5 : plainFor yJ0_length_8abf5 = true := plainFor_of_name (by decide +kernel)
theorem mvs_J0_length_8abf5 : Cond.instanceMethod yJ0_length_8abf5 ∈ zv_tbl ∧ Cond.selects yJ0_length_8abf5.cls yJ0_length_8abf5 yJ0_length_8abf5 ∈ zv_tbl := ⟨zv_m2 159 (by decide +kernel) rfl, zv_m2 160 (by decide +kernel) rfl⟩
theorem my_J0_coder_7d493 : zv_my yJ0_coder_7d493 cJ0_coder_7d493 1 (some .byte) 0 := ⟨zv_m2 165 (by decide +kernel) rfl, zv_m1 15 (by decide +kernel) rfl, by decide +kernel, by decide⟩
theorem pf_J0_coder_7d493 : plainFor yJ0_coder_7d493 = true := plainFor_of_name (by decide +kernel)
theorem mvs_J0_coder_7d493 : Cond.instanceMethod yJ0_coder_7d493 ∈ zv_tbl ∧ Cond.selects yJ0_coder_7d493.cls yJ0_coder_7d493 yJ0_coder_7d493 ∈ zv_tbl := ⟨zv_m2 163 (by decide +kernel) rfl, zv_m2 164 (by decide +kernel) rfl⟩
theorem my_J0_charAt_5068e : zv_my yJ0_charAt_5068e cJ0_charAt_5068e 2 (some .char) 1 := ⟨zv_m2 171 (by decide +kernel) rfl, zv_m1 15 (by decide +kernel) rfl, by decide +kernel, by decide⟩
theorem pf_J0_charAt_5068e : plainFor yJ0_charAt_5068e = true := plainFor_of_name (by decide +kernel)
theorem mvs_J0_charAt_5068e : Cond.instanceMethod yJ0_charAt_5068e ∈ zv_tbl ∧ Cond.selects yJ0_charAt_5068e.cls yJ0_charAt_5068e yJ0_charAt_5068e ∈ zv_tbl := ⟨zv_m2 169 (by decide +kernel) rfl, zv_m2 170 (by decide +kernel) rfl⟩
theorem my_J0_isLatin1_aae02 : zv_my yJ0_isLatin1_aae02 cJ0_isLatin1_aae02 1 (some .boolean) 0 := ⟨zv_m2 175 (by decide +kernel) rfl, zv_m1 15 (by decide +kernel) rfl, by decide +kernel, by decide⟩
theorem pf_J0_isLatin1_aae02 : plainFor yJ0_isLatin1_aae02 = true := plainFor_of_name (by decide +kernel)
theorem mvs_J0_isLatin1_aae02 : Cond.instanceMethod yJ0_isLatin1_aae02 ∈ zv_tbl ∧ Cond.selects yJ0_isLatin1_aae02.cls yJ0_isLatin1_aae02 yJ0_isLatin1_aae02 ∈ zv_tbl := ⟨zv_m2 173 (by decide +kernel) rfl, zv_m2 174 (by decide +kernel) rfl⟩
theorem my_J1_charAt_3b067 : zv_my yJ1_charAt_3b067 cJ1_charAt_3b067 2 (some .char) 2 := ⟨zv_m2 178 (by decide +kernel) rfl, zv_m1 16 (by decide +kernel) rfl, by decide +kernel, by decide⟩
theorem pf_J1_charAt_3b067 : plainFor yJ1_charAt_3b067 = true := plainFor_of_name (by decide +kernel)
theorem ws_J1_charAt_3b067 : Cond.static yJ1_charAt_3b067 ∈ zv_tbl := zv_m2 177 (by decide +kernel) rfl
theorem my_J0_checkIndex_df160 : zv_my yJ0_checkIndex_df160 cJ0_checkIndex_df160 2 none 2 := ⟨zv_m2 181 (by decide +kernel) rfl, zv_m1 15 (by decide +kernel) rfl, by decide +kernel, by decide⟩
theorem pf_J0_checkIndex_df160 : plainFor yJ0_checkIndex_df160 = true := plainFor_of_name (by decide +kernel)
theorem ws_J0_checkIndex_df160 : Cond.static yJ0_checkIndex_df160 ∈ zv_tbl := zv_m2 180 (by decide +kernel) rfl
theorem my_J3_checkIndex_8e157 : zv_my yJ3_checkIndex_8e157 cJ3_checkIndex_8e157 3 (some .int) 3 := ⟨zv_m2 186 (by decide +kernel) rfl, zv_m1 17 (by decide +kernel) rfl, by decide +kernel, by decide⟩
theorem pf_J3_checkIndex_8e157 : plainFor yJ3_checkIndex_8e157 = true := plainFor_of_name (by decide +kernel)
theorem ws_J3_checkIndex_8e157 : Cond.static yJ3_checkIndex_8e157 ∈ zv_tbl := zv_m2 185 (by decide +kernel) rfl
theorem wm_J0_335 : Cond.methodLink RJ0 335 yJ0_coder_7d493 ∈ zv_tbl := zv_m2 162 (by decide +kernel) rfl
theorem wm_J0_492 : Cond.methodLink RJ0 492 yJ0_isLatin1_aae02 ∈ zv_tbl := zv_m2 172 (by decide +kernel) rfl
theorem wm_J0_495 : Cond.methodLink RJ0 495 yJ1_charAt_3b067 ∈ zv_tbl := zv_m2 176 (by decide +kernel) rfl
theorem wm_J1_9 : Cond.methodLink RJ1 9 yJ0_checkIndex_df160 ∈ zv_tbl := zv_m2 179 (by decide +kernel) rfl
theorem wm_J0_1059 : Cond.methodLink RJ0 1059 yJ3_checkIndex_8e157 ∈ zv_tbl := zv_m2 184 (by decide +kernel) rfl
theorem wf_J0_9 : Cond.fieldLink RJ0 9 "java/lang/String" "value" "[B" ∈ zv_tbl := zv_m7 221 (by decide +kernel) rfl
theorem wf_J0_15 : Cond.fieldLink RJ0 15 "java/lang/String" "coder" "B" ∈ zv_tbl := zv_m7 222 (by decide +kernel) rfl
theorem wf_J0_38 : Cond.fieldLink RJ0 38 "java/lang/String" "COMPACT_STRINGS" "Z" ∈ zv_tbl := zv_m2 166 (by decide +kernel) rfl
theorem wf_J0_1053 : Cond.fieldLink RJ0 1053 "jdk/internal/util/Preconditions" "SIOOBE_FORMATTER" "Ljava/util/function/BiFunction;" ∈ zv_tbl := zv_m2 182 (by decide +kernel) rfl
theorem zB_f {v : Int32} (h : zB v = true) : fits .boolean (.int v) = true := by
  have e : v &&& 1 = v := by simpa [zB, narrow] using h
  have k : ∀ j : Nat, j < 2 → fits .boolean (.int (nI j)) = true := by decide +kernel
  obtain ⟨j, hj, e2⟩ := pk_andE v (m := 1) 1 (by decide)
  rw [← e, e2]
  exact k j hj
section ZS
variable {S : State} {D : va_G} {cA : Nat → ClassId} {tb sx : Nat → Nat} {p : Program} {l : Launch} {e : Env} {R : Room} {s : State} {mi : MethodId} {args : Array Value} {below : List Frame} {meth : Method} {c : Code} {nL : Nat} {Qf : State → Prop} {kc ks pc : Nat} {lo : List (Nat × Value)} {st : List Value} {sh : List zv_C} {m : zv_M} {cc : ByteArray} {own : String} {ret : Option FieldType} {ini : Bool}


theorem zr_topi {x : Int32} (k : ∀ y : Int32, y = x → zv_V S D cA p l e R s mi args below meth c nL Qf kc ks pc lo (.int y :: st) sh m) : zv_V S D cA p l e R s mi args below meth c nL Qf kc ks pc lo (.int x :: st) sh m := k x rfl
theorem zr_topl {x : Int64} (k : ∀ y : Int64, y = x → zv_V S D cA p l e R s mi args below meth c nL Qf kc ks pc lo (.long y :: st) sh m) : zv_V S D cA p l e R s mi args below meth c nL Qf kc ks pc lo (.long x :: st) sh m := k x rfl
theorem zr_lds {idx : Nat} (X : zv_X S D cA tb sx p s mi args meth c cc nL own ret ini) (hd : decode cc pc = .ok (.ldc idx, 2)) (w : Nat) (hw : w < 6) (hi : zsk w = idx) (hown : own = "NoneSees$YardReader") (kk : zv_V S D cA p l e R s mi args below meth c nL Qf kc ks (pc + 2) lo (.ref (sx w) :: st) sh m) : zv_V S D cA p l e R s mi args below meth c nL Qf kc ks pc lo st sh m := by
  intro H locs ls h1 h2 h3
  obtain ⟨x1, x2, x3, x4, x5, x6, x7, x8, x9, x10, x11, x12, x13⟩ := X
  obtain ⟨⟨sv, hs⟩, -⟩ := x13
  subst hown
  have hR := (hs.2.1 w hw).warm x7
  rw [hi] at hR
  exact va_ldcS x1 x2 x5 hR hd (kk H locs ls h1 h2 h3)
theorem zr_sfld {idx w : Nat} {sv : Nat → Nat} {n d : String} {v : Value} (X : zv_X S D cA tb sx p s mi args meth c cc nL own ret ini) (hd : decode cc pc = .ok (.getfield idx, 3)) (hl : Cond.fieldLink own idx "java/lang/String" n d ∈ zv_tbl) (hE : va_OF "java/lang/String" n d v (sx w) (fun q => S.heap.size ≤ q) S S.heap) (kk : zv_V S D cA p l e R s mi args below meth c nL Qf kc ks (pc + 3) lo (v :: st) sh m) : zv_V S D cA p l e R s mi args below meth c nL Qf kc ks pc lo (.ref (sx w) :: st) sh m := by
  intro H locs ls h1 h2 h3
  obtain ⟨x1, x2, x3, x4, x5, x6, x7, x8, x9, x10, x11, x12, x13⟩ := X
  have hE : va_OF "java/lang/String" n d v (sx w) (fun q => S.heap.size ≤ q) s S.heap := va_OF.moved x7.alike hE
  obtain ⟨cf, k, fi, f, cell, g1, g2, g3, g4, g5, g6⟩ := hE
  have ha : sx w < S.heap.size := Nat.not_le.mp g6
  exact W.getf x1 x2 x5 (x6 _ hl) g1 g2 (by rw [h1.2.1 _ ha]; exact g3) g4 (v := v) g5 rfl rfl hd (kk H locs ls h1 h2 h3)
theorem zr_sblen {w : Nat} {sv : Nat → Nat} (X : zv_X S D cA tb sx p s mi args meth c cc nL own ret ini) (hs : zv_Ss S sx sv) (hd : decode cc pc = .ok (.arraylength, 1)) (hw : w < 6) (kk : zv_V S D cA p l e R s mi args below meth c nL Qf kc ks (pc + 1) lo (.int (Int32.ofNat (zsl w)) :: st) sh m) : zv_V S D cA p l e R s mi args below meth c nL Qf kc ks pc lo (.ref (sv w) :: st) sh m := by
  intro H locs ls h1 h2 h3
  obtain ⟨x1, x2, x3, x4, x5, x6, x7, x8, x9, x10, x11, x12, x13⟩ := X
  have hT := va_T.moved x7.alike ((hs.1.1 w hw).2.2.2)
  obtain ⟨cell, g1, g2, g3, g4, g5, g6, g7⟩ := hT
  have ha : sv w < S.heap.size := Nat.not_le.mp g7
  have e : [5, 5, 4, 5, 4, 1].getD w 0 = zsl w := by
    have z : ∀ w, w < 6 → [5, 5, 4, 5, 4, 1].getD w 0 = zsl w := by decide +kernel
    exact z w hw
  rw [e] at g5
  exact W.alen (n := Int32.ofNat (zsl w)) x1 x2 (by rw [h1.2.1 _ ha]; exact g1) g2 g5 rfl rfl hd (kk H locs ls h1 h2 h3)
theorem zr_sbald {w : Nat} {sv : Nat → Nat} {i : Int32} (X : zv_X S D cA tb sx p s mi args meth c cc nL own ret ini) (hs : zv_Ss S sx sv) (hd : decode cc pc = .ok (.baload, 1)) (hw : w < 6) (hin : vp_in i (zsl w)) (kk : zv_V S D cA p l e R s mi args below meth c nL Qf kc ks (pc + 1) lo (.int (zsc w i.toNatClampNeg) :: st) sh m) : zv_V S D cA p l e R s mi args below meth c nL Qf kc ks pc lo (.int i :: .ref (sv w) :: st) sh m := by
  intro H locs ls h1 h2 h3
  obtain ⟨x1, x2, x3, x4, x5, x6, x7, x8, x9, x10, x11, x12, x13⟩ := X
  have hT := va_T.moved x7.alike ((hs.1.1 w hw).2.2.2)
  obtain ⟨cell, g1, g2, g3, g4, g5, g6, g7⟩ := hT
  have ha : sv w < S.heap.size := Nat.not_le.mp g7
  have e : [5, 5, 4, 5, 4, 1].getD w 0 = zsl w := by
    have z : ∀ w, w < 6 → [5, 5, 4, 5, 4, 1].getD w 0 = zsl w := by decide +kernel
    exact z w hw
  rw [e] at g4 g6
  have hlt : i.toNatClampNeg < zsl w := Nat.not_le.mp fun q => hin (Or.inr q)
  have hin' : ¬ (i < 0 ∨ cell.slots.size ≤ i.toNatClampNeg) := by
    intro q
    rcases q with q | q
    · exact hin (Or.inl q)
    · omega
  exact W.bald (v := .int (zsc w i.toNatClampNeg)) x1 x2 (by rw [h1.2.1 _ ha]; exact g1) g2 g3 hin' (g6 _ hlt) rfl rfl hd (kk H locs ls h1 h2 h3)
theorem zr_sget {idx : Nat} {C n d : String} {v : Value} (X : zv_X S D cA tb sx p s mi args meth c cc nL own ret ini) (hZ : va_Z C n d v (fun q => S.heap.size ≤ q) S S.heap) (hd : decode cc pc = .ok (.getstatic idx, 3)) (hl : Cond.fieldLink own idx C n d ∈ zv_tbl) (kk : zv_V S D cA p l e R s mi args below meth c nL Qf kc ks (pc + 3) lo (v :: st) sh m) : zv_V S D cA p l e R s mi args below meth c nL Qf kc ks pc lo st sh m := by
  intro H locs ls h1 h2 h3
  obtain ⟨x1, x2, x3, x4, x5, x6, x7, x8, x9, x10, x11, x12, x13⟩ := X
  have hZ : va_Z C n d v (fun q => S.heap.size ≤ q) s s.heap := (hZ.moved x7.alike).kept (fun a h9 h10 => x10 a (Nat.not_le.mp h10))
  obtain ⟨cf, kf, fi, f, a, cell, g1, g2, g3, g4, g5, g6, g7, g8⟩ := hZ
  have ha : a < S.heap.size := Nat.not_le.mp g8
  exact W.gets x1 x2 x5 (x6 _ hl) g1 g2 g3 g4 (by rw [h1.2.1 a ha, ← x10 a ha]; exact g5) (fun h => by rw [h] at g6; cases g6) g7 rfl hd (kk H locs ls h1 h2 h3)
theorem zr_callVs {y : MethodName} {bytes : ByteArray} {maxL n d idx w : Nat} {rt : Option FieldType} {As : List Value} {K : Int32 → zv_M → Prop} {sv : Nat → Nat} (X : zv_X S D cA tb sx p s mi args meth c cc nL own ret ini) (hs : zv_Ss S sx sv) (hw : w < 6) (hd : decode cc pc = .ok (.invokevirtual idx, 3)) (w1 : Cond.methodLink own idx y ∈ zv_tbl) (hy : zv_my y bytes maxL rt n) (hyv : Cond.instanceMethod y ∈ zv_tbl ∧ Cond.selects y.cls y y ∈ zv_tbl) (hyc : y.cls = "java/lang/String") (hn : As.length = n) (hst : (st.map fun v => v.category).sum ≤ 8) (hR : d + 1 ≤ R.frames ∧ 40 * d + 40 ≤ R.locals) (hf : kc + 0 ≤ R.cells ∧ ks + 0 ≤ R.slots)
    (hM : zv_Met l S D cA d 0 0 y bytes maxL rt (.ref (sx w) :: As) sh m (zq_i sh K)) (kk : ∀ (v : Int32) (m' : zv_M), K v m' → zv_V S D cA p l e R s mi args below meth c nL Qf (kc + 0) (ks + 0) (pc + 3) lo (.int v :: st) sh m') : zv_V S D cA p l e R s mi args below meth c nL Qf kc ks pc lo (As.reverse ++ .ref (sx w) :: st) sh m := by
  intro H locs ls h1 h2 h3
  have X0 := X
  obtain ⟨x1, x2, x3, x4, x5, x6, x7, x8, x9, x10, x11⟩ := X
  obtain ⟨y1, y2, y3, y4⟩ := hy
  have hr : ∃ cellB : Cell, H[sx w]? = some cellB ∧ cellB.vm.isStatics = false ∧ s.vm.findClass y.cls = some cellB.cls := by
    obtain ⟨cell, q1, q2, q3, q4⟩ := va_O.moved x7.alike (hs.1.1 w hw).1
    have ha : sx w < S.heap.size := Nat.not_le.mp q4
    exact ⟨cell, by rw [h1.2.1 _ ha]; exact q1, q2, by rw [hyc]; exact q3⟩
  refine zv_call (Q' := zq_i sh K) h2 h3 X0 (va_runV (As := As) (rest := st) (C := y.cls) ⟨x1, x2, x3, x5, x6⟩ hM ⟨⟨rfl, rfl, hR.1, by show 8 + (maxL + 11) + 40 * d ≤ R.locals; omega, zv_ws y1 x6, List.mem_cons_self, x6 _ y1, x6 _ y2, ⟨y3.1, y3.2.1⟩, zv_ar y3.2.2, x6 _ w1⟩, x6 _ hyv.1, x6 _ hyv.2⟩ ⟨zv_blind, hr, fun U hU hW => ⟨rfl, x7.trans hW, by rw [hU]; exact h1⟩⟩ rfl hn h3.1 rfl (lv_room hst) hd hf) (fun r sh' m' q => by obtain ⟨rfl, v, rfl, q⟩ := q; exact kk v _ q)

end ZS
set_option maxRecDepth 100000 in
set_option maxHeartbeats 4000000 in
theorem xs_cod {l : Launch} {S : State} {D : va_G} {cA : Nat → ClassId} {tb sx sv : Nat → Nat} (hG : zv_G S D cA tb sx) (hs : zv_Ss S sx sv) (d : Nat) (hd : 1 ≤ d) {w : Nat} (hw : w < 6)  (sh : List zv_C) (m : zv_M) : zv_Met l S D cA d 0 0 yJ0_coder_7d493 cJ0_coder_7d493 1 (some .byte) [.ref (sx w)] sh m (zq_i sh (fun v m' => v = 0 ∧ m' = m)) := by
  refine zv_met false hG pf_J0_coder_7d493 (fun z => by cases z) (Nat.le_of_ble_eq_true rfl) [(0, .ref (sx w))] rfl (fun p e s mi args below meth c X => ?_)
  refine zr_sget X hs.2.2.1 dJ0_coder_7d493_0 wf_J0_38 ?_
  refine zr_if_eq (tgt := 13) X dJ0_coder_7d493_3 (by decide) (fun q => absurd q (by decide)) (fun _ => ?_)
  refine zr_aload_n X dJ0_coder_7d493_6 0 rfl ?_
  refine zr_sfld (sv := sv) X dJ0_coder_7d493_7 wf_J0_15 ((hs.1.1 w hw).2.1) ?_
  refine zr_goto (tgt := 14) X dJ0_coder_7d493_10 (by decide) ?_
  exact zr_iret X dJ0_coder_7d493_14 rfl ⟨Nat.le_refl _, Nat.le_refl _⟩ ⟨rfl, _, rfl, rfl, rfl⟩
set_option maxRecDepth 100000 in
set_option maxHeartbeats 4000000 in
theorem xs_isl {l : Launch} {S : State} {D : va_G} {cA : Nat → ClassId} {tb sx sv : Nat → Nat} (hG : zv_G S D cA tb sx) (hs : zv_Ss S sx sv) (d : Nat) (hd : 1 ≤ d) {w : Nat} (hw : w < 6)  (sh : List zv_C) (m : zv_M) : zv_Met l S D cA d 0 0 yJ0_isLatin1_aae02 cJ0_isLatin1_aae02 1 (some .boolean) [.ref (sx w)] sh m (zq_i sh (fun v m' => v = 1 ∧ m' = m)) := by
  refine zv_met false hG pf_J0_isLatin1_aae02 (fun z => by cases z) (Nat.le_of_ble_eq_true rfl) [(0, .ref (sx w))] rfl (fun p e s mi args below meth c X => ?_)
  refine zr_sget X hs.2.2.1 dJ0_isLatin1_aae02_0 wf_J0_38 ?_
  refine zr_if_eq (tgt := 17) X dJ0_isLatin1_aae02_3 (by decide) (fun q => absurd q (by decide)) (fun _ => ?_)
  refine zr_aload_n X dJ0_isLatin1_aae02_6 0 rfl ?_
  refine zr_sfld (sv := sv) X dJ0_isLatin1_aae02_7 wf_J0_15 ((hs.1.1 w hw).2.1) ?_
  refine zr_if_ne (tgt := 17) X dJ0_isLatin1_aae02_10 (by decide) (fun q => absurd rfl q) (fun _ => ?_)
  refine zr_iconst (v := 1) X dJ0_isLatin1_aae02_13 (by decide) ?_
  refine zr_goto (tgt := 18) X dJ0_isLatin1_aae02_14 (by decide) ?_
  exact zr_iret X dJ0_isLatin1_aae02_18 rfl ⟨Nat.le_refl _, Nat.le_refl _⟩ ⟨rfl, _, rfl, rfl, rfl⟩
set_option maxRecDepth 100000 in
set_option maxHeartbeats 4000000 in
theorem xs_len {l : Launch} {S : State} {D : va_G} {cA : Nat → ClassId} {tb sx sv : Nat → Nat} (hG : zv_G S D cA tb sx) (hs : zv_Ss S sx sv) (d : Nat) (hd : 2 ≤ d) {w : Nat} (hw : w < 6)  (sh : List zv_C) (m : zv_M) : zv_Met l S D cA d 0 0 yJ0_length_8abf5 cJ0_length_8abf5 1 (some .int) [.ref (sx w)] sh m (zq_i sh (fun v m' => v = Int32.ofNat (zsl w) ∧ m' = m)) := by
  refine zv_met false hG pf_J0_length_8abf5 (fun z => by cases z) (Nat.le_of_ble_eq_true rfl) [(0, .ref (sx w))] rfl (fun p e s mi args below meth c X => ?_)
  refine zr_aload_n X dJ0_length_8abf5_0 0 rfl ?_
  refine zr_sfld (sv := sv) X dJ0_length_8abf5_1 wf_J0_9 ((hs.1.1 w hw).2.2.1) ?_
  refine zr_sblen X hs dJ0_length_8abf5_4 hw ?_
  refine zr_aload_n X dJ0_length_8abf5_5 0 rfl ?_
  refine zr_callVs (As := []) (st := [.int (Int32.ofNat (zsl w))]) (d := d - 1) X hs hw dJ0_length_8abf5_6 wm_J0_335 my_J0_coder_7d493 mvs_J0_coder_7d493 rfl rfl (Nat.le_of_ble_eq_true rfl) (zRm (by omega)) ⟨Nat.le_refl _, Nat.le_refl _⟩ (xs_cod hG hs (d - 1) (by omega) hw sh m) (fun v m1 q => ?_)
  obtain ⟨rfl, rfl⟩ := q
  refine zr_ishr X dJ0_length_8abf5_9 ?_
  exact zr_iret X dJ0_length_8abf5_10 rfl ⟨Nat.le_refl _, Nat.le_refl _⟩ ⟨rfl, _, rfl, sb_shr0 _, rfl⟩
set_option maxRecDepth 100000 in
set_option maxHeartbeats 4000000 in
theorem xs_pk {l : Launch} {S : State} {D : va_G} {cA : Nat → ClassId} {tb sx sv : Nat → Nat} (hG : zv_G S D cA tb sx) (hs : zv_Ss S sx sv) (d : Nat) (hd : 1 ≤ d) (i n : Int32) (v : Value) (hv : v.category = 1) (h1 : ¬ i < 0) (h2 : i < n) (sh : List zv_C) (m : zv_M) : zv_Met l S D cA d 0 0 yJ3_checkIndex_8e157 cJ3_checkIndex_8e157 3 (some .int) [.int i, .int n, v] sh m (zq_i sh (fun v m' => m' = m)) := by
  refine zv_met false hG pf_J3_checkIndex_8e157 (fun z => by cases z) (by cases v <;> first | exact Nat.le_of_ble_eq_true rfl | (exact absurd hv (by decide)) | (exact absurd hv (by simp [Value.category]))) [(0, .int i), (1, .int n), (2, v)] rfl (fun p e s mi args below meth c X => ?_)
  refine zr_iload_n X dJ3_checkIndex_8e157_0 0 rfl ?_
  refine zr_if_lt (tgt := 9) X dJ3_checkIndex_8e157_1 (by decide) (fun q => absurd q h1) (fun _ => ?_)
  refine zr_iload_n X dJ3_checkIndex_8e157_4 0 rfl ?_
  refine zr_iload_n X dJ3_checkIndex_8e157_5 1 rfl ?_
  refine zr_icmp_lt (tgt := 16) X dJ3_checkIndex_8e157_6 (by decide) (fun _ => ?_) (fun q => absurd h2 q)
  refine zr_iload_n X dJ3_checkIndex_8e157_16 0 rfl ?_
  exact zr_iret X dJ3_checkIndex_8e157_17 rfl ⟨Nat.le_refl _, Nat.le_refl _⟩ ⟨rfl, _, rfl, rfl⟩
set_option maxRecDepth 100000 in
set_option maxHeartbeats 4000000 in
theorem xs_ck {l : Launch} {S : State} {D : va_G} {cA : Nat → ClassId} {tb sx sv : Nat → Nat} (hG : zv_G S D cA tb sx) (hs : zv_Ss S sx sv) (d : Nat) (hd : 2 ≤ d) (i n : Int32) (h1 : ¬ i < 0) (h2 : i < n) (sh : List zv_C) (m : zv_M) : zv_Met l S D cA d 0 0 yJ0_checkIndex_df160 cJ0_checkIndex_df160 2 none [.int i, .int n] sh m (zq_v sh (fun m' => m' = m)) := by
  refine zv_met false hG pf_J0_checkIndex_df160 (fun z => by cases z) (Nat.le_of_ble_eq_true rfl) [(0, .int i), (1, .int n)] rfl (fun p e s mi args below meth c X => ?_)
  refine zr_iload_n X dJ0_checkIndex_df160_0 0 rfl ?_
  refine zr_iload_n X dJ0_checkIndex_df160_1 1 rfl ?_
  obtain ⟨v, hv, hZ⟩ : ∃ v : Value, v.category = 1 ∧ va_Z "jdk/internal/util/Preconditions" "SIOOBE_FORMATTER" "Ljava/util/function/BiFunction;" v (fun q => S.heap.size ≤ q) S S.heap := by
    rcases hs.2.2.2 with h | ⟨t, h⟩
    · exact ⟨_, rfl, h⟩
    · exact ⟨_, rfl, h⟩
  refine zr_sget X hZ dJ0_checkIndex_df160_2 wf_J0_1053 ?_
  refine zr_callS_i (As := [.int i, .int n, v]) (st := []) (d := d - 1) X dJ0_checkIndex_df160_5 wm_J0_1059 ws_J3_checkIndex_8e157 my_J3_checkIndex_8e157 rfl (Nat.le_of_ble_eq_true rfl) (zRm (by omega)) ⟨Nat.le_refl _, Nat.le_refl _⟩ (xs_pk hG hs (d - 1) (by omega) i n v hv h1 h2 sh m) (fun r m1 q => ?_)
  subst q
  refine zr_pop X dJ0_checkIndex_df160_8 rfl ?_
  exact zr_vret X dJ0_checkIndex_df160_9 ⟨Nat.le_refl _, Nat.le_refl _⟩ ⟨rfl, rfl, rfl⟩
theorem zs_ch : ∀ w, w < 6 → ∀ k, k < zsl w → ((zsc w k &&& 255).toUInt32 % 65536).toInt32 = zsc w k ∧ narrow .char (.int (zsc w k)) = .int (zsc w k) ∧ zsl w < 100 := by decide +kernel
set_option maxRecDepth 100000 in
set_option maxHeartbeats 4000000 in
theorem xs_l1 {l : Launch} {S : State} {D : va_G} {cA : Nat → ClassId} {tb sx sv : Nat → Nat} (hG : zv_G S D cA tb sx) (hs : zv_Ss S sx sv) (d : Nat) (hd : 3 ≤ d) {w : Nat} (hw : w < 6) (i : Int32) (hi : vp_in i (zsl w)) (sh : List zv_C) (m : zv_M) : zv_Met l S D cA d 0 0 yJ1_charAt_3b067 cJ1_charAt_3b067 2 (some .char) [.ref (sv w), .int i] sh m (zq_i sh (fun v m' => v = zsc w i.toNatClampNeg ∧ m' = m)) := by
  refine zv_met false hG pf_J1_charAt_3b067 (fun z => by cases z) (Nat.le_of_ble_eq_true rfl) [(0, .ref (sv w)), (1, .int i)] rfl (fun p e s mi args below meth c X => ?_)
  have hlt : i.toNatClampNeg < zsl w := Nat.not_le.mp fun q => hi (Or.inr q)
  obtain ⟨z1, z2, z3⟩ := zs_ch w hw _ hlt
  have h0 : ¬ i < 0 := fun q => hi (Or.inl q)
  have h1 : i < Int32.ofNat (zsl w) := by
    obtain ⟨j, hj, rfl⟩ := vp_in_of hi (by omega)
    exact nI_lt hj (by omega)
  refine zr_iload_n X dJ1_charAt_3b067_0 1 rfl ?_
  refine zr_aload_n X dJ1_charAt_3b067_1 0 rfl ?_
  refine zr_sblen X hs dJ1_charAt_3b067_2 hw ?_
  refine zr_callS_v (As := [.int i, .int (Int32.ofNat (zsl w))]) (st := []) (d := d - 1) X dJ1_charAt_3b067_3 wm_J1_9 ws_J0_checkIndex_df160 my_J0_checkIndex_df160 rfl (Nat.le_of_ble_eq_true rfl) (zRm (by omega)) ⟨Nat.le_refl _, Nat.le_refl _⟩ (xs_ck hG hs (d - 1) (by omega) i _ h0 h1 sh m) (fun m1 q => ?_)
  subst q
  refine zr_aload_n X dJ1_charAt_3b067_6 0 rfl ?_
  refine zr_iload_n X dJ1_charAt_3b067_7 1 rfl ?_
  refine zr_sbald X hs dJ1_charAt_3b067_8 hw hi ?_
  refine zr_sipush (v := 255) X dJ1_charAt_3b067_9 (by decide) ?_
  refine zr_iand X dJ1_charAt_3b067_12 ?_
  refine zr_i2c X dJ1_charAt_3b067_13 ?_
  rw [z1]
  exact zr_iret X dJ1_charAt_3b067_14 z2 ⟨Nat.le_refl _, Nat.le_refl _⟩ ⟨rfl, _, rfl, rfl, rfl⟩
set_option maxRecDepth 100000 in
set_option maxHeartbeats 4000000 in
theorem xs_ch {l : Launch} {S : State} {D : va_G} {cA : Nat → ClassId} {tb sx sv : Nat → Nat} (hG : zv_G S D cA tb sx) (hs : zv_Ss S sx sv) (d : Nat) (hd : 4 ≤ d) {w : Nat} (hw : w < 6) (i : Int32) (hi : vp_in i (zsl w)) (sh : List zv_C) (m : zv_M) : zv_Met l S D cA d 0 0 yJ0_charAt_5068e cJ0_charAt_5068e 2 (some .char) [.ref (sx w), .int i] sh m (zq_i sh (fun v m' => v = zsc w i.toNatClampNeg ∧ m' = m)) := by
  refine zv_met false hG pf_J0_charAt_5068e (fun z => by cases z) (Nat.le_of_ble_eq_true rfl) [(0, .ref (sx w)), (1, .int i)] rfl (fun p e s mi args below meth c X => ?_)
  have hlt : i.toNatClampNeg < zsl w := Nat.not_le.mp fun q => hi (Or.inr q)
  obtain ⟨z1, z2, z3⟩ := zs_ch w hw _ hlt
  refine zr_aload_n X dJ0_charAt_5068e_0 0 rfl ?_
  refine zr_callVs (As := []) (st := []) (d := d - 1) X hs hw dJ0_charAt_5068e_1 wm_J0_492 my_J0_isLatin1_aae02 mvs_J0_isLatin1_aae02 rfl rfl (Nat.le_of_ble_eq_true rfl) (zRm (by omega)) ⟨Nat.le_refl _, Nat.le_refl _⟩ (xs_isl hG hs (d - 1) (by omega) hw sh m) (fun v m1 q => ?_)
  obtain ⟨rfl, rfl⟩ := q
  refine zr_if_eq (tgt := 16) X dJ0_charAt_5068e_4 (by decide) (fun q => absurd q (by decide)) (fun _ => ?_)
  refine zr_aload_n X dJ0_charAt_5068e_7 0 rfl ?_
  refine zr_sfld (sv := sv) X dJ0_charAt_5068e_8 wf_J0_9 ((hs.1.1 w hw).2.2.1) ?_
  refine zr_iload_n X dJ0_charAt_5068e_11 1 rfl ?_
  refine zr_callS_i (As := [.ref (sv w), .int i]) (st := []) (d := d - 1) X dJ0_charAt_5068e_12 wm_J0_495 ws_J1_charAt_3b067 my_J1_charAt_3b067 rfl (Nat.le_of_ble_eq_true rfl) (zRm (by omega)) ⟨Nat.le_refl _, Nat.le_refl _⟩ (xs_l1 hG hs (d - 1) (by omega) hw i hi sh m1) (fun r m2 q => ?_)
  obtain ⟨rfl, rfl⟩ := q
  exact zr_iret X dJ0_charAt_5068e_15 z2 ⟨Nat.le_refl _, Nat.le_refl _⟩ ⟨rfl, _, rfl, rfl, rfl⟩
section ZS2
variable {S : State} {D : va_G} {cA : Nat → ClassId} {tb sx : Nat → Nat} {p : Program} {l : Launch} {e : Env} {R : Room} {s : State} {mi : MethodId} {args : Array Value} {below : List Frame} {meth : Method} {c : Code} {nL : Nat} {Qf : State → Prop} {kc ks pc : Nat} {lo : List (Nat × Value)} {st : List Value} {sh : List zv_C} {m : zv_M} {cc : ByteArray} {own : String} {ret : Option FieldType} {ini : Bool}


theorem zr_slen {idx w d : Nat} (X : zv_X S D cA tb sx p s mi args meth c cc nL own ret ini) (hG : zv_G S D cA tb sx) (hd : decode cc pc = .ok (.invokevirtual idx, 3)) (w1 : Cond.methodLink own idx yJ0_length_8abf5 ∈ zv_tbl) (hw : w < 6) (hR : d + 1 ≤ R.frames ∧ 40 * d + 40 ≤ R.locals) (hdd : 2 ≤ d) (hf : kc = 0 ∧ ks = 0) (hst : (st.map fun v => v.category).sum ≤ 8) (kk : zv_V S D cA p l e R s mi args below meth c nL Qf 0 0 (pc + 3) lo (.int (Int32.ofNat (zsl w)) :: st) sh m) : zv_V S D cA p l e R s mi args below meth c nL Qf kc ks pc lo (.ref (sx w) :: st) sh m := by
  obtain ⟨rfl, rfl⟩ := hf
  obtain ⟨sv, hs⟩ := X.2.2.2.2.2.2.2.2.2.2.2.2.1
  exact zr_callVs (As := []) (d := d) X hs hw hd w1 my_J0_length_8abf5 mvs_J0_length_8abf5 rfl rfl hst hR ⟨Nat.zero_le _, Nat.zero_le _⟩ (xs_len hG hs d hdd hw sh m) (fun v m1 q => by obtain ⟨rfl, rfl⟩ := q; exact kk)
theorem zr_schr {idx w d : Nat} {i : Int32} (X : zv_X S D cA tb sx p s mi args meth c cc nL own ret ini) (hG : zv_G S D cA tb sx) (hd : decode cc pc = .ok (.invokevirtual idx, 3)) (w1 : Cond.methodLink own idx yJ0_charAt_5068e ∈ zv_tbl) (hw : w < 6) (hi : vp_in i (zsl w)) (hR : d + 1 ≤ R.frames ∧ 40 * d + 40 ≤ R.locals) (hdd : 4 ≤ d) (hf : kc = 0 ∧ ks = 0) (hst : (st.map fun v => v.category).sum ≤ 8) (kk : zv_V S D cA p l e R s mi args below meth c nL Qf 0 0 (pc + 3) lo (.int (zsc w i.toNatClampNeg) :: st) sh m) : zv_V S D cA p l e R s mi args below meth c nL Qf kc ks pc lo (.int i :: .ref (sx w) :: st) sh m := by
  obtain ⟨rfl, rfl⟩ := hf
  obtain ⟨sv, hs⟩ := X.2.2.2.2.2.2.2.2.2.2.2.2.1
  exact zr_callVs (As := [.int i]) (d := d) X hs hw hd w1 my_J0_charAt_5068e mvs_J0_charAt_5068e rfl rfl hst hR ⟨Nat.zero_le _, Nat.zero_le _⟩ (xs_ch hG hs d hdd hw i hi sh m) (fun v m1 q => by obtain ⟨rfl, rfl⟩ := q; exact kk)

end ZS2
