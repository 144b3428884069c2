-- ===== end of PART A; then your names; then what follows =====
/-! THE CLAIM OUT OF ONE WALK OF THE LAW'S BODY. Your part is whole_start (and what it stands on); all else here is the same for every law, but numbers. -/
def R_law : String := "NoneSeesLaw"
def lw_P (b : Addr) (xs : List Int32) (args : Array Value) (s : State) : Prop := args = #[.ref b] ∧ s.IntsAt b xs ∧ xs.length ≤ 3072 ∧ (Jvm.Cond.and given_1 narrow_1).before args s = true
def lw_Q (_ : Array Value) (s : State) (o : Outcome) (t : State) : Prop := o = .returned (some (.int 1)) ∧ Framed s o t [] 600000 7302250
def lw_Z (below : List Frame) (a : Array Value) (s : State) : State → Prop := fun t => ∃ o, t.status = .running ∧ Ended t below o ∧ lw_Q a s o t
/-- the law's own end, with 1 on the stack, nothing written that was there before, its room as the claim has it -/
theorem lw_ret {p : Program} {l : Launch} {e : Env} {s : State} {m : MethodId} {below : List Frame} {meth : Method} {c : Code} {b : Nat} (hx : p.tables.exec = Jvm.exec) (hb : c.code = code) (hr : meth.sig.returnType = ret) (hlocks : meth.locks = false) {pc : Nat} {H : Heap} {ls : Array Slot} (hdg : decode code pc = .ok (.ireturn, 1)) : W p l e room_1 s m #[Value.ref b] below meth c H [] 600000 7302250 (lw_Z below #[Value.ref b] s) (F0 m pc ls [.int 1]) := by
  intro T hT X
  obtain ⟨fs, hret, hrun, hended, hW, hframe⟩ := X.leave (v := some (.int 1)) (hlocks := hlocks) (fun h => by rw [hr] at h; cases h)
  have hmeth' : T.vm.method? m = some meth := X.method'
  refine ⟨T.setFrames fs, ?_, .returned (some (.int 1)), hrun, hended, rfl, ⟨_, rfl⟩, hW, hframe⟩
  jvm_step X.here [X.here.top, hx, hb, hdg, hmeth', hr, ret, narrow_b1]
  (try refine ⟨rfl, ?_⟩); (try refine ⟨rfl, ?_⟩)
  first | (intro acts; rw [hret _ acts rfl rfl rfl]) | rw [hret _ _ rfl rfl rfl]
  exact Steps.refl _
/-- what holds at the law's entry: the machine, the code, the tables' words (any of lw_tbl by 'hts w (by decide +kernel)'), the script of L ints xs at the cell b, what the Statement gives of the start (any of its parts by flat_of_before) -/
def lw_At (p : Program) (s : State) (m : MethodId) (meth : Method) (c : Code) (b L : Nat) (xs : Nat → Int32) : Prop :=
  p.tables.exec = Jvm.exec ∧ c.code = code ∧ meth.sig.returnType = ret ∧ c.maxLocals = 4 ∧ s.vm.findClass R_law = some m.cls ∧ (∀ w ∈ lw_tbl, w.before #[Value.ref b] s = true) ∧ va_X b L xs s s.heap ∧ b < s.heap.size ∧ meth.locks = false ∧ (Jvm.Cond.and given_1 narrow_1).before #[Value.ref b] s = true
theorem wc_L_167 : Cond.constantLong RL 167 4294967295 ∈ zv_tbl := zv_m7 220 (by decide +kernel) rfl
theorem wm_L_100 : Cond.methodLink RL 100 yX11_alike ∈ zv_tbl := zv_m7 79 (by decide +kernel) rfl
theorem wm_L_101 : Cond.methodLink RL 101 yX10_aim ∈ zv_tbl := zv_m4 59 (by decide +kernel) rfl
theorem wm_L_104 : Cond.methodLink RL 104 yX11_aim ∈ zv_tbl := zv_m7 83 (by decide +kernel) rfl
theorem wm_L_105 : Cond.methodLink RL 105 yX10_reach ∈ zv_tbl := zv_m4 68 (by decide +kernel) rfl
theorem wm_L_108 : Cond.methodLink RL 108 yX11_reach ∈ zv_tbl := zv_m7 87 (by decide +kernel) rfl
theorem wm_L_109 : Cond.methodLink RL 109 yX10_see ∈ zv_tbl := zv_m4 99 (by decide +kernel) rfl
theorem wm_L_112 : Cond.methodLink RL 112 yX11_see ∈ zv_tbl := zv_m7 99 (by decide +kernel) rfl
theorem wm_L_113 : Cond.methodLink RL 113 yX10_rubbed ∈ zv_tbl := zv_m4 104 (by decide +kernel) rfl
theorem wm_L_116 : Cond.methodLink RL 116 yX11_rubbed ∈ zv_tbl := zv_m7 103 (by decide +kernel) rfl
theorem wm_L_117 : Cond.methodLink RL 117 yX10_odds ∈ zv_tbl := zv_m4 112 (by decide +kernel) rfl
theorem wm_L_121 : Cond.methodLink RL 121 yX11_odds ∈ zv_tbl := zv_m7 111 (by decide +kernel) rfl
theorem wm_L_122 : Cond.methodLink RL 122 yX10_mean ∈ zv_tbl := zv_m4 120 (by decide +kernel) rfl
theorem wm_L_126 : Cond.methodLink RL 126 yX11_mean ∈ zv_tbl := zv_m7 124 (by decide +kernel) rfl
theorem wm_L_127 : Cond.methodLink RL 127 yX10_book ∈ zv_tbl := zv_m4 128 (by decide +kernel) rfl
theorem wm_L_13 : Cond.methodLink RL 13 yX10_plan ∈ zv_tbl := zv_m2 84 (by decide +kernel) rfl
theorem wm_L_130 : Cond.methodLink RL 130 yX11_book ∈ zv_tbl := zv_m7 128 (by decide +kernel) rfl
theorem wm_L_131 : Cond.methodLink RL 131 yX10_looked ∈ zv_tbl := zv_m4 132 (by decide +kernel) rfl
theorem wm_L_134 : Cond.methodLink RL 134 yX11_looked ∈ zv_tbl := zv_m7 132 (by decide +kernel) rfl
theorem wm_L_135 : Cond.methodLink RL 135 yX10_judge ∈ zv_tbl := zv_m4 136 (by decide +kernel) rfl
theorem wm_L_138 : Cond.methodLink RL 138 yX11_judge ∈ zv_tbl := zv_m7 136 (by decide +kernel) rfl
theorem wm_L_139 : Cond.methodLink RL 139 yX10_image ∈ zv_tbl := zv_m4 171 (by decide +kernel) rfl
theorem wm_L_142 : Cond.methodLink RL 142 yX11_image ∈ zv_tbl := zv_m7 144 (by decide +kernel) rfl
theorem wm_L_143 : Cond.methodLink RL 143 yX10_undo ∈ zv_tbl := zv_m4 186 (by decide +kernel) rfl
theorem wm_L_146 : Cond.methodLink RL 146 yX11_undo ∈ zv_tbl := zv_m7 148 (by decide +kernel) rfl
theorem wm_L_147 : Cond.methodLink RL 147 yX10_act ∈ zv_tbl := zv_m4 190 (by decide +kernel) rfl
theorem wm_L_150 : Cond.methodLink RL 150 yX11_act ∈ zv_tbl := zv_m7 152 (by decide +kernel) rfl
theorem wm_L_151 : Cond.methodLink RL 151 yX10_trace ∈ zv_tbl := zv_m4 219 (by decide +kernel) rfl
theorem wm_L_154 : Cond.methodLink RL 154 yX11_trace ∈ zv_tbl := zv_m7 188 (by decide +kernel) rfl
theorem wm_L_155 : Cond.methodLink RL 155 yX10_taken ∈ zv_tbl := zv_m4 223 (by decide +kernel) rfl
theorem wm_L_158 : Cond.methodLink RL 158 yX11_taken ∈ zv_tbl := zv_m7 192 (by decide +kernel) rfl
theorem wm_L_159 : Cond.methodLink RL 159 yX10_count ∈ zv_tbl := zv_m4 230 (by decide +kernel) rfl
theorem wm_L_162 : Cond.methodLink RL 162 yX11_count ∈ zv_tbl := zv_m7 196 (by decide +kernel) rfl
theorem wm_L_163 : Cond.methodLink RL 163 yX10_tape ∈ zv_tbl := zv_m4 234 (by decide +kernel) rfl
theorem wm_L_166 : Cond.methodLink RL 166 yX11_tape ∈ zv_tbl := zv_m7 200 (by decide +kernel) rfl
theorem wm_L_169 : Cond.methodLink RL 169 yX10_item ∈ zv_tbl := zv_m5 4 (by decide +kernel) rfl
theorem wm_L_17 : Cond.methodLink RL 17 yX11_plan ∈ zv_tbl := zv_m6 19 (by decide +kernel) rfl
theorem wm_L_173 : Cond.methodLink RL 173 yX11_item ∈ zv_tbl := zv_m7 204 (by decide +kernel) rfl
theorem wm_L_174 : Cond.methodLink RL 174 yX10_read ∈ zv_tbl := zv_m5 15 (by decide +kernel) rfl
theorem wm_L_177 : Cond.methodLink RL 177 yX11_read ∈ zv_tbl := zv_m7 212 (by decide +kernel) rfl
theorem wm_L_178 : Cond.methodLink RL 178 yX10_shift ∈ zv_tbl := zv_m5 19 (by decide +kernel) rfl
theorem wm_L_18 : Cond.methodLink RL 18 yX10_of ∈ zv_tbl := zv_m2 101 (by decide +kernel) rfl
theorem wm_L_182 : Cond.methodLink RL 182 yX11_shift ∈ zv_tbl := zv_m7 216 (by decide +kernel) rfl
theorem wm_L_21 : Cond.methodLink RL 21 yX11_of ∈ zv_tbl := zv_m6 51 (by decide +kernel) rfl
theorem wm_L_22 : Cond.methodLink RL 22 yX10_row ∈ zv_tbl := zv_m2 117 (by decide +kernel) rfl
theorem wm_L_26 : Cond.methodLink RL 26 yX11_row ∈ zv_tbl := zv_m6 27 (by decide +kernel) rfl
theorem wm_L_27 : Cond.methodLink RL 27 yX10_feed ∈ zv_tbl := zv_m2 125 (by decide +kernel) rfl
theorem wm_L_31 : Cond.methodLink RL 31 yX11_feed ∈ zv_tbl := zv_m6 55 (by decide +kernel) rfl
theorem wm_L_32 : Cond.methodLink RL 32 yX10_yard ∈ zv_tbl := zv_m2 137 (by decide +kernel) rfl
theorem wm_L_36 : Cond.methodLink RL 36 yX11_yard ∈ zv_tbl := zv_m6 59 (by decide +kernel) rfl
theorem wm_L_37 : Cond.methodLink RL 37 yX10_told ∈ zv_tbl := zv_m3 26 (by decide +kernel) rfl
theorem wm_L_40 : Cond.methodLink RL 40 yX11_told ∈ zv_tbl := zv_m6 191 (by decide +kernel) rfl
theorem wm_L_41 : Cond.methodLink RL 41 yX10_set ∈ zv_tbl := zv_m3 113 (by decide +kernel) rfl
theorem wm_L_44 : Cond.methodLink RL 44 yX11_set ∈ zv_tbl := zv_m6 207 (by decide +kernel) rfl
theorem wm_L_45 : Cond.methodLink RL 45 yX10_take ∈ zv_tbl := zv_m3 153 (by decide +kernel) rfl
theorem wm_L_48 : Cond.methodLink RL 48 yX11_take ∈ zv_tbl := zv_m6 219 (by decide +kernel) rfl
theorem wm_L_49 : Cond.methodLink RL 49 yX10_at ∈ zv_tbl := zv_m3 157 (by decide +kernel) rfl
theorem wm_L_52 : Cond.methodLink RL 52 yX11_at ∈ zv_tbl := zv_m6 223 (by decide +kernel) rfl
theorem wm_L_53 : Cond.methodLink RL 53 yX10_sees ∈ zv_tbl := zv_m3 165 (by decide +kernel) rfl
theorem wm_L_56 : Cond.methodLink RL 56 yX11_sees ∈ zv_tbl := zv_m6 151 (by decide +kernel) rfl
theorem wm_L_57 : Cond.methodLink RL 57 yX10_clear ∈ zv_tbl := zv_m3 169 (by decide +kernel) rfl
theorem wm_L_60 : Cond.methodLink RL 60 yX11_clear ∈ zv_tbl := zv_m6 35 (by decide +kernel) rfl
theorem wm_L_61 : Cond.methodLink RL 61 yX10_worst ∈ zv_tbl := zv_m3 174 (by decide +kernel) rfl
theorem wm_L_64 : Cond.methodLink RL 64 yX11_worst ∈ zv_tbl := zv_m6 227 (by decide +kernel) rfl
theorem wm_L_65 : Cond.methodLink RL 65 yX10_ways ∈ zv_tbl := zv_m3 178 (by decide +kernel) rfl
theorem wm_L_68 : Cond.methodLink RL 68 yX11_ways ∈ zv_tbl := zv_m6 231 (by decide +kernel) rfl
theorem wm_L_69 : Cond.methodLink RL 69 yX10_after ∈ zv_tbl := zv_m3 212 (by decide +kernel) rfl
theorem wm_L_72 : Cond.methodLink RL 72 yX11_after ∈ zv_tbl := zv_m7 7 (by decide +kernel) rfl
theorem wm_L_73 : Cond.methodLink RL 73 yX10_most ∈ zv_tbl := zv_m3 224 (by decide +kernel) rfl
theorem wm_L_76 : Cond.methodLink RL 76 yX11_most ∈ zv_tbl := zv_m7 15 (by decide +kernel) rfl
theorem wm_L_77 : Cond.methodLink RL 77 yX10_hold ∈ zv_tbl := zv_m3 238 (by decide +kernel) rfl
theorem wm_L_80 : Cond.methodLink RL 80 yX11_hold ∈ zv_tbl := zv_m7 23 (by decide +kernel) rfl
theorem wm_L_81 : Cond.methodLink RL 81 yX10_more ∈ zv_tbl := zv_m4 14 (by decide +kernel) rfl
theorem wm_L_84 : Cond.methodLink RL 84 yX11_more ∈ zv_tbl := zv_m7 39 (by decide +kernel) rfl
theorem wm_L_85 : Cond.methodLink RL 85 yX10_right ∈ zv_tbl := zv_m4 18 (by decide +kernel) rfl
theorem wm_L_88 : Cond.methodLink RL 88 yX11_right ∈ zv_tbl := zv_m7 47 (by decide +kernel) rfl
theorem wm_L_89 : Cond.methodLink RL 89 yX10_game ∈ zv_tbl := zv_m4 26 (by decide +kernel) rfl
theorem wm_L_92 : Cond.methodLink RL 92 yX11_game ∈ zv_tbl := zv_m7 63 (by decide +kernel) rfl
theorem wm_L_93 : Cond.methodLink RL 93 yX10_turned ∈ zv_tbl := zv_m4 43 (by decide +kernel) rfl
theorem wm_L_96 : Cond.methodLink RL 96 yX11_turned ∈ zv_tbl := zv_m7 67 (by decide +kernel) rfl
theorem wm_L_97 : Cond.methodLink RL 97 yX10_alike ∈ zv_tbl := zv_m4 55 (by decide +kernel) rfl
def fLaw_j208 (L : Nat) (xs : Nat → Int32) (a2 : Int32) (m3 : zv_M)  : Option ((Int32 × zv_M) ⊕ (Int32)) := zg (zI (a2 + 1) L) (zg (zI (a2 + 2) L) (zb2 (fN_plan (xs (a2 + 1).toNatClampNeg) (xs (a2 + 2).toNatClampNeg) m3) (fun r4 m5 => zg (zI (a2 + 1) L) (zg (zI (a2 + 2) L) (zb2 (fM_plan (xs (a2 + 1).toNatClampNeg) (xs (a2 + 2).toNatClampNeg) m5) (fun r6 m7 => if r4 = r6 then some (.inl (a2 + 6, m7)) else some (.inr 0)))))))
def fLaw_j241 (L : Nat) (xs : Nat → Int32) (a2 : Int32) (m3 : zv_M)  : Option ((Int32 × zv_M) ⊕ (Int32)) := zg (zI (a2 + 1) L) (zg (zI (a2 + 2) L) (zb1 (fN_of (xs (a2 + 1).toNatClampNeg) (xs (a2 + 2).toNatClampNeg) m3) (fun r8 => zg (zI (a2 + 1) L) (zg (zI (a2 + 2) L) (zb1 (fM_of (xs (a2 + 1).toNatClampNeg) (xs (a2 + 2).toNatClampNeg) m3) (fun r10 => if r8 = r10 then some (.inl (a2 + 6, m3)) else some (.inr 0)))))))
def fLaw_j274 (L : Nat) (xs : Nat → Int32) (a2 : Int32) (m3 : zv_M)  : Option ((Int32 × zv_M) ⊕ (Int32)) := zg (zI (a2 + 1) L) (zg (zI (a2 + 2) L) (zg (zI (a2 + 3) L) (zb2 (fN_row (xs (a2 + 1).toNatClampNeg) (xs (a2 + 2).toNatClampNeg) (xs (a2 + 3).toNatClampNeg) m3) (fun r12 m13 => zg (zI (a2 + 1) L) (zg (zI (a2 + 2) L) (zg (zI (a2 + 3) L) (zb2 (fM_row (xs (a2 + 1).toNatClampNeg) (xs (a2 + 2).toNatClampNeg) (xs (a2 + 3).toNatClampNeg) m13) (fun r14 m15 => if r12 = r14 then some (.inl (a2 + 6, m15)) else some (.inr 0)))))))))
def fLaw_j317 (L : Nat) (xs : Nat → Int32) (a2 : Int32) (m3 : zv_M)  : Option ((Int32 × zv_M) ⊕ (Int32)) := zg (zI (a2 + 1) L) (zb2 (fN_feed (xs (a2 + 1).toNatClampNeg) m3) (fun r16 m17 => zg (zI (a2 + 1) L) (zb2 (fM_feed (xs (a2 + 1).toNatClampNeg) m17) (fun r18 m19 => if r16 = r18 then some (.inl (a2 + 6, m19)) else some (.inr 0)))))
def fLaw_j340 (a2 : Int32) (m3 : zv_M)  : Option ((Int32 × zv_M) ⊕ (Int32)) := zb2 (fN_yard m3) (fun r20 m21 => zb2 (fM_yard m21) (fun r22 m23 => if r20 = r22 then some (.inl (a2 + 6, m23)) else some (.inr 0)))
def fLaw_j353 (L : Nat) (xs : Nat → Int32) (a2 : Int32) (m3 : zv_M)  : Option ((Int32 × zv_M) ⊕ (Int32)) := zg (zI (a2 + 1) L) (zb2 (fN_told (xs (a2 + 1).toNatClampNeg) m3) (fun r24 m25 => zg (zI (a2 + 1) L) (zb1 (fM_told (xs (a2 + 1).toNatClampNeg) m25) (fun r26 => if r24 = r26 then some (.inl (a2 + 6, m25)) else some (.inr 0)))))
def fLaw_j376 (L : Nat) (xs : Nat → Int32) (a2 : Int32) (m3 : zv_M)  : Option ((Int32 × zv_M) ⊕ (Int32)) := zg (zI (a2 + 1) L) (zg (zI (a2 + 2) L) (zb2 (fN_set (xs (a2 + 1).toNatClampNeg) (xs (a2 + 2).toNatClampNeg) m3) (fun r28 m29 => zg (zI (a2 + 1) L) (zg (zI (a2 + 2) L) (zb2 (fM_set (xs (a2 + 1).toNatClampNeg) (xs (a2 + 2).toNatClampNeg) m29) (fun r30 m31 => if r28 = r30 then some (.inl (a2 + 6, m31)) else some (.inr 0)))))))
def fLaw_j409 (L : Nat) (xs : Nat → Int32) (a2 : Int32) (m3 : zv_M)  : Option ((Int32 × zv_M) ⊕ (Int32)) := zg (zI (a2 + 1) L) (zb2 (fN_take (xs (a2 + 1).toNatClampNeg) m3) (fun r32 m33 => zg (zI (a2 + 1) L) (zb2 (fM_take (xs (a2 + 1).toNatClampNeg) m33) (fun r34 m35 => if r32 = r34 then some (.inl (a2 + 6, m35)) else some (.inr 0)))))
def fLaw_j432 (L : Nat) (xs : Nat → Int32) (a2 : Int32) (m3 : zv_M)  : Option ((Int32 × zv_M) ⊕ (Int32)) := zg (zI (a2 + 1) L) (zg (zI (a2 + 2) L) (zb2 (fN_at (xs (a2 + 1).toNatClampNeg) (xs (a2 + 2).toNatClampNeg) m3) (fun r36 m37 => zg (zI (a2 + 1) L) (zg (zI (a2 + 2) L) (zb1 (fM_at (xs (a2 + 1).toNatClampNeg) (xs (a2 + 2).toNatClampNeg) m37) (fun r38 => if r36 = r38 then some (.inl (a2 + 6, m37)) else some (.inr 0)))))))
def fLaw_j465 (L : Nat) (xs : Nat → Int32) (a2 : Int32) (m3 : zv_M)  : Option ((Int32 × zv_M) ⊕ (Int32)) := zg (zI (a2 + 1) L) (zg (zI (a2 + 2) L) (zb1 (fN_sees (xs (a2 + 1).toNatClampNeg) (xs (a2 + 2).toNatClampNeg) m3) (fun r40 => zg (zI (a2 + 1) L) (zg (zI (a2 + 2) L) (zb1 (fM_sees (xs (a2 + 1).toNatClampNeg) (xs (a2 + 2).toNatClampNeg) m3) (fun r42 => if r40 = r42 then some (.inl (a2 + 6, m3)) else some (.inr 0)))))))
def fLaw_j498 (a2 : Int32) (m3 : zv_M)  : Option ((Int32 × zv_M) ⊕ (Int32)) := zb2 (fN_clear m3) (fun r44 m45 => zb2 (fM_clear m45) (fun r46 m47 => if r44 = r46 then some (.inl (a2 + 6, m47)) else some (.inr 0)))
def fLaw_j511 (a2 : Int32) (m3 : zv_M)  : Option ((Int32 × zv_M) ⊕ (Int32)) := zb2 (fN_worst m3) (fun r48 m49 => zb1 (fM_worst m49) (fun r50 => if r48 = r50 then some (.inl (a2 + 6, m49)) else some (.inr 0)))
def fLaw_j524 (L : Nat) (xs : Nat → Int32) (a2 : Int32) (m3 : zv_M)  : Option ((Int32 × zv_M) ⊕ (Int32)) := zg (zI (a2 + 1) L) (zg (zI (a2 + 2) L) (zb2 (fN_ways (xs (a2 + 1).toNatClampNeg) (xs (a2 + 2).toNatClampNeg) m3) (fun r52 m53 => zg (zI (a2 + 1) L) (zg (zI (a2 + 2) L) (zb2 (fM_ways (xs (a2 + 1).toNatClampNeg) (xs (a2 + 2).toNatClampNeg) m53) (fun r54 m55 => if r52 = r54 then some (.inl (a2 + 6, m55)) else some (.inr 0)))))))
def fLaw_j557 (L : Nat) (xs : Nat → Int32) (a2 : Int32) (m3 : zv_M)  : Option ((Int32 × zv_M) ⊕ (Int32)) := zg (zI (a2 + 1) L) (zg (zI (a2 + 2) L) (zb2 (fN_after (xs (a2 + 1).toNatClampNeg) (xs (a2 + 2).toNatClampNeg) m3) (fun r56 m57 => zg (zI (a2 + 1) L) (zg (zI (a2 + 2) L) (zb2 (fM_after (xs (a2 + 1).toNatClampNeg) (xs (a2 + 2).toNatClampNeg) m57) (fun r58 m59 => if r56 = r58 then some (.inl (a2 + 6, m59)) else some (.inr 0)))))))
def fLaw_j590 (L : Nat) (xs : Nat → Int32) (a2 : Int32) (m3 : zv_M)  : Option ((Int32 × zv_M) ⊕ (Int32)) := zg (zI (a2 + 1) L) (zb2 (fN_most (xs (a2 + 1).toNatClampNeg) m3) (fun r60 m61 => zg (zI (a2 + 1) L) (zb2 (fM_most (xs (a2 + 1).toNatClampNeg) m61) (fun r62 m63 => if r60 = r62 then some (.inl (a2 + 6, m63)) else some (.inr 0)))))
def fLaw_j613 (L : Nat) (xs : Nat → Int32) (a2 : Int32) (m3 : zv_M)  : Option ((Int32 × zv_M) ⊕ (Int32)) := zg (zI (a2 + 1) L) (zg (zI (a2 + 2) L) (zb2 (fN_hold (xs (a2 + 1).toNatClampNeg) (xs (a2 + 2).toNatClampNeg) m3) (fun r64 m65 => zg (zI (a2 + 1) L) (zg (zI (a2 + 2) L) (zb2 (fM_hold (xs (a2 + 1).toNatClampNeg) (xs (a2 + 2).toNatClampNeg) m65) (fun r66 m67 => if r64 = r66 then some (.inl (a2 + 6, m67)) else some (.inr 0)))))))
def fLaw_j646 (L : Nat) (xs : Nat → Int32) (a2 : Int32) (m3 : zv_M)  : Option ((Int32 × zv_M) ⊕ (Int32)) := zg (zI (a2 + 1) L) (zb2 (fN_more (xs (a2 + 1).toNatClampNeg) m3) (fun r68 m69 => zg (zI (a2 + 1) L) (zb1 (fM_more (xs (a2 + 1).toNatClampNeg) m69) (fun r70 => if r68 = r70 then some (.inl (a2 + 6, m69)) else some (.inr 0)))))
def fLaw_j669 (L : Nat) (xs : Nat → Int32) (a2 : Int32) (m3 : zv_M)  : Option ((Int32 × zv_M) ⊕ (Int32)) := zg (zI (a2 + 1) L) (zb2 (fN_right (xs (a2 + 1).toNatClampNeg) m3) (fun r72 m73 => zg (zI (a2 + 1) L) (zb2 (fM_right (xs (a2 + 1).toNatClampNeg) m73) (fun r74 m75 => if r72 = r74 then some (.inl (a2 + 6, m75)) else some (.inr 0)))))
def fLaw_j692 (L : Nat) (xs : Nat → Int32) (a2 : Int32) (m3 : zv_M)  : Option ((Int32 × zv_M) ⊕ (Int32)) := zg (zI (a2 + 1) L) (zb2 (fN_game (xs (a2 + 1).toNatClampNeg) m3) (fun r76 m77 => zg (zI (a2 + 1) L) (zb2 (fM_game (xs (a2 + 1).toNatClampNeg) m77) (fun r78 m79 => if r76 = r78 then some (.inl (a2 + 6, m79)) else some (.inr 0)))))
def fLaw_j715 (L : Nat) (xs : Nat → Int32) (a2 : Int32) (m3 : zv_M)  : Option ((Int32 × zv_M) ⊕ (Int32)) := zg (zI (a2 + 1) L) (zb1 (fN_turned (xs (a2 + 1).toNatClampNeg) m3) (fun r80 => zg (zI (a2 + 1) L) (zb1 (fM_turned (xs (a2 + 1).toNatClampNeg) m3) (fun r82 => if r80 = r82 then some (.inl (a2 + 6, m3)) else some (.inr 0)))))
def fLaw_j738 (a2 : Int32) (m3 : zv_M)  : Option ((Int32 × zv_M) ⊕ (Int32)) := zb1 (fN_alike m3) (fun r84 => zb1 (fM_alike m3) (fun r86 => if r84 = r86 then some (.inl (a2 + 6, m3)) else some (.inr 0)))
def fLaw_j751 (L : Nat) (xs : Nat → Int32) (a2 : Int32) (m3 : zv_M)  : Option ((Int32 × zv_M) ⊕ (Int32)) := zg (zI (a2 + 1) L) (zb2 (fN_aim (xs (a2 + 1).toNatClampNeg) m3) (fun r88 m89 => zg (zI (a2 + 1) L) (zb2 (fM_aim (xs (a2 + 1).toNatClampNeg) m89) (fun r90 m91 => if r88 = r90 then some (.inl (a2 + 6, m91)) else some (.inr 0)))))
def fLaw_j774 (a2 : Int32) (m3 : zv_M)  : Option ((Int32 × zv_M) ⊕ (Int32)) := zb2 (fN_reach m3) (fun r92 m93 => zb2 (fM_reach m93) (fun r94 m95 => if r92 = r94 then some (.inl (a2 + 6, m95)) else some (.inr 0)))
def fLaw_j787 (L : Nat) (xs : Nat → Int32) (a2 : Int32) (m3 : zv_M)  : Option ((Int32 × zv_M) ⊕ (Int32)) := zg (zI (a2 + 1) L) (zg (zI (a2 + 2) L) (zb2 (fN_see (xs (a2 + 1).toNatClampNeg) (xs (a2 + 2).toNatClampNeg) m3) (fun r96 m97 => zg (zI (a2 + 1) L) (zg (zI (a2 + 2) L) (zb2 (fM_see (xs (a2 + 1).toNatClampNeg) (xs (a2 + 2).toNatClampNeg) m97) (fun r98 m99 => if r96 = r98 then some (.inl (a2 + 6, m99)) else some (.inr 0)))))))
def fLaw_j820 (L : Nat) (xs : Nat → Int32) (a2 : Int32) (m3 : zv_M)  : Option ((Int32 × zv_M) ⊕ (Int32)) := zg (zI (a2 + 1) L) (zb2 (fN_rubbed (xs (a2 + 1).toNatClampNeg) m3) (fun r100 m101 => zg (zI (a2 + 1) L) (zb2 (fM_rubbed (xs (a2 + 1).toNatClampNeg) m101) (fun r102 m103 => if r100 = r102 then some (.inl (a2 + 6, m103)) else some (.inr 0)))))
def fLaw_j843 (L : Nat) (xs : Nat → Int32) (a2 : Int32) (m3 : zv_M)  : Option ((Int32 × zv_M) ⊕ (Int32)) := zg (zI (a2 + 1) L) (zg (zI (a2 + 2) L) (zb2 (fN_odds (xs (a2 + 1).toNatClampNeg) (xs (a2 + 2).toNatClampNeg) m3) (fun r104 m105 => zg (zI (a2 + 1) L) (zg (zI (a2 + 2) L) (zb1 (fM_odds (xs (a2 + 1).toNatClampNeg) (xs (a2 + 2).toNatClampNeg) m105) (fun r106 => if lg_cmp r104 r106 = 0 then some (.inl (a2 + 6, m105)) else some (.inr 0)))))))
def fLaw_j877 (L : Nat) (xs : Nat → Int32) (a2 : Int32) (m3 : zv_M)  : Option ((Int32 × zv_M) ⊕ (Int32)) := zg (zI (a2 + 1) L) (zb2 (fN_mean (xs (a2 + 1).toNatClampNeg) m3) (fun r108 m109 => zg (zI (a2 + 1) L) (zb1 (fM_mean (xs (a2 + 1).toNatClampNeg) m109) (fun r110 => if lg_cmp r108 r110 = 0 then some (.inl (a2 + 6, m109)) else some (.inr 0)))))
def fLaw_j901 (L : Nat) (xs : Nat → Int32) (a2 : Int32) (m3 : zv_M)  : Option ((Int32 × zv_M) ⊕ (Int32)) := zg (zI (a2 + 1) L) (zb2 (fN_book (xs (a2 + 1).toNatClampNeg) m3) (fun r112 m113 => zg (zI (a2 + 1) L) (zb2 (fM_book (xs (a2 + 1).toNatClampNeg) m113) (fun r114 m115 => if r112 = r114 then some (.inl (a2 + 6, m115)) else some (.inr 0)))))
def fLaw_j924 (a2 : Int32) (m3 : zv_M)  : Option ((Int32 × zv_M) ⊕ (Int32)) := zb1 (fN_looked m3) (fun r116 => zb1 (fM_looked m3) (fun r118 => if r116 = r118 then some (.inl (a2 + 6, m3)) else some (.inr 0)))
def fLaw_j937 (L : Nat) (xs : Nat → Int32) (a2 : Int32) (m3 : zv_M)  : Option ((Int32 × zv_M) ⊕ (Int32)) := zg (zI (a2 + 1) L) (zg (zI (a2 + 2) L) (zb1 (fN_judge (xs (a2 + 1).toNatClampNeg) (xs (a2 + 2).toNatClampNeg) m3) (fun r120 => zg (zI (a2 + 1) L) (zg (zI (a2 + 2) L) (zb1 (fM_judge (xs (a2 + 1).toNatClampNeg) (xs (a2 + 2).toNatClampNeg) m3) (fun r122 => if r120 = r122 then some (.inl (a2 + 6, m3)) else some (.inr 0)))))))
def fLaw_j970 (a2 : Int32) (m3 : zv_M)  : Option ((Int32 × zv_M) ⊕ (Int32)) := zb2 (fN_image m3) (fun r124 m125 => zb2 (fM_image m125) (fun r126 m127 => if r124 = r126 then some (.inl (a2 + 6, m127)) else some (.inr 0)))
def fLaw_j983 (a2 : Int32) (m3 : zv_M)  : Option ((Int32 × zv_M) ⊕ (Int32)) := zb2 (fN_undo m3) (fun r128 m129 => zb2 (fM_undo m129) (fun r130 m131 => if r128 = r130 then some (.inl (a2 + 6, m131)) else some (.inr 0)))
def fLaw_j996 (L : Nat) (xs : Nat → Int32) (a2 : Int32) (m3 : zv_M)  : Option ((Int32 × zv_M) ⊕ (Int32)) := zg (zI (a2 + 1) L) (zg (zI (a2 + 2) L) (zg (zI (a2 + 3) L) (zb2 (fN_act (xs (a2 + 1).toNatClampNeg) (xs (a2 + 2).toNatClampNeg) (xs (a2 + 3).toNatClampNeg) m3) (fun r132 m133 => zg (zI (a2 + 1) L) (zg (zI (a2 + 2) L) (zg (zI (a2 + 3) L) (zb2 (fM_act (xs (a2 + 1).toNatClampNeg) (xs (a2 + 2).toNatClampNeg) (xs (a2 + 3).toNatClampNeg) m133) (fun r134 m135 => if r132 = r134 then some (.inl (a2 + 6, m135)) else some (.inr 0)))))))))
def fLaw_j1039 (L : Nat) (xs : Nat → Int32) (a2 : Int32) (m3 : zv_M)  : Option ((Int32 × zv_M) ⊕ (Int32)) := zg (zI (a2 + 1) L) (zb1 (fN_trace (xs (a2 + 1).toNatClampNeg) m3) (fun r136 => zg (zI (a2 + 1) L) (zb1 (fM_trace (xs (a2 + 1).toNatClampNeg) m3) (fun r138 => if r136 = r138 then some (.inl (a2 + 6, m3)) else some (.inr 0)))))
def fLaw_j1062 (L : Nat) (xs : Nat → Int32) (a2 : Int32) (m3 : zv_M)  : Option ((Int32 × zv_M) ⊕ (Int32)) := zg (zI (a2 + 1) L) (zg (zI (a2 + 2) L) (zb1 (fN_taken (xs (a2 + 1).toNatClampNeg) (xs (a2 + 2).toNatClampNeg) m3) (fun r140 => zg (zI (a2 + 1) L) (zg (zI (a2 + 2) L) (zb1 (fM_taken (xs (a2 + 1).toNatClampNeg) (xs (a2 + 2).toNatClampNeg) m3) (fun r142 => if r140 = r142 then some (.inl (a2 + 6, m3)) else some (.inr 0)))))))
def fLaw_j1095 (L : Nat) (xs : Nat → Int32) (a2 : Int32) (m3 : zv_M)  : Option ((Int32 × zv_M) ⊕ (Int32)) := zg (zI (a2 + 1) L) (zb1 (fN_count (xs (a2 + 1).toNatClampNeg) m3) (fun r144 => zg (zI (a2 + 1) L) (zb1 (fM_count (xs (a2 + 1).toNatClampNeg) m3) (fun r146 => if r144 = r146 then some (.inl (a2 + 6, m3)) else some (.inr 0)))))
def fLaw_j1118 (L : Nat) (xs : Nat → Int32) (a2 : Int32) (m3 : zv_M)  : Option ((Int32 × zv_M) ⊕ (Int32)) := zg (zI (a2 + 1) L) (zg (zI (a2 + 2) L) (zg (zI (a2 + 3) L) (zb2 (fN_tape (xs (a2 + 1).toNatClampNeg) (xs (a2 + 2).toNatClampNeg) (xs (a2 + 3).toNatClampNeg) m3) (fun r148 m149 => zg (zI (a2 + 1) L) (zg (zI (a2 + 2) L) (zg (zI (a2 + 3) L) (zb2 (fM_tape (xs (a2 + 1).toNatClampNeg) (xs (a2 + 2).toNatClampNeg) (xs (a2 + 3).toNatClampNeg) m149) (fun r150 m151 => if r148 = r150 then some (.inl (a2 + 6, m151)) else some (.inr 0)))))))))
def fLaw_j1161 (L : Nat) (xs : Nat → Int32) (a2 : Int32) (m3 : zv_M)  : Option ((Int32 × zv_M) ⊕ (Int32)) := zg (zI (a2 + 1) L) (zg (zI (a2 + 2) L) (zg (zI (a2 + 3) L) (zg (zI (a2 + 4) L) (zb2 (fN_item (xs (a2 + 1).toNatClampNeg) (xs (a2 + 2).toNatClampNeg) ((((xs (a2 + 3).toNatClampNeg).toInt64) <<< ((32 : Int32).toInt64 &&& 63)) ||| (((xs (a2 + 4).toNatClampNeg).toInt64) &&& 4294967295)) m3) (fun r152 m153 => zg (zI (a2 + 1) L) (zg (zI (a2 + 2) L) (zg (zI (a2 + 3) L) (zg (zI (a2 + 4) L) (zb2 (fM_item (xs (a2 + 1).toNatClampNeg) (xs (a2 + 2).toNatClampNeg) ((((xs (a2 + 3).toNatClampNeg).toInt64) <<< ((32 : Int32).toInt64 &&& 63)) ||| (((xs (a2 + 4).toNatClampNeg).toInt64) &&& 4294967295)) m153) (fun r154 m155 => if r152 = r154 then some (.inl (a2 + 6, m155)) else some (.inr 0)))))))))))
def fLaw_j1234 (L : Nat) (xs : Nat → Int32) (a2 : Int32) (m3 : zv_M)  : Option ((Int32 × zv_M) ⊕ (Int32)) := zg (zI (a2 + 1) L) (zg (zI (a2 + 2) L) (zb1 (fN_read (xs (a2 + 1).toNatClampNeg) (xs (a2 + 2).toNatClampNeg) m3) (fun r156 => zg (zI (a2 + 1) L) (zg (zI (a2 + 2) L) (zb1 (fM_read (xs (a2 + 1).toNatClampNeg) (xs (a2 + 2).toNatClampNeg) m3) (fun r158 => if lg_cmp r156 r158 = 0 then some (.inl (a2 + 6, m3)) else some (.inr 0)))))))
def fLaw_j1268 (L : Nat) (xs : Nat → Int32) (a2 : Int32) (m3 : zv_M)  : Option ((Int32 × zv_M) ⊕ (Int32)) := zg (zI (a2 + 1) L) (zg (zI (a2 + 2) L) (zg (zI (a2 + 3) L) (zg (zI (a2 + 4) L) (zg (zI (a2 + 5) L) (zb2 (fN_shift (xs (a2 + 1).toNatClampNeg) (xs (a2 + 2).toNatClampNeg) (xs (a2 + 3).toNatClampNeg) (xs (a2 + 4).toNatClampNeg) (xs (a2 + 5).toNatClampNeg) m3) (fun r160 m161 => zg (zI (a2 + 1) L) (zg (zI (a2 + 2) L) (zg (zI (a2 + 3) L) (zg (zI (a2 + 4) L) (zg (zI (a2 + 5) L) (zb2 (fM_shift (xs (a2 + 1).toNatClampNeg) (xs (a2 + 2).toNatClampNeg) (xs (a2 + 3).toNatClampNeg) (xs (a2 + 4).toNatClampNeg) (xs (a2 + 5).toNatClampNeg) m161) (fun r162 m163 => if r160 = r162 then some (.inl (a2 + 6, m163)) else some (.inr 0)))))))))))))
def fLaw_j1331 (a2 : Int32) (m164 : zv_M) : Option ((Int32 × zv_M) ⊕ (Int32)) := some (.inl (a2 + 6, m164))
def fLaw_l18 (L : Nat) (xs : Nat → Int32) : Int32 × zv_M → Option ((Int32 × zv_M) ⊕ (Int32))
  | (a2, m3) => if (Int32.ofNat L) - 6 < a2 then some (.inr 1) else zg (zI a2 L) (if (xs a2.toNatClampNeg) &&& 63 = 0 then fLaw_j208 L xs a2 m3 else if (xs a2.toNatClampNeg) &&& 63 = 1 then fLaw_j241 L xs a2 m3 else if (xs a2.toNatClampNeg) &&& 63 = 2 then fLaw_j274 L xs a2 m3 else if (xs a2.toNatClampNeg) &&& 63 = 3 then fLaw_j317 L xs a2 m3 else if (xs a2.toNatClampNeg) &&& 63 = 4 then fLaw_j340 a2 m3 else if (xs a2.toNatClampNeg) &&& 63 = 5 then fLaw_j353 L xs a2 m3 else if (xs a2.toNatClampNeg) &&& 63 = 6 then fLaw_j376 L xs a2 m3 else if (xs a2.toNatClampNeg) &&& 63 = 7 then fLaw_j409 L xs a2 m3 else if (xs a2.toNatClampNeg) &&& 63 = 8 then fLaw_j432 L xs a2 m3 else if (xs a2.toNatClampNeg) &&& 63 = 9 then fLaw_j465 L xs a2 m3 else if (xs a2.toNatClampNeg) &&& 63 = 10 then fLaw_j498 a2 m3 else if (xs a2.toNatClampNeg) &&& 63 = 11 then fLaw_j511 a2 m3 else if (xs a2.toNatClampNeg) &&& 63 = 12 then fLaw_j524 L xs a2 m3 else if (xs a2.toNatClampNeg) &&& 63 = 13 then fLaw_j557 L xs a2 m3 else if (xs a2.toNatClampNeg) &&& 63 = 14 then fLaw_j590 L xs a2 m3 else if (xs a2.toNatClampNeg) &&& 63 = 15 then fLaw_j613 L xs a2 m3 else if (xs a2.toNatClampNeg) &&& 63 = 16 then fLaw_j646 L xs a2 m3 else if (xs a2.toNatClampNeg) &&& 63 = 17 then fLaw_j669 L xs a2 m3 else if (xs a2.toNatClampNeg) &&& 63 = 18 then fLaw_j692 L xs a2 m3 else if (xs a2.toNatClampNeg) &&& 63 = 19 then fLaw_j715 L xs a2 m3 else if (xs a2.toNatClampNeg) &&& 63 = 20 then fLaw_j738 a2 m3 else if (xs a2.toNatClampNeg) &&& 63 = 21 then fLaw_j751 L xs a2 m3 else if (xs a2.toNatClampNeg) &&& 63 = 22 then fLaw_j774 a2 m3 else if (xs a2.toNatClampNeg) &&& 63 = 23 then fLaw_j787 L xs a2 m3 else if (xs a2.toNatClampNeg) &&& 63 = 24 then fLaw_j820 L xs a2 m3 else if (xs a2.toNatClampNeg) &&& 63 = 25 then fLaw_j843 L xs a2 m3 else if (xs a2.toNatClampNeg) &&& 63 = 26 then fLaw_j877 L xs a2 m3 else if (xs a2.toNatClampNeg) &&& 63 = 27 then fLaw_j901 L xs a2 m3 else if (xs a2.toNatClampNeg) &&& 63 = 28 then fLaw_j924 a2 m3 else if (xs a2.toNatClampNeg) &&& 63 = 29 then fLaw_j937 L xs a2 m3 else if (xs a2.toNatClampNeg) &&& 63 = 30 then fLaw_j970 a2 m3 else if (xs a2.toNatClampNeg) &&& 63 = 31 then fLaw_j983 a2 m3 else if (xs a2.toNatClampNeg) &&& 63 = 32 then fLaw_j996 L xs a2 m3 else if (xs a2.toNatClampNeg) &&& 63 = 33 then fLaw_j1039 L xs a2 m3 else if (xs a2.toNatClampNeg) &&& 63 = 34 then fLaw_j1062 L xs a2 m3 else if (xs a2.toNatClampNeg) &&& 63 = 35 then fLaw_j1095 L xs a2 m3 else if (xs a2.toNatClampNeg) &&& 63 = 36 then fLaw_j1118 L xs a2 m3 else if (xs a2.toNatClampNeg) &&& 63 = 37 then fLaw_j1161 L xs a2 m3 else if (xs a2.toNatClampNeg) &&& 63 = 38 then fLaw_j1234 L xs a2 m3 else if (xs a2.toNatClampNeg) &&& 63 = 39 then fLaw_j1268 L xs a2 m3 else fLaw_j1331 a2 m3)
def fLaw (L : Nat) (xs : Nat → Int32) (m : zv_M) : Option (Int32) := zb1 (whileN zFU (fLaw_l18 L xs) (0, m)) (fun r => some r)
section ZL
variable {S : State} {D : va_G} {cA : Nat → ClassId} {tb sx : Nat → Nat} {p : Program} {l : Launch} {e : Env} {mi : MethodId} {args : Array Value} {below : List Frame} {meth : Method} {c : Code} {Qf : State → Prop} {kc ks pc : Nat} {lo : List (Nat × Value)} {st : List Value} {sh : List zv_C} {m : zv_M} {R : Room} {nL : Nat} {cc : ByteArray} {own : String} {ret : Option FieldType} {ini : Bool}
theorem zr_xld {b L : Nat} {xs : Nat → Int32} {i : Int32} (X : zv_X S D cA tb sx p S mi args meth c cc nL own ret ini) (hX : va_X b L xs S S.heap) (hbl : b < S.heap.size) (hd : decode cc pc = .ok (.iaload, 1)) (hin : vp_in i L) (kk : zv_V S D cA p l e R S mi args below meth c nL Qf kc ks (pc + 1) lo (.int (xs i.toNatClampNeg) :: st) sh m) : zv_V S D cA p l e R S mi args below meth c nL Qf kc ks pc lo (.int i :: .ref b :: st) sh m := by
  intro H locs ls h1 h2 h3
  obtain ⟨scr, g1, g2, g3, g4, g5⟩ := hX
  have hlt : i.toNatClampNeg < L := Nat.not_le.mp fun q => hin (Or.inr q)
  exact W.iald (v := .int (xs i.toNatClampNeg)) X.1 X.2.1 (by rw [h1.2.1 b hbl]; exact g1) g2 g3 (by rw [g4]; exact hin) (g5 _ hlt) rfl rfl hd (kk H locs ls h1 h2 h3)
theorem zr_xlen {b L : Nat} {xs : Nat → Int32} (X : zv_X S D cA tb sx p S mi args meth c cc nL own ret ini) (hX : va_X b L xs S S.heap) (hbl : b < S.heap.size) (hd : decode cc pc = .ok (.arraylength, 1)) (kk : zv_V S D cA p l e R S mi args below meth c nL Qf kc ks (pc + 1) lo (.int (Int32.ofNat L) :: st) sh m) : zv_V S D cA p l e R S mi args below meth c nL Qf kc ks pc lo (.ref b :: st) sh m := by
  intro H locs ls h1 h2 h3
  obtain ⟨scr, g1, g2, g3, g4, g5⟩ := hX
  exact W.alen (n := Int32.ofNat L) X.1 X.2.1 (by rw [h1.2.1 b hbl]; exact g1) g2 (by rw [g4] <;> rfl) rfl rfl hd (kk H locs ls h1 h2 h3)
theorem zr_lawret {b : Nat} {v : Int32} (X : zv_X S D cA tb sx p S mi #[Value.ref b] meth c code nL own (some .boolean) ini) (hd : decode code pc = .ok (.ireturn, 1)) (hv : v = 1 ∧ kc ≤ 600000 ∧ ks ≤ 7302250) : zv_V S D cA p l e room_1 S mi #[Value.ref b] below meth c nL (lw_Z below #[Value.ref b] S) kc ks pc lo [.int v] sh m := by
  intro H locs ls h1 h2 h3
  obtain ⟨rfl, hc, hs⟩ := hv
  obtain ⟨x1, x2, x3, x4, x5, x6, x7, x8, x9, x10, x11, x12, x13⟩ := X
  refine va_forget (fun q hq => h2 q hq) ?_
  refine W.widen hc hs ?_
  exact lw_ret x1 x2 x11 x4 hd
end ZL
set_option maxRecDepth 100000 in
set_option maxHeartbeats 4000000 in
theorem x_fLaw {l : Launch} {S : State} {D : va_G} {cA : Nat → ClassId} {tb sx : Nat → Nat} {p : Program} {e : Env} {mi : MethodId} {below : List Frame} {meth : Method} {c : Code} {kc ks : Nat} {b L : Nat} {xs : Nat → Int32} (hG : zv_G S D cA tb sx) (args : Array Value) (hargs : args = #[Value.ref b]) (X : zv_X S D cA tb sx p S mi args meth c code 4 RL (some .boolean) false) (hX : va_X b L xs S S.heap) (hbl : b < S.heap.size) (hkc : kc + 0 ≤ room_1.cells) (hks : ks + 0 ≤ room_1.slots) (m : zv_M) (P : Int32 → Prop) (hP0 : ∀ v, P v → v = 1) (h : zw (fLaw L xs m) P) : zv_V S D cA p l e room_1 S mi args below meth c 4 (lw_Z below args S) kc ks 16 [(2, .ref (S.heap.size + 68)), (1, .ref (S.heap.size + 0)), (0, .ref b)] [] SH0 m := by
  subst hargs
  have hP : ∀ v, P v → v = 1 ∧ kc ≤ 600000 ∧ ks ≤ 7302250 := fun v q => ⟨hP0 v q, hkc, hks⟩
  rw [fLaw] at h
  refine zr_iconst (v := 0) X dL_law_16 (by decide) ?_
  refine zr_istore_n (lo' := [(3, .int 0), (2, .ref (S.heap.size + 68)), (1, .ref (S.heap.size + 0)), (0, .ref b)]) X dL_law_17 (by decide) rfl ?_
  refine zr_sub [3, 2, 1, 0] rfl ?_
  refine zl_w2 (fun a2 m3 => zv_V S D cA p l e room_1 S mi #[Value.ref b] below meth c 4 (lw_Z below #[Value.ref b] S) kc ks 18 [(0, .ref b), (1, .ref (S.heap.size + 0)), (2, .ref (S.heap.size + 68)), (3, .int a2)] [] SH0 m3) (fLaw_l18 L xs) _ (fun P1 hl1 hr1 a2 m3 h => ?_) zFU 0 m (zw_b1 h)
  rw [fLaw_l18] at h
  refine zr_iload_n X dL_law_18 3 rfl ?_
  refine zr_aload_n X dL_law_19 0 rfl ?_
  refine zr_xlen X hX hbl dL_law_20 ?_
  refine zr_bipush (v := 6) X dL_law_21 (by decide) ?_
  refine zr_isub X dL_law_23 ?_
  refine zr_icmp_gt (tgt := 1337) X dL_law_24 (by decide) (fun q => ?_) (fun q => ?_)
  · rw [if_pos q] at h
    refine zr_iconst (v := 1) X dL_law_1337 (by decide) ?_
    have h := hr1 _ h
    exact zr_lawret X dL_law_1338 (hP _ h)
  · rw [if_neg q] at h
    refine zr_aload_n X dL_law_27 0 rfl ?_
    refine zr_iload_n X dL_law_28 3 rfl ?_
    obtain ⟨g0, h⟩ := zg_e h
    refine zr_xld X hX hbl dL_law_29 (zI_in g0) ?_
    refine zr_bipush (v := 63) X dL_law_30 (by decide) ?_
    refine zr_iand X dL_law_32 ?_
    have hJ208 : zw (fLaw_j208 L xs a2 m3) P1 → zv_V S D cA p l e room_1 S mi #[Value.ref b] below meth c 4 (lw_Z below #[Value.ref b] S) kc ks 208 [(0, .ref b), (1, .ref (S.heap.size + 0)), (2, .ref (S.heap.size + 68)), (3, .int a2)] [] SH0 m3 := by
      intro h
      rw [fLaw_j208] at h
      refine zr_aload_n X dL_law_208 1 rfl ?_
      refine zr_aload_n X dL_law_209 0 rfl ?_
      refine zr_iload_n X dL_law_210 3 rfl ?_
      refine zr_iconst (v := 1) X dL_law_211 (by decide) ?_
      refine zr_iadd X dL_law_212 ?_
      obtain ⟨g0, h⟩ := zg_e h
      refine zr_xld X hX hbl dL_law_213 (zI_in g0) ?_
      refine zr_aload_n X dL_law_214 0 rfl ?_
      refine zr_iload_n X dL_law_215 3 rfl ?_
      refine zr_iconst (v := 2) X dL_law_216 (by decide) ?_
      refine zr_iadd X dL_law_217 ?_
      obtain ⟨g0, h⟩ := zg_e h
      refine zr_xld X hX hbl dL_law_218 (zI_in g0) ?_
      refine zr_callV_i (As := [.int (xs (a2 + 1).toNatClampNeg), .int (xs (a2 + 2).toNatClampNeg)]) (st := []) (d := 64) X dL_law_219 wm_L_13 my_X10_plan mv_X10_plan zo_0 rfl (Nat.le_of_ble_eq_true rfl) ⟨by decide, by decide⟩ ⟨hkc, hks⟩ (x_fN_plan hG 64 (by decide) (xs (a2 + 1).toNatClampNeg) (xs (a2 + 2).toNatClampNeg) m3 _ (zw_b2 h)) (fun r4 m5 q => ?_)
      replace h := q
      refine zr_aload_n X dL_law_222 2 rfl ?_
      refine zr_aload_n X dL_law_223 0 rfl ?_
      refine zr_iload_n X dL_law_224 3 rfl ?_
      refine zr_iconst (v := 1) X dL_law_225 (by decide) ?_
      refine zr_iadd X dL_law_226 ?_
      obtain ⟨g0, h⟩ := zg_e h
      refine zr_xld X hX hbl dL_law_227 (zI_in g0) ?_
      refine zr_aload_n X dL_law_228 0 rfl ?_
      refine zr_iload_n X dL_law_229 3 rfl ?_
      refine zr_iconst (v := 2) X dL_law_230 (by decide) ?_
      refine zr_iadd X dL_law_231 ?_
      obtain ⟨g0, h⟩ := zg_e h
      refine zr_xld X hX hbl dL_law_232 (zI_in g0) ?_
      refine zr_callV_i (As := [.int (xs (a2 + 1).toNatClampNeg), .int (xs (a2 + 2).toNatClampNeg)]) (st := [.int r4]) (d := 64) X dL_law_233 wm_L_17 my_X11_plan mv_X11_plan zo_68 rfl (Nat.le_of_ble_eq_true rfl) ⟨by decide, by decide⟩ ⟨hkc, hks⟩ (x_fM_plan hG 64 (by decide) (xs (a2 + 1).toNatClampNeg) (xs (a2 + 2).toNatClampNeg) m5 _ (zw_b2 h)) (fun r6 m7 q => ?_)
      replace h := q
      refine zr_icmp_eq (tgt := 1331) X dL_law_236 (by decide) (fun q => ?_) (fun q => ?_)
      · rw [if_pos q] at h
        refine zr_iinc (v := a2 + 6) (lo' := [(3, .int (a2 + 6)), (0, .ref b), (1, .ref (S.heap.size + 0)), (2, .ref (S.heap.size + 68))]) X dL_law_1331 3 rfl rfl (by decide) rfl ?_
        refine zr_goto (tgt := 18) X dL_law_1334 (by decide) ?_
        have h := hl1 _ h
        exact zr_sub [1, 2, 3, 0] rfl h
      · rw [if_neg q] at h
        refine zr_iconst (v := 0) X dL_law_239 (by decide) ?_
        have h := hr1 _ h
        exact zr_lawret X dL_law_240 (hP _ h)
    have hJ241 : zw (fLaw_j241 L xs a2 m3) P1 → zv_V S D cA p l e room_1 S mi #[Value.ref b] below meth c 4 (lw_Z below #[Value.ref b] S) kc ks 241 [(0, .ref b), (1, .ref (S.heap.size + 0)), (2, .ref (S.heap.size + 68)), (3, .int a2)] [] SH0 m3 := by
      intro h
      rw [fLaw_j241] at h
      refine zr_aload_n X dL_law_241 1 rfl ?_
      refine zr_aload_n X dL_law_242 0 rfl ?_
      refine zr_iload_n X dL_law_243 3 rfl ?_
      refine zr_iconst (v := 1) X dL_law_244 (by decide) ?_
      refine zr_iadd X dL_law_245 ?_
      obtain ⟨g0, h⟩ := zg_e h
      refine zr_xld X hX hbl dL_law_246 (zI_in g0) ?_
      refine zr_aload_n X dL_law_247 0 rfl ?_
      refine zr_iload_n X dL_law_248 3 rfl ?_
      refine zr_iconst (v := 2) X dL_law_249 (by decide) ?_
      refine zr_iadd X dL_law_250 ?_
      obtain ⟨g0, h⟩ := zg_e h
      refine zr_xld X hX hbl dL_law_251 (zI_in g0) ?_
      refine zr_callV_i (As := [.int (xs (a2 + 1).toNatClampNeg), .int (xs (a2 + 2).toNatClampNeg)]) (st := []) (d := 64) X dL_law_252 wm_L_18 my_X10_of mv_X10_of zo_0 rfl (Nat.le_of_ble_eq_true rfl) ⟨by decide, by decide⟩ ⟨hkc, hks⟩ (x_fN_of hG 64 (by decide) (xs (a2 + 1).toNatClampNeg) (xs (a2 + 2).toNatClampNeg) m3 _ (zw_b1 h)) (fun r8 m9 q => ?_)
      obtain ⟨rfl, h⟩ := q
      refine zr_aload_n X dL_law_255 2 rfl ?_
      refine zr_aload_n X dL_law_256 0 rfl ?_
      refine zr_iload_n X dL_law_257 3 rfl ?_
      refine zr_iconst (v := 1) X dL_law_258 (by decide) ?_
      refine zr_iadd X dL_law_259 ?_
      obtain ⟨g0, h⟩ := zg_e h
      refine zr_xld X hX hbl dL_law_260 (zI_in g0) ?_
      refine zr_aload_n X dL_law_261 0 rfl ?_
      refine zr_iload_n X dL_law_262 3 rfl ?_
      refine zr_iconst (v := 2) X dL_law_263 (by decide) ?_
      refine zr_iadd X dL_law_264 ?_
      obtain ⟨g0, h⟩ := zg_e h
      refine zr_xld X hX hbl dL_law_265 (zI_in g0) ?_
      refine zr_callV_i (As := [.int (xs (a2 + 1).toNatClampNeg), .int (xs (a2 + 2).toNatClampNeg)]) (st := [.int r8]) (d := 64) X dL_law_266 wm_L_21 my_X11_of mv_X11_of zo_68 rfl (Nat.le_of_ble_eq_true rfl) ⟨by decide, by decide⟩ ⟨hkc, hks⟩ (x_fM_of hG 64 (by decide) (xs (a2 + 1).toNatClampNeg) (xs (a2 + 2).toNatClampNeg) m3 _ (zw_b1 h)) (fun r10 m11 q => ?_)
      obtain ⟨rfl, h⟩ := q
      refine zr_icmp_eq (tgt := 1331) X dL_law_269 (by decide) (fun q => ?_) (fun q => ?_)
      · rw [if_pos q] at h
        refine zr_iinc (v := a2 + 6) (lo' := [(3, .int (a2 + 6)), (0, .ref b), (1, .ref (S.heap.size + 0)), (2, .ref (S.heap.size + 68))]) X dL_law_1331 3 rfl rfl (by decide) rfl ?_
        refine zr_goto (tgt := 18) X dL_law_1334 (by decide) ?_
        have h := hl1 _ h
        exact zr_sub [1, 2, 3, 0] rfl h
      · rw [if_neg q] at h
        refine zr_iconst (v := 0) X dL_law_272 (by decide) ?_
        have h := hr1 _ h
        exact zr_lawret X dL_law_273 (hP _ h)
    have hJ274 : zw (fLaw_j274 L xs a2 m3) P1 → zv_V S D cA p l e room_1 S mi #[Value.ref b] below meth c 4 (lw_Z below #[Value.ref b] S) kc ks 274 [(0, .ref b), (1, .ref (S.heap.size + 0)), (2, .ref (S.heap.size + 68)), (3, .int a2)] [] SH0 m3 := by
      intro h
      rw [fLaw_j274] at h
      refine zr_aload_n X dL_law_274 1 rfl ?_
      refine zr_aload_n X dL_law_275 0 rfl ?_
      refine zr_iload_n X dL_law_276 3 rfl ?_
      refine zr_iconst (v := 1) X dL_law_277 (by decide) ?_
      refine zr_iadd X dL_law_278 ?_
      obtain ⟨g0, h⟩ := zg_e h
      refine zr_xld X hX hbl dL_law_279 (zI_in g0) ?_
      refine zr_aload_n X dL_law_280 0 rfl ?_
      refine zr_iload_n X dL_law_281 3 rfl ?_
      refine zr_iconst (v := 2) X dL_law_282 (by decide) ?_
      refine zr_iadd X dL_law_283 ?_
      obtain ⟨g0, h⟩ := zg_e h
      refine zr_xld X hX hbl dL_law_284 (zI_in g0) ?_
      refine zr_aload_n X dL_law_285 0 rfl ?_
      refine zr_iload_n X dL_law_286 3 rfl ?_
      refine zr_iconst (v := 3) X dL_law_287 (by decide) ?_
      refine zr_iadd X dL_law_288 ?_
      obtain ⟨g0, h⟩ := zg_e h
      refine zr_xld X hX hbl dL_law_289 (zI_in g0) ?_
      refine zr_callV_i (As := [.int (xs (a2 + 1).toNatClampNeg), .int (xs (a2 + 2).toNatClampNeg), .int (xs (a2 + 3).toNatClampNeg)]) (st := []) (d := 64) X dL_law_290 wm_L_22 my_X10_row mv_X10_row zo_0 rfl (Nat.le_of_ble_eq_true rfl) ⟨by decide, by decide⟩ ⟨hkc, hks⟩ (x_fN_row hG 64 (by decide) (xs (a2 + 1).toNatClampNeg) (xs (a2 + 2).toNatClampNeg) (xs (a2 + 3).toNatClampNeg) m3 _ (zw_b2 h)) (fun r12 m13 q => ?_)
      replace h := q
      refine zr_aload_n X dL_law_293 2 rfl ?_
      refine zr_aload_n X dL_law_294 0 rfl ?_
      refine zr_iload_n X dL_law_295 3 rfl ?_
      refine zr_iconst (v := 1) X dL_law_296 (by decide) ?_
      refine zr_iadd X dL_law_297 ?_
      obtain ⟨g0, h⟩ := zg_e h
      refine zr_xld X hX hbl dL_law_298 (zI_in g0) ?_
      refine zr_aload_n X dL_law_299 0 rfl ?_
      refine zr_iload_n X dL_law_300 3 rfl ?_
      refine zr_iconst (v := 2) X dL_law_301 (by decide) ?_
      refine zr_iadd X dL_law_302 ?_
      obtain ⟨g0, h⟩ := zg_e h
      refine zr_xld X hX hbl dL_law_303 (zI_in g0) ?_
      refine zr_aload_n X dL_law_304 0 rfl ?_
      refine zr_iload_n X dL_law_305 3 rfl ?_
      refine zr_iconst (v := 3) X dL_law_306 (by decide) ?_
      refine zr_iadd X dL_law_307 ?_
      obtain ⟨g0, h⟩ := zg_e h
      refine zr_xld X hX hbl dL_law_308 (zI_in g0) ?_
      refine zr_callV_i (As := [.int (xs (a2 + 1).toNatClampNeg), .int (xs (a2 + 2).toNatClampNeg), .int (xs (a2 + 3).toNatClampNeg)]) (st := [.int r12]) (d := 64) X dL_law_309 wm_L_26 my_X11_row mv_X11_row zo_68 rfl (Nat.le_of_ble_eq_true rfl) ⟨by decide, by decide⟩ ⟨hkc, hks⟩ (x_fM_row hG 64 (by decide) (xs (a2 + 1).toNatClampNeg) (xs (a2 + 2).toNatClampNeg) (xs (a2 + 3).toNatClampNeg) m13 _ (zw_b2 h)) (fun r14 m15 q => ?_)
      replace h := q
      refine zr_icmp_eq (tgt := 1331) X dL_law_312 (by decide) (fun q => ?_) (fun q => ?_)
      · rw [if_pos q] at h
        refine zr_iinc (v := a2 + 6) (lo' := [(3, .int (a2 + 6)), (0, .ref b), (1, .ref (S.heap.size + 0)), (2, .ref (S.heap.size + 68))]) X dL_law_1331 3 rfl rfl (by decide) rfl ?_
        refine zr_goto (tgt := 18) X dL_law_1334 (by decide) ?_
        have h := hl1 _ h
        exact zr_sub [1, 2, 3, 0] rfl h
      · rw [if_neg q] at h
        refine zr_iconst (v := 0) X dL_law_315 (by decide) ?_
        have h := hr1 _ h
        exact zr_lawret X dL_law_316 (hP _ h)
    have hJ317 : zw (fLaw_j317 L xs a2 m3) P1 → zv_V S D cA p l e room_1 S mi #[Value.ref b] below meth c 4 (lw_Z below #[Value.ref b] S) kc ks 317 [(0, .ref b), (1, .ref (S.heap.size + 0)), (2, .ref (S.heap.size + 68)), (3, .int a2)] [] SH0 m3 := by
      intro h
      rw [fLaw_j317] at h
      refine zr_aload_n X dL_law_317 1 rfl ?_
      refine zr_aload_n X dL_law_318 0 rfl ?_
      refine zr_iload_n X dL_law_319 3 rfl ?_
      refine zr_iconst (v := 1) X dL_law_320 (by decide) ?_
      refine zr_iadd X dL_law_321 ?_
      obtain ⟨g0, h⟩ := zg_e h
      refine zr_xld X hX hbl dL_law_322 (zI_in g0) ?_
      refine zr_callV_i (As := [.int (xs (a2 + 1).toNatClampNeg)]) (st := []) (d := 64) X dL_law_323 wm_L_27 my_X10_feed mv_X10_feed zo_0 rfl (Nat.le_of_ble_eq_true rfl) ⟨by decide, by decide⟩ ⟨hkc, hks⟩ (x_fN_feed hG 64 (by decide) (xs (a2 + 1).toNatClampNeg) m3 _ (zw_b2 h)) (fun r16 m17 q => ?_)
      replace h := q
      refine zr_aload_n X dL_law_326 2 rfl ?_
      refine zr_aload_n X dL_law_327 0 rfl ?_
      refine zr_iload_n X dL_law_328 3 rfl ?_
      refine zr_iconst (v := 1) X dL_law_329 (by decide) ?_
      refine zr_iadd X dL_law_330 ?_
      obtain ⟨g0, h⟩ := zg_e h
      refine zr_xld X hX hbl dL_law_331 (zI_in g0) ?_
      refine zr_callV_i (As := [.int (xs (a2 + 1).toNatClampNeg)]) (st := [.int r16]) (d := 64) X dL_law_332 wm_L_31 my_X11_feed mv_X11_feed zo_68 rfl (Nat.le_of_ble_eq_true rfl) ⟨by decide, by decide⟩ ⟨hkc, hks⟩ (x_fM_feed hG 64 (by decide) (xs (a2 + 1).toNatClampNeg) m17 _ (zw_b2 h)) (fun r18 m19 q => ?_)
      replace h := q
      refine zr_icmp_eq (tgt := 1331) X dL_law_335 (by decide) (fun q => ?_) (fun q => ?_)
      · rw [if_pos q] at h
        refine zr_iinc (v := a2 + 6) (lo' := [(3, .int (a2 + 6)), (0, .ref b), (1, .ref (S.heap.size + 0)), (2, .ref (S.heap.size + 68))]) X dL_law_1331 3 rfl rfl (by decide) rfl ?_
        refine zr_goto (tgt := 18) X dL_law_1334 (by decide) ?_
        have h := hl1 _ h
        exact zr_sub [1, 2, 3, 0] rfl h
      · rw [if_neg q] at h
        refine zr_iconst (v := 0) X dL_law_338 (by decide) ?_
        have h := hr1 _ h
        exact zr_lawret X dL_law_339 (hP _ h)
    have hJ340 : zw (fLaw_j340 a2 m3) P1 → zv_V S D cA p l e room_1 S mi #[Value.ref b] below meth c 4 (lw_Z below #[Value.ref b] S) kc ks 340 [(0, .ref b), (1, .ref (S.heap.size + 0)), (2, .ref (S.heap.size + 68)), (3, .int a2)] [] SH0 m3 := by
      intro h
      rw [fLaw_j340] at h
      refine zr_aload_n X dL_law_340 1 rfl ?_
      refine zr_callV_i (As := []) (st := []) (d := 64) X dL_law_341 wm_L_32 my_X10_yard mv_X10_yard zo_0 rfl (Nat.le_of_ble_eq_true rfl) ⟨by decide, by decide⟩ ⟨hkc, hks⟩ (x_fN_yard hG 64 (by decide) m3 _ (zw_b2 h)) (fun r20 m21 q => ?_)
      replace h := q
      refine zr_aload_n X dL_law_344 2 rfl ?_
      refine zr_callV_i (As := []) (st := [.int r20]) (d := 64) X dL_law_345 wm_L_36 my_X11_yard mv_X11_yard zo_68 rfl (Nat.le_of_ble_eq_true rfl) ⟨by decide, by decide⟩ ⟨hkc, hks⟩ (x_fM_yard hG 64 (by decide) m21 _ (zw_b2 h)) (fun r22 m23 q => ?_)
      replace h := q
      refine zr_icmp_eq (tgt := 1331) X dL_law_348 (by decide) (fun q => ?_) (fun q => ?_)
      · rw [if_pos q] at h
        refine zr_iinc (v := a2 + 6) (lo' := [(3, .int (a2 + 6)), (0, .ref b), (1, .ref (S.heap.size + 0)), (2, .ref (S.heap.size + 68))]) X dL_law_1331 3 rfl rfl (by decide) rfl ?_
        refine zr_goto (tgt := 18) X dL_law_1334 (by decide) ?_
        have h := hl1 _ h
        exact zr_sub [1, 2, 3, 0] rfl h
      · rw [if_neg q] at h
        refine zr_iconst (v := 0) X dL_law_351 (by decide) ?_
        have h := hr1 _ h
        exact zr_lawret X dL_law_352 (hP _ h)
    have hJ353 : zw (fLaw_j353 L xs a2 m3) P1 → zv_V S D cA p l e room_1 S mi #[Value.ref b] below meth c 4 (lw_Z below #[Value.ref b] S) kc ks 353 [(0, .ref b), (1, .ref (S.heap.size + 0)), (2, .ref (S.heap.size + 68)), (3, .int a2)] [] SH0 m3 := by
      intro h
      rw [fLaw_j353] at h
      refine zr_aload_n X dL_law_353 1 rfl ?_
      refine zr_aload_n X dL_law_354 0 rfl ?_
      refine zr_iload_n X dL_law_355 3 rfl ?_
      refine zr_iconst (v := 1) X dL_law_356 (by decide) ?_
      refine zr_iadd X dL_law_357 ?_
      obtain ⟨g0, h⟩ := zg_e h
      refine zr_xld X hX hbl dL_law_358 (zI_in g0) ?_
      refine zr_callV_i (As := [.int (xs (a2 + 1).toNatClampNeg)]) (st := []) (d := 64) X dL_law_359 wm_L_37 my_X10_told mv_X10_told zo_0 rfl (Nat.le_of_ble_eq_true rfl) ⟨by decide, by decide⟩ ⟨hkc, hks⟩ (x_fN_told hG 64 (by decide) (xs (a2 + 1).toNatClampNeg) m3 _ (zw_b2 h)) (fun r24 m25 q => ?_)
      replace h := q
      refine zr_aload_n X dL_law_362 2 rfl ?_
      refine zr_aload_n X dL_law_363 0 rfl ?_
      refine zr_iload_n X dL_law_364 3 rfl ?_
      refine zr_iconst (v := 1) X dL_law_365 (by decide) ?_
      refine zr_iadd X dL_law_366 ?_
      obtain ⟨g0, h⟩ := zg_e h
      refine zr_xld X hX hbl dL_law_367 (zI_in g0) ?_
      refine zr_callV_i (As := [.int (xs (a2 + 1).toNatClampNeg)]) (st := [.int r24]) (d := 64) X dL_law_368 wm_L_40 my_X11_told mv_X11_told zo_68 rfl (Nat.le_of_ble_eq_true rfl) ⟨by decide, by decide⟩ ⟨hkc, hks⟩ (x_fM_told hG 64 (by decide) (xs (a2 + 1).toNatClampNeg) m25 _ (zw_b1 h)) (fun r26 m27 q => ?_)
      obtain ⟨rfl, h⟩ := q
      refine zr_icmp_eq (tgt := 1331) X dL_law_371 (by decide) (fun q => ?_) (fun q => ?_)
      · rw [if_pos q] at h
        refine zr_iinc (v := a2 + 6) (lo' := [(3, .int (a2 + 6)), (0, .ref b), (1, .ref (S.heap.size + 0)), (2, .ref (S.heap.size + 68))]) X dL_law_1331 3 rfl rfl (by decide) rfl ?_
        refine zr_goto (tgt := 18) X dL_law_1334 (by decide) ?_
        have h := hl1 _ h
        exact zr_sub [1, 2, 3, 0] rfl h
      · rw [if_neg q] at h
        refine zr_iconst (v := 0) X dL_law_374 (by decide) ?_
        have h := hr1 _ h
        exact zr_lawret X dL_law_375 (hP _ h)
    have hJ376 : zw (fLaw_j376 L xs a2 m3) P1 → zv_V S D cA p l e room_1 S mi #[Value.ref b] below meth c 4 (lw_Z below #[Value.ref b] S) kc ks 376 [(0, .ref b), (1, .ref (S.heap.size + 0)), (2, .ref (S.heap.size + 68)), (3, .int a2)] [] SH0 m3 := by
      intro h
      rw [fLaw_j376] at h
      refine zr_aload_n X dL_law_376 1 rfl ?_
      refine zr_aload_n X dL_law_377 0 rfl ?_
      refine zr_iload_n X dL_law_378 3 rfl ?_
      refine zr_iconst (v := 1) X dL_law_379 (by decide) ?_
      refine zr_iadd X dL_law_380 ?_
      obtain ⟨g0, h⟩ := zg_e h
      refine zr_xld X hX hbl dL_law_381 (zI_in g0) ?_
      refine zr_aload_n X dL_law_382 0 rfl ?_
      refine zr_iload_n X dL_law_383 3 rfl ?_
      refine zr_iconst (v := 2) X dL_law_384 (by decide) ?_
      refine zr_iadd X dL_law_385 ?_
      obtain ⟨g0, h⟩ := zg_e h
      refine zr_xld X hX hbl dL_law_386 (zI_in g0) ?_
      refine zr_callV_i (As := [.int (xs (a2 + 1).toNatClampNeg), .int (xs (a2 + 2).toNatClampNeg)]) (st := []) (d := 64) X dL_law_387 wm_L_41 my_X10_set mv_X10_set zo_0 rfl (Nat.le_of_ble_eq_true rfl) ⟨by decide, by decide⟩ ⟨hkc, hks⟩ (x_fN_set hG 64 (by decide) (xs (a2 + 1).toNatClampNeg) (xs (a2 + 2).toNatClampNeg) m3 _ (zw_b2 h)) (fun r28 m29 q => ?_)
      replace h := q
      refine zr_aload_n X dL_law_390 2 rfl ?_
      refine zr_aload_n X dL_law_391 0 rfl ?_
      refine zr_iload_n X dL_law_392 3 rfl ?_
      refine zr_iconst (v := 1) X dL_law_393 (by decide) ?_
      refine zr_iadd X dL_law_394 ?_
      obtain ⟨g0, h⟩ := zg_e h
      refine zr_xld X hX hbl dL_law_395 (zI_in g0) ?_
      refine zr_aload_n X dL_law_396 0 rfl ?_
      refine zr_iload_n X dL_law_397 3 rfl ?_
      refine zr_iconst (v := 2) X dL_law_398 (by decide) ?_
      refine zr_iadd X dL_law_399 ?_
      obtain ⟨g0, h⟩ := zg_e h
      refine zr_xld X hX hbl dL_law_400 (zI_in g0) ?_
      refine zr_callV_i (As := [.int (xs (a2 + 1).toNatClampNeg), .int (xs (a2 + 2).toNatClampNeg)]) (st := [.int r28]) (d := 64) X dL_law_401 wm_L_44 my_X11_set mv_X11_set zo_68 rfl (Nat.le_of_ble_eq_true rfl) ⟨by decide, by decide⟩ ⟨hkc, hks⟩ (x_fM_set hG 64 (by decide) (xs (a2 + 1).toNatClampNeg) (xs (a2 + 2).toNatClampNeg) m29 _ (zw_b2 h)) (fun r30 m31 q => ?_)
      replace h := q
      refine zr_icmp_eq (tgt := 1331) X dL_law_404 (by decide) (fun q => ?_) (fun q => ?_)
      · rw [if_pos q] at h
        refine zr_iinc (v := a2 + 6) (lo' := [(3, .int (a2 + 6)), (0, .ref b), (1, .ref (S.heap.size + 0)), (2, .ref (S.heap.size + 68))]) X dL_law_1331 3 rfl rfl (by decide) rfl ?_
        refine zr_goto (tgt := 18) X dL_law_1334 (by decide) ?_
        have h := hl1 _ h
        exact zr_sub [1, 2, 3, 0] rfl h
      · rw [if_neg q] at h
        refine zr_iconst (v := 0) X dL_law_407 (by decide) ?_
        have h := hr1 _ h
        exact zr_lawret X dL_law_408 (hP _ h)
    have hJ409 : zw (fLaw_j409 L xs a2 m3) P1 → zv_V S D cA p l e room_1 S mi #[Value.ref b] below meth c 4 (lw_Z below #[Value.ref b] S) kc ks 409 [(0, .ref b), (1, .ref (S.heap.size + 0)), (2, .ref (S.heap.size + 68)), (3, .int a2)] [] SH0 m3 := by
      intro h
      rw [fLaw_j409] at h
      refine zr_aload_n X dL_law_409 1 rfl ?_
      refine zr_aload_n X dL_law_410 0 rfl ?_
      refine zr_iload_n X dL_law_411 3 rfl ?_
      refine zr_iconst (v := 1) X dL_law_412 (by decide) ?_
      refine zr_iadd X dL_law_413 ?_
      obtain ⟨g0, h⟩ := zg_e h
      refine zr_xld X hX hbl dL_law_414 (zI_in g0) ?_
      refine zr_callV_i (As := [.int (xs (a2 + 1).toNatClampNeg)]) (st := []) (d := 64) X dL_law_415 wm_L_45 my_X10_take mv_X10_take zo_0 rfl (Nat.le_of_ble_eq_true rfl) ⟨by decide, by decide⟩ ⟨hkc, hks⟩ (x_fN_take hG 64 (by decide) (xs (a2 + 1).toNatClampNeg) m3 _ (zw_b2 h)) (fun r32 m33 q => ?_)
      replace h := q
      refine zr_aload_n X dL_law_418 2 rfl ?_
      refine zr_aload_n X dL_law_419 0 rfl ?_
      refine zr_iload_n X dL_law_420 3 rfl ?_
      refine zr_iconst (v := 1) X dL_law_421 (by decide) ?_
      refine zr_iadd X dL_law_422 ?_
      obtain ⟨g0, h⟩ := zg_e h
      refine zr_xld X hX hbl dL_law_423 (zI_in g0) ?_
      refine zr_callV_i (As := [.int (xs (a2 + 1).toNatClampNeg)]) (st := [.int r32]) (d := 64) X dL_law_424 wm_L_48 my_X11_take mv_X11_take zo_68 rfl (Nat.le_of_ble_eq_true rfl) ⟨by decide, by decide⟩ ⟨hkc, hks⟩ (x_fM_take hG 64 (by decide) (xs (a2 + 1).toNatClampNeg) m33 _ (zw_b2 h)) (fun r34 m35 q => ?_)
      replace h := q
      refine zr_icmp_eq (tgt := 1331) X dL_law_427 (by decide) (fun q => ?_) (fun q => ?_)
      · rw [if_pos q] at h
        refine zr_iinc (v := a2 + 6) (lo' := [(3, .int (a2 + 6)), (0, .ref b), (1, .ref (S.heap.size + 0)), (2, .ref (S.heap.size + 68))]) X dL_law_1331 3 rfl rfl (by decide) rfl ?_
        refine zr_goto (tgt := 18) X dL_law_1334 (by decide) ?_
        have h := hl1 _ h
        exact zr_sub [1, 2, 3, 0] rfl h
      · rw [if_neg q] at h
        refine zr_iconst (v := 0) X dL_law_430 (by decide) ?_
        have h := hr1 _ h
        exact zr_lawret X dL_law_431 (hP _ h)
    have hJ432 : zw (fLaw_j432 L xs a2 m3) P1 → zv_V S D cA p l e room_1 S mi #[Value.ref b] below meth c 4 (lw_Z below #[Value.ref b] S) kc ks 432 [(0, .ref b), (1, .ref (S.heap.size + 0)), (2, .ref (S.heap.size + 68)), (3, .int a2)] [] SH0 m3 := by
      intro h
      rw [fLaw_j432] at h
      refine zr_aload_n X dL_law_432 1 rfl ?_
      refine zr_aload_n X dL_law_433 0 rfl ?_
      refine zr_iload_n X dL_law_434 3 rfl ?_
      refine zr_iconst (v := 1) X dL_law_435 (by decide) ?_
      refine zr_iadd X dL_law_436 ?_
      obtain ⟨g0, h⟩ := zg_e h
      refine zr_xld X hX hbl dL_law_437 (zI_in g0) ?_
      refine zr_aload_n X dL_law_438 0 rfl ?_
      refine zr_iload_n X dL_law_439 3 rfl ?_
      refine zr_iconst (v := 2) X dL_law_440 (by decide) ?_
      refine zr_iadd X dL_law_441 ?_
      obtain ⟨g0, h⟩ := zg_e h
      refine zr_xld X hX hbl dL_law_442 (zI_in g0) ?_
      refine zr_callV_i (As := [.int (xs (a2 + 1).toNatClampNeg), .int (xs (a2 + 2).toNatClampNeg)]) (st := []) (d := 64) X dL_law_443 wm_L_49 my_X10_at mv_X10_at zo_0 rfl (Nat.le_of_ble_eq_true rfl) ⟨by decide, by decide⟩ ⟨hkc, hks⟩ (x_fN_at hG 64 (by decide) (xs (a2 + 1).toNatClampNeg) (xs (a2 + 2).toNatClampNeg) m3 _ (zw_b2 h)) (fun r36 m37 q => ?_)
      replace h := q
      refine zr_aload_n X dL_law_446 2 rfl ?_
      refine zr_aload_n X dL_law_447 0 rfl ?_
      refine zr_iload_n X dL_law_448 3 rfl ?_
      refine zr_iconst (v := 1) X dL_law_449 (by decide) ?_
      refine zr_iadd X dL_law_450 ?_
      obtain ⟨g0, h⟩ := zg_e h
      refine zr_xld X hX hbl dL_law_451 (zI_in g0) ?_
      refine zr_aload_n X dL_law_452 0 rfl ?_
      refine zr_iload_n X dL_law_453 3 rfl ?_
      refine zr_iconst (v := 2) X dL_law_454 (by decide) ?_
      refine zr_iadd X dL_law_455 ?_
      obtain ⟨g0, h⟩ := zg_e h
      refine zr_xld X hX hbl dL_law_456 (zI_in g0) ?_
      refine zr_callV_i (As := [.int (xs (a2 + 1).toNatClampNeg), .int (xs (a2 + 2).toNatClampNeg)]) (st := [.int r36]) (d := 64) X dL_law_457 wm_L_52 my_X11_at mv_X11_at zo_68 rfl (Nat.le_of_ble_eq_true rfl) ⟨by decide, by decide⟩ ⟨hkc, hks⟩ (x_fM_at hG 64 (by decide) (xs (a2 + 1).toNatClampNeg) (xs (a2 + 2).toNatClampNeg) m37 _ (zw_b1 h)) (fun r38 m39 q => ?_)
      obtain ⟨rfl, h⟩ := q
      refine zr_icmp_eq (tgt := 1331) X dL_law_460 (by decide) (fun q => ?_) (fun q => ?_)
      · rw [if_pos q] at h
        refine zr_iinc (v := a2 + 6) (lo' := [(3, .int (a2 + 6)), (0, .ref b), (1, .ref (S.heap.size + 0)), (2, .ref (S.heap.size + 68))]) X dL_law_1331 3 rfl rfl (by decide) rfl ?_
        refine zr_goto (tgt := 18) X dL_law_1334 (by decide) ?_
        have h := hl1 _ h
        exact zr_sub [1, 2, 3, 0] rfl h
      · rw [if_neg q] at h
        refine zr_iconst (v := 0) X dL_law_463 (by decide) ?_
        have h := hr1 _ h
        exact zr_lawret X dL_law_464 (hP _ h)
    have hJ465 : zw (fLaw_j465 L xs a2 m3) P1 → zv_V S D cA p l e room_1 S mi #[Value.ref b] below meth c 4 (lw_Z below #[Value.ref b] S) kc ks 465 [(0, .ref b), (1, .ref (S.heap.size + 0)), (2, .ref (S.heap.size + 68)), (3, .int a2)] [] SH0 m3 := by
      intro h
      rw [fLaw_j465] at h
      refine zr_aload_n X dL_law_465 1 rfl ?_
      refine zr_aload_n X dL_law_466 0 rfl ?_
      refine zr_iload_n X dL_law_467 3 rfl ?_
      refine zr_iconst (v := 1) X dL_law_468 (by decide) ?_
      refine zr_iadd X dL_law_469 ?_
      obtain ⟨g0, h⟩ := zg_e h
      refine zr_xld X hX hbl dL_law_470 (zI_in g0) ?_
      refine zr_aload_n X dL_law_471 0 rfl ?_
      refine zr_iload_n X dL_law_472 3 rfl ?_
      refine zr_iconst (v := 2) X dL_law_473 (by decide) ?_
      refine zr_iadd X dL_law_474 ?_
      obtain ⟨g0, h⟩ := zg_e h
      refine zr_xld X hX hbl dL_law_475 (zI_in g0) ?_
      refine zr_callV_i (As := [.int (xs (a2 + 1).toNatClampNeg), .int (xs (a2 + 2).toNatClampNeg)]) (st := []) (d := 64) X dL_law_476 wm_L_53 my_X10_sees mv_X10_sees zo_0 rfl (Nat.le_of_ble_eq_true rfl) ⟨by decide, by decide⟩ ⟨hkc, hks⟩ (x_fN_sees hG 64 (by decide) (xs (a2 + 1).toNatClampNeg) (xs (a2 + 2).toNatClampNeg) m3 _ (zw_b1 h)) (fun r40 m41 q => ?_)
      obtain ⟨rfl, h⟩ := q
      refine zr_aload_n X dL_law_479 2 rfl ?_
      refine zr_aload_n X dL_law_480 0 rfl ?_
      refine zr_iload_n X dL_law_481 3 rfl ?_
      refine zr_iconst (v := 1) X dL_law_482 (by decide) ?_
      refine zr_iadd X dL_law_483 ?_
      obtain ⟨g0, h⟩ := zg_e h
      refine zr_xld X hX hbl dL_law_484 (zI_in g0) ?_
      refine zr_aload_n X dL_law_485 0 rfl ?_
      refine zr_iload_n X dL_law_486 3 rfl ?_
      refine zr_iconst (v := 2) X dL_law_487 (by decide) ?_
      refine zr_iadd X dL_law_488 ?_
      obtain ⟨g0, h⟩ := zg_e h
      refine zr_xld X hX hbl dL_law_489 (zI_in g0) ?_
      refine zr_callV_i (As := [.int (xs (a2 + 1).toNatClampNeg), .int (xs (a2 + 2).toNatClampNeg)]) (st := [.int r40]) (d := 64) X dL_law_490 wm_L_56 my_X11_sees mv_X11_sees zo_68 rfl (Nat.le_of_ble_eq_true rfl) ⟨by decide, by decide⟩ ⟨hkc, hks⟩ (x_fM_sees hG 64 (by decide) (xs (a2 + 1).toNatClampNeg) (xs (a2 + 2).toNatClampNeg) m3 _ (zw_b1 h)) (fun r42 m43 q => ?_)
      obtain ⟨rfl, h⟩ := q
      refine zr_icmp_eq (tgt := 1331) X dL_law_493 (by decide) (fun q => ?_) (fun q => ?_)
      · rw [if_pos q] at h
        refine zr_iinc (v := a2 + 6) (lo' := [(3, .int (a2 + 6)), (0, .ref b), (1, .ref (S.heap.size + 0)), (2, .ref (S.heap.size + 68))]) X dL_law_1331 3 rfl rfl (by decide) rfl ?_
        refine zr_goto (tgt := 18) X dL_law_1334 (by decide) ?_
        have h := hl1 _ h
        exact zr_sub [1, 2, 3, 0] rfl h
      · rw [if_neg q] at h
        refine zr_iconst (v := 0) X dL_law_496 (by decide) ?_
        have h := hr1 _ h
        exact zr_lawret X dL_law_497 (hP _ h)
    have hJ498 : zw (fLaw_j498 a2 m3) P1 → zv_V S D cA p l e room_1 S mi #[Value.ref b] below meth c 4 (lw_Z below #[Value.ref b] S) kc ks 498 [(0, .ref b), (1, .ref (S.heap.size + 0)), (2, .ref (S.heap.size + 68)), (3, .int a2)] [] SH0 m3 := by
      intro h
      rw [fLaw_j498] at h
      refine zr_aload_n X dL_law_498 1 rfl ?_
      refine zr_callV_i (As := []) (st := []) (d := 64) X dL_law_499 wm_L_57 my_X10_clear mv_X10_clear zo_0 rfl (Nat.le_of_ble_eq_true rfl) ⟨by decide, by decide⟩ ⟨hkc, hks⟩ (x_fN_clear hG 64 (by decide) m3 _ (zw_b2 h)) (fun r44 m45 q => ?_)
      replace h := q
      refine zr_aload_n X dL_law_502 2 rfl ?_
      refine zr_callV_i (As := []) (st := [.int r44]) (d := 64) X dL_law_503 wm_L_60 my_X11_clear mv_X11_clear zo_68 rfl (Nat.le_of_ble_eq_true rfl) ⟨by decide, by decide⟩ ⟨hkc, hks⟩ (x_fM_clear hG 64 (by decide) m45 _ (zw_b2 h)) (fun r46 m47 q => ?_)
      replace h := q
      refine zr_icmp_eq (tgt := 1331) X dL_law_506 (by decide) (fun q => ?_) (fun q => ?_)
      · rw [if_pos q] at h
        refine zr_iinc (v := a2 + 6) (lo' := [(3, .int (a2 + 6)), (0, .ref b), (1, .ref (S.heap.size + 0)), (2, .ref (S.heap.size + 68))]) X dL_law_1331 3 rfl rfl (by decide) rfl ?_
        refine zr_goto (tgt := 18) X dL_law_1334 (by decide) ?_
        have h := hl1 _ h
        exact zr_sub [1, 2, 3, 0] rfl h
      · rw [if_neg q] at h
        refine zr_iconst (v := 0) X dL_law_509 (by decide) ?_
        have h := hr1 _ h
        exact zr_lawret X dL_law_510 (hP _ h)
    have hJ511 : zw (fLaw_j511 a2 m3) P1 → zv_V S D cA p l e room_1 S mi #[Value.ref b] below meth c 4 (lw_Z below #[Value.ref b] S) kc ks 511 [(0, .ref b), (1, .ref (S.heap.size + 0)), (2, .ref (S.heap.size + 68)), (3, .int a2)] [] SH0 m3 := by
      intro h
      rw [fLaw_j511] at h
      refine zr_aload_n X dL_law_511 1 rfl ?_
      refine zr_callV_i (As := []) (st := []) (d := 64) X dL_law_512 wm_L_61 my_X10_worst mv_X10_worst zo_0 rfl (Nat.le_of_ble_eq_true rfl) ⟨by decide, by decide⟩ ⟨hkc, hks⟩ (x_fN_worst hG 64 (by decide) m3 _ (zw_b2 h)) (fun r48 m49 q => ?_)
      replace h := q
      refine zr_aload_n X dL_law_515 2 rfl ?_
      refine zr_callV_i (As := []) (st := [.int r48]) (d := 64) X dL_law_516 wm_L_64 my_X11_worst mv_X11_worst zo_68 rfl (Nat.le_of_ble_eq_true rfl) ⟨by decide, by decide⟩ ⟨hkc, hks⟩ (x_fM_worst hG 64 (by decide) m49 _ (zw_b1 h)) (fun r50 m51 q => ?_)
      obtain ⟨rfl, h⟩ := q
      refine zr_icmp_eq (tgt := 1331) X dL_law_519 (by decide) (fun q => ?_) (fun q => ?_)
      · rw [if_pos q] at h
        refine zr_iinc (v := a2 + 6) (lo' := [(3, .int (a2 + 6)), (0, .ref b), (1, .ref (S.heap.size + 0)), (2, .ref (S.heap.size + 68))]) X dL_law_1331 3 rfl rfl (by decide) rfl ?_
        refine zr_goto (tgt := 18) X dL_law_1334 (by decide) ?_
        have h := hl1 _ h
        exact zr_sub [1, 2, 3, 0] rfl h
      · rw [if_neg q] at h
        refine zr_iconst (v := 0) X dL_law_522 (by decide) ?_
        have h := hr1 _ h
        exact zr_lawret X dL_law_523 (hP _ h)
    have hJ524 : zw (fLaw_j524 L xs a2 m3) P1 → zv_V S D cA p l e room_1 S mi #[Value.ref b] below meth c 4 (lw_Z below #[Value.ref b] S) kc ks 524 [(0, .ref b), (1, .ref (S.heap.size + 0)), (2, .ref (S.heap.size + 68)), (3, .int a2)] [] SH0 m3 := by
      intro h
      rw [fLaw_j524] at h
      refine zr_aload_n X dL_law_524 1 rfl ?_
      refine zr_aload_n X dL_law_525 0 rfl ?_
      refine zr_iload_n X dL_law_526 3 rfl ?_
      refine zr_iconst (v := 1) X dL_law_527 (by decide) ?_
      refine zr_iadd X dL_law_528 ?_
      obtain ⟨g0, h⟩ := zg_e h
      refine zr_xld X hX hbl dL_law_529 (zI_in g0) ?_
      refine zr_aload_n X dL_law_530 0 rfl ?_
      refine zr_iload_n X dL_law_531 3 rfl ?_
      refine zr_iconst (v := 2) X dL_law_532 (by decide) ?_
      refine zr_iadd X dL_law_533 ?_
      obtain ⟨g0, h⟩ := zg_e h
      refine zr_xld X hX hbl dL_law_534 (zI_in g0) ?_
      refine zr_callV_i (As := [.int (xs (a2 + 1).toNatClampNeg), .int (xs (a2 + 2).toNatClampNeg)]) (st := []) (d := 64) X dL_law_535 wm_L_65 my_X10_ways mv_X10_ways zo_0 rfl (Nat.le_of_ble_eq_true rfl) ⟨by decide, by decide⟩ ⟨hkc, hks⟩ (x_fN_ways hG 64 (by decide) (xs (a2 + 1).toNatClampNeg) (xs (a2 + 2).toNatClampNeg) m3 _ (zw_b2 h)) (fun r52 m53 q => ?_)
      replace h := q
      refine zr_aload_n X dL_law_538 2 rfl ?_
      refine zr_aload_n X dL_law_539 0 rfl ?_
      refine zr_iload_n X dL_law_540 3 rfl ?_
      refine zr_iconst (v := 1) X dL_law_541 (by decide) ?_
      refine zr_iadd X dL_law_542 ?_
      obtain ⟨g0, h⟩ := zg_e h
      refine zr_xld X hX hbl dL_law_543 (zI_in g0) ?_
      refine zr_aload_n X dL_law_544 0 rfl ?_
      refine zr_iload_n X dL_law_545 3 rfl ?_
      refine zr_iconst (v := 2) X dL_law_546 (by decide) ?_
      refine zr_iadd X dL_law_547 ?_
      obtain ⟨g0, h⟩ := zg_e h
      refine zr_xld X hX hbl dL_law_548 (zI_in g0) ?_
      refine zr_callV_i (As := [.int (xs (a2 + 1).toNatClampNeg), .int (xs (a2 + 2).toNatClampNeg)]) (st := [.int r52]) (d := 64) X dL_law_549 wm_L_68 my_X11_ways mv_X11_ways zo_68 rfl (Nat.le_of_ble_eq_true rfl) ⟨by decide, by decide⟩ ⟨hkc, hks⟩ (x_fM_ways hG 64 (by decide) (xs (a2 + 1).toNatClampNeg) (xs (a2 + 2).toNatClampNeg) m53 _ (zw_b2 h)) (fun r54 m55 q => ?_)
      replace h := q
      refine zr_icmp_eq (tgt := 1331) X dL_law_552 (by decide) (fun q => ?_) (fun q => ?_)
      · rw [if_pos q] at h
        refine zr_iinc (v := a2 + 6) (lo' := [(3, .int (a2 + 6)), (0, .ref b), (1, .ref (S.heap.size + 0)), (2, .ref (S.heap.size + 68))]) X dL_law_1331 3 rfl rfl (by decide) rfl ?_
        refine zr_goto (tgt := 18) X dL_law_1334 (by decide) ?_
        have h := hl1 _ h
        exact zr_sub [1, 2, 3, 0] rfl h
      · rw [if_neg q] at h
        refine zr_iconst (v := 0) X dL_law_555 (by decide) ?_
        have h := hr1 _ h
        exact zr_lawret X dL_law_556 (hP _ h)
    have hJ557 : zw (fLaw_j557 L xs a2 m3) P1 → zv_V S D cA p l e room_1 S mi #[Value.ref b] below meth c 4 (lw_Z below #[Value.ref b] S) kc ks 557 [(0, .ref b), (1, .ref (S.heap.size + 0)), (2, .ref (S.heap.size + 68)), (3, .int a2)] [] SH0 m3 := by
      intro h
      rw [fLaw_j557] at h
      refine zr_aload_n X dL_law_557 1 rfl ?_
      refine zr_aload_n X dL_law_558 0 rfl ?_
      refine zr_iload_n X dL_law_559 3 rfl ?_
      refine zr_iconst (v := 1) X dL_law_560 (by decide) ?_
      refine zr_iadd X dL_law_561 ?_
      obtain ⟨g0, h⟩ := zg_e h
      refine zr_xld X hX hbl dL_law_562 (zI_in g0) ?_
      refine zr_aload_n X dL_law_563 0 rfl ?_
      refine zr_iload_n X dL_law_564 3 rfl ?_
      refine zr_iconst (v := 2) X dL_law_565 (by decide) ?_
      refine zr_iadd X dL_law_566 ?_
      obtain ⟨g0, h⟩ := zg_e h
      refine zr_xld X hX hbl dL_law_567 (zI_in g0) ?_
      refine zr_callV_i (As := [.int (xs (a2 + 1).toNatClampNeg), .int (xs (a2 + 2).toNatClampNeg)]) (st := []) (d := 64) X dL_law_568 wm_L_69 my_X10_after mv_X10_after zo_0 rfl (Nat.le_of_ble_eq_true rfl) ⟨by decide, by decide⟩ ⟨hkc, hks⟩ (x_fN_after hG 64 (by decide) (xs (a2 + 1).toNatClampNeg) (xs (a2 + 2).toNatClampNeg) m3 _ (zw_b2 h)) (fun r56 m57 q => ?_)
      replace h := q
      refine zr_aload_n X dL_law_571 2 rfl ?_
      refine zr_aload_n X dL_law_572 0 rfl ?_
      refine zr_iload_n X dL_law_573 3 rfl ?_
      refine zr_iconst (v := 1) X dL_law_574 (by decide) ?_
      refine zr_iadd X dL_law_575 ?_
      obtain ⟨g0, h⟩ := zg_e h
      refine zr_xld X hX hbl dL_law_576 (zI_in g0) ?_
      refine zr_aload_n X dL_law_577 0 rfl ?_
      refine zr_iload_n X dL_law_578 3 rfl ?_
      refine zr_iconst (v := 2) X dL_law_579 (by decide) ?_
      refine zr_iadd X dL_law_580 ?_
      obtain ⟨g0, h⟩ := zg_e h
      refine zr_xld X hX hbl dL_law_581 (zI_in g0) ?_
      refine zr_callV_i (As := [.int (xs (a2 + 1).toNatClampNeg), .int (xs (a2 + 2).toNatClampNeg)]) (st := [.int r56]) (d := 64) X dL_law_582 wm_L_72 my_X11_after mv_X11_after zo_68 rfl (Nat.le_of_ble_eq_true rfl) ⟨by decide, by decide⟩ ⟨hkc, hks⟩ (x_fM_after hG 64 (by decide) (xs (a2 + 1).toNatClampNeg) (xs (a2 + 2).toNatClampNeg) m57 _ (zw_b2 h)) (fun r58 m59 q => ?_)
      replace h := q
      refine zr_icmp_eq (tgt := 1331) X dL_law_585 (by decide) (fun q => ?_) (fun q => ?_)
      · rw [if_pos q] at h
        refine zr_iinc (v := a2 + 6) (lo' := [(3, .int (a2 + 6)), (0, .ref b), (1, .ref (S.heap.size + 0)), (2, .ref (S.heap.size + 68))]) X dL_law_1331 3 rfl rfl (by decide) rfl ?_
        refine zr_goto (tgt := 18) X dL_law_1334 (by decide) ?_
        have h := hl1 _ h
        exact zr_sub [1, 2, 3, 0] rfl h
      · rw [if_neg q] at h
        refine zr_iconst (v := 0) X dL_law_588 (by decide) ?_
        have h := hr1 _ h
        exact zr_lawret X dL_law_589 (hP _ h)
    have hJ590 : zw (fLaw_j590 L xs a2 m3) P1 → zv_V S D cA p l e room_1 S mi #[Value.ref b] below meth c 4 (lw_Z below #[Value.ref b] S) kc ks 590 [(0, .ref b), (1, .ref (S.heap.size + 0)), (2, .ref (S.heap.size + 68)), (3, .int a2)] [] SH0 m3 := by
      intro h
      rw [fLaw_j590] at h
      refine zr_aload_n X dL_law_590 1 rfl ?_
      refine zr_aload_n X dL_law_591 0 rfl ?_
      refine zr_iload_n X dL_law_592 3 rfl ?_
      refine zr_iconst (v := 1) X dL_law_593 (by decide) ?_
      refine zr_iadd X dL_law_594 ?_
      obtain ⟨g0, h⟩ := zg_e h
      refine zr_xld X hX hbl dL_law_595 (zI_in g0) ?_
      refine zr_callV_i (As := [.int (xs (a2 + 1).toNatClampNeg)]) (st := []) (d := 64) X dL_law_596 wm_L_73 my_X10_most mv_X10_most zo_0 rfl (Nat.le_of_ble_eq_true rfl) ⟨by decide, by decide⟩ ⟨hkc, hks⟩ (x_fN_most hG 64 (by decide) (xs (a2 + 1).toNatClampNeg) m3 _ (zw_b2 h)) (fun r60 m61 q => ?_)
      replace h := q
      refine zr_aload_n X dL_law_599 2 rfl ?_
      refine zr_aload_n X dL_law_600 0 rfl ?_
      refine zr_iload_n X dL_law_601 3 rfl ?_
      refine zr_iconst (v := 1) X dL_law_602 (by decide) ?_
      refine zr_iadd X dL_law_603 ?_
      obtain ⟨g0, h⟩ := zg_e h
      refine zr_xld X hX hbl dL_law_604 (zI_in g0) ?_
      refine zr_callV_i (As := [.int (xs (a2 + 1).toNatClampNeg)]) (st := [.int r60]) (d := 64) X dL_law_605 wm_L_76 my_X11_most mv_X11_most zo_68 rfl (Nat.le_of_ble_eq_true rfl) ⟨by decide, by decide⟩ ⟨hkc, hks⟩ (x_fM_most hG 64 (by decide) (xs (a2 + 1).toNatClampNeg) m61 _ (zw_b2 h)) (fun r62 m63 q => ?_)
      replace h := q
      refine zr_icmp_eq (tgt := 1331) X dL_law_608 (by decide) (fun q => ?_) (fun q => ?_)
      · rw [if_pos q] at h
        refine zr_iinc (v := a2 + 6) (lo' := [(3, .int (a2 + 6)), (0, .ref b), (1, .ref (S.heap.size + 0)), (2, .ref (S.heap.size + 68))]) X dL_law_1331 3 rfl rfl (by decide) rfl ?_
        refine zr_goto (tgt := 18) X dL_law_1334 (by decide) ?_
        have h := hl1 _ h
        exact zr_sub [1, 2, 3, 0] rfl h
      · rw [if_neg q] at h
        refine zr_iconst (v := 0) X dL_law_611 (by decide) ?_
        have h := hr1 _ h
        exact zr_lawret X dL_law_612 (hP _ h)
    have hJ613 : zw (fLaw_j613 L xs a2 m3) P1 → zv_V S D cA p l e room_1 S mi #[Value.ref b] below meth c 4 (lw_Z below #[Value.ref b] S) kc ks 613 [(0, .ref b), (1, .ref (S.heap.size + 0)), (2, .ref (S.heap.size + 68)), (3, .int a2)] [] SH0 m3 := by
      intro h
      rw [fLaw_j613] at h
      refine zr_aload_n X dL_law_613 1 rfl ?_
      refine zr_aload_n X dL_law_614 0 rfl ?_
      refine zr_iload_n X dL_law_615 3 rfl ?_
      refine zr_iconst (v := 1) X dL_law_616 (by decide) ?_
      refine zr_iadd X dL_law_617 ?_
      obtain ⟨g0, h⟩ := zg_e h
      refine zr_xld X hX hbl dL_law_618 (zI_in g0) ?_
      refine zr_aload_n X dL_law_619 0 rfl ?_
      refine zr_iload_n X dL_law_620 3 rfl ?_
      refine zr_iconst (v := 2) X dL_law_621 (by decide) ?_
      refine zr_iadd X dL_law_622 ?_
      obtain ⟨g0, h⟩ := zg_e h
      refine zr_xld X hX hbl dL_law_623 (zI_in g0) ?_
      refine zr_callV_i (As := [.int (xs (a2 + 1).toNatClampNeg), .int (xs (a2 + 2).toNatClampNeg)]) (st := []) (d := 64) X dL_law_624 wm_L_77 my_X10_hold mv_X10_hold zo_0 rfl (Nat.le_of_ble_eq_true rfl) ⟨by decide, by decide⟩ ⟨hkc, hks⟩ (x_fN_hold hG 64 (by decide) (xs (a2 + 1).toNatClampNeg) (xs (a2 + 2).toNatClampNeg) m3 _ (zw_b2 h)) (fun r64 m65 q => ?_)
      replace h := q
      refine zr_aload_n X dL_law_627 2 rfl ?_
      refine zr_aload_n X dL_law_628 0 rfl ?_
      refine zr_iload_n X dL_law_629 3 rfl ?_
      refine zr_iconst (v := 1) X dL_law_630 (by decide) ?_
      refine zr_iadd X dL_law_631 ?_
      obtain ⟨g0, h⟩ := zg_e h
      refine zr_xld X hX hbl dL_law_632 (zI_in g0) ?_
      refine zr_aload_n X dL_law_633 0 rfl ?_
      refine zr_iload_n X dL_law_634 3 rfl ?_
      refine zr_iconst (v := 2) X dL_law_635 (by decide) ?_
      refine zr_iadd X dL_law_636 ?_
      obtain ⟨g0, h⟩ := zg_e h
      refine zr_xld X hX hbl dL_law_637 (zI_in g0) ?_
      refine zr_callV_i (As := [.int (xs (a2 + 1).toNatClampNeg), .int (xs (a2 + 2).toNatClampNeg)]) (st := [.int r64]) (d := 64) X dL_law_638 wm_L_80 my_X11_hold mv_X11_hold zo_68 rfl (Nat.le_of_ble_eq_true rfl) ⟨by decide, by decide⟩ ⟨hkc, hks⟩ (x_fM_hold hG 64 (by decide) (xs (a2 + 1).toNatClampNeg) (xs (a2 + 2).toNatClampNeg) m65 _ (zw_b2 h)) (fun r66 m67 q => ?_)
      replace h := q
      refine zr_icmp_eq (tgt := 1331) X dL_law_641 (by decide) (fun q => ?_) (fun q => ?_)
      · rw [if_pos q] at h
        refine zr_iinc (v := a2 + 6) (lo' := [(3, .int (a2 + 6)), (0, .ref b), (1, .ref (S.heap.size + 0)), (2, .ref (S.heap.size + 68))]) X dL_law_1331 3 rfl rfl (by decide) rfl ?_
        refine zr_goto (tgt := 18) X dL_law_1334 (by decide) ?_
        have h := hl1 _ h
        exact zr_sub [1, 2, 3, 0] rfl h
      · rw [if_neg q] at h
        refine zr_iconst (v := 0) X dL_law_644 (by decide) ?_
        have h := hr1 _ h
        exact zr_lawret X dL_law_645 (hP _ h)
    have hJ646 : zw (fLaw_j646 L xs a2 m3) P1 → zv_V S D cA p l e room_1 S mi #[Value.ref b] below meth c 4 (lw_Z below #[Value.ref b] S) kc ks 646 [(0, .ref b), (1, .ref (S.heap.size + 0)), (2, .ref (S.heap.size + 68)), (3, .int a2)] [] SH0 m3 := by
      intro h
      rw [fLaw_j646] at h
      refine zr_aload_n X dL_law_646 1 rfl ?_
      refine zr_aload_n X dL_law_647 0 rfl ?_
      refine zr_iload_n X dL_law_648 3 rfl ?_
      refine zr_iconst (v := 1) X dL_law_649 (by decide) ?_
      refine zr_iadd X dL_law_650 ?_
      obtain ⟨g0, h⟩ := zg_e h
      refine zr_xld X hX hbl dL_law_651 (zI_in g0) ?_
      refine zr_callV_i (As := [.int (xs (a2 + 1).toNatClampNeg)]) (st := []) (d := 64) X dL_law_652 wm_L_81 my_X10_more mv_X10_more zo_0 rfl (Nat.le_of_ble_eq_true rfl) ⟨by decide, by decide⟩ ⟨hkc, hks⟩ (x_fN_more hG 64 (by decide) (xs (a2 + 1).toNatClampNeg) m3 _ (zw_b2 h)) (fun r68 m69 q => ?_)
      replace h := q
      refine zr_aload_n X dL_law_655 2 rfl ?_
      refine zr_aload_n X dL_law_656 0 rfl ?_
      refine zr_iload_n X dL_law_657 3 rfl ?_
      refine zr_iconst (v := 1) X dL_law_658 (by decide) ?_
      refine zr_iadd X dL_law_659 ?_
      obtain ⟨g0, h⟩ := zg_e h
      refine zr_xld X hX hbl dL_law_660 (zI_in g0) ?_
      refine zr_callV_i (As := [.int (xs (a2 + 1).toNatClampNeg)]) (st := [.int r68]) (d := 64) X dL_law_661 wm_L_84 my_X11_more mv_X11_more zo_68 rfl (Nat.le_of_ble_eq_true rfl) ⟨by decide, by decide⟩ ⟨hkc, hks⟩ (x_fM_more hG 64 (by decide) (xs (a2 + 1).toNatClampNeg) m69 _ (zw_b1 h)) (fun r70 m71 q => ?_)
      obtain ⟨rfl, h⟩ := q
      refine zr_icmp_eq (tgt := 1331) X dL_law_664 (by decide) (fun q => ?_) (fun q => ?_)
      · rw [if_pos q] at h
        refine zr_iinc (v := a2 + 6) (lo' := [(3, .int (a2 + 6)), (0, .ref b), (1, .ref (S.heap.size + 0)), (2, .ref (S.heap.size + 68))]) X dL_law_1331 3 rfl rfl (by decide) rfl ?_
        refine zr_goto (tgt := 18) X dL_law_1334 (by decide) ?_
        have h := hl1 _ h
        exact zr_sub [1, 2, 3, 0] rfl h
      · rw [if_neg q] at h
        refine zr_iconst (v := 0) X dL_law_667 (by decide) ?_
        have h := hr1 _ h
        exact zr_lawret X dL_law_668 (hP _ h)
    have hJ669 : zw (fLaw_j669 L xs a2 m3) P1 → zv_V S D cA p l e room_1 S mi #[Value.ref b] below meth c 4 (lw_Z below #[Value.ref b] S) kc ks 669 [(0, .ref b), (1, .ref (S.heap.size + 0)), (2, .ref (S.heap.size + 68)), (3, .int a2)] [] SH0 m3 := by
      intro h
      rw [fLaw_j669] at h
      refine zr_aload_n X dL_law_669 1 rfl ?_
      refine zr_aload_n X dL_law_670 0 rfl ?_
      refine zr_iload_n X dL_law_671 3 rfl ?_
      refine zr_iconst (v := 1) X dL_law_672 (by decide) ?_
      refine zr_iadd X dL_law_673 ?_
      obtain ⟨g0, h⟩ := zg_e h
      refine zr_xld X hX hbl dL_law_674 (zI_in g0) ?_
      refine zr_callV_i (As := [.int (xs (a2 + 1).toNatClampNeg)]) (st := []) (d := 64) X dL_law_675 wm_L_85 my_X10_right mv_X10_right zo_0 rfl (Nat.le_of_ble_eq_true rfl) ⟨by decide, by decide⟩ ⟨hkc, hks⟩ (x_fN_right hG 64 (by decide) (xs (a2 + 1).toNatClampNeg) m3 _ (zw_b2 h)) (fun r72 m73 q => ?_)
      replace h := q
      refine zr_aload_n X dL_law_678 2 rfl ?_
      refine zr_aload_n X dL_law_679 0 rfl ?_
      refine zr_iload_n X dL_law_680 3 rfl ?_
      refine zr_iconst (v := 1) X dL_law_681 (by decide) ?_
      refine zr_iadd X dL_law_682 ?_
      obtain ⟨g0, h⟩ := zg_e h
      refine zr_xld X hX hbl dL_law_683 (zI_in g0) ?_
      refine zr_callV_i (As := [.int (xs (a2 + 1).toNatClampNeg)]) (st := [.int r72]) (d := 64) X dL_law_684 wm_L_88 my_X11_right mv_X11_right zo_68 rfl (Nat.le_of_ble_eq_true rfl) ⟨by decide, by decide⟩ ⟨hkc, hks⟩ (x_fM_right hG 64 (by decide) (xs (a2 + 1).toNatClampNeg) m73 _ (zw_b2 h)) (fun r74 m75 q => ?_)
      replace h := q
      refine zr_icmp_eq (tgt := 1331) X dL_law_687 (by decide) (fun q => ?_) (fun q => ?_)
      · rw [if_pos q] at h
        refine zr_iinc (v := a2 + 6) (lo' := [(3, .int (a2 + 6)), (0, .ref b), (1, .ref (S.heap.size + 0)), (2, .ref (S.heap.size + 68))]) X dL_law_1331 3 rfl rfl (by decide) rfl ?_
        refine zr_goto (tgt := 18) X dL_law_1334 (by decide) ?_
        have h := hl1 _ h
        exact zr_sub [1, 2, 3, 0] rfl h
      · rw [if_neg q] at h
        refine zr_iconst (v := 0) X dL_law_690 (by decide) ?_
        have h := hr1 _ h
        exact zr_lawret X dL_law_691 (hP _ h)
    have hJ692 : zw (fLaw_j692 L xs a2 m3) P1 → zv_V S D cA p l e room_1 S mi #[Value.ref b] below meth c 4 (lw_Z below #[Value.ref b] S) kc ks 692 [(0, .ref b), (1, .ref (S.heap.size + 0)), (2, .ref (S.heap.size + 68)), (3, .int a2)] [] SH0 m3 := by
      intro h
      rw [fLaw_j692] at h
      refine zr_aload_n X dL_law_692 1 rfl ?_
      refine zr_aload_n X dL_law_693 0 rfl ?_
      refine zr_iload_n X dL_law_694 3 rfl ?_
      refine zr_iconst (v := 1) X dL_law_695 (by decide) ?_
      refine zr_iadd X dL_law_696 ?_
      obtain ⟨g0, h⟩ := zg_e h
      refine zr_xld X hX hbl dL_law_697 (zI_in g0) ?_
      refine zr_callV_i (As := [.int (xs (a2 + 1).toNatClampNeg)]) (st := []) (d := 64) X dL_law_698 wm_L_89 my_X10_game mv_X10_game zo_0 rfl (Nat.le_of_ble_eq_true rfl) ⟨by decide, by decide⟩ ⟨hkc, hks⟩ (x_fN_game hG 64 (by decide) (xs (a2 + 1).toNatClampNeg) m3 _ (zw_b2 h)) (fun r76 m77 q => ?_)
      replace h := q
      refine zr_aload_n X dL_law_701 2 rfl ?_
      refine zr_aload_n X dL_law_702 0 rfl ?_
      refine zr_iload_n X dL_law_703 3 rfl ?_
      refine zr_iconst (v := 1) X dL_law_704 (by decide) ?_
      refine zr_iadd X dL_law_705 ?_
      obtain ⟨g0, h⟩ := zg_e h
      refine zr_xld X hX hbl dL_law_706 (zI_in g0) ?_
      refine zr_callV_i (As := [.int (xs (a2 + 1).toNatClampNeg)]) (st := [.int r76]) (d := 64) X dL_law_707 wm_L_92 my_X11_game mv_X11_game zo_68 rfl (Nat.le_of_ble_eq_true rfl) ⟨by decide, by decide⟩ ⟨hkc, hks⟩ (x_fM_game hG 64 (by decide) (xs (a2 + 1).toNatClampNeg) m77 _ (zw_b2 h)) (fun r78 m79 q => ?_)
      replace h := q
      refine zr_icmp_eq (tgt := 1331) X dL_law_710 (by decide) (fun q => ?_) (fun q => ?_)
      · rw [if_pos q] at h
        refine zr_iinc (v := a2 + 6) (lo' := [(3, .int (a2 + 6)), (0, .ref b), (1, .ref (S.heap.size + 0)), (2, .ref (S.heap.size + 68))]) X dL_law_1331 3 rfl rfl (by decide) rfl ?_
        refine zr_goto (tgt := 18) X dL_law_1334 (by decide) ?_
        have h := hl1 _ h
        exact zr_sub [1, 2, 3, 0] rfl h
      · rw [if_neg q] at h
        refine zr_iconst (v := 0) X dL_law_713 (by decide) ?_
        have h := hr1 _ h
        exact zr_lawret X dL_law_714 (hP _ h)
    have hJ715 : zw (fLaw_j715 L xs a2 m3) P1 → zv_V S D cA p l e room_1 S mi #[Value.ref b] below meth c 4 (lw_Z below #[Value.ref b] S) kc ks 715 [(0, .ref b), (1, .ref (S.heap.size + 0)), (2, .ref (S.heap.size + 68)), (3, .int a2)] [] SH0 m3 := by
      intro h
      rw [fLaw_j715] at h
      refine zr_aload_n X dL_law_715 1 rfl ?_
      refine zr_aload_n X dL_law_716 0 rfl ?_
      refine zr_iload_n X dL_law_717 3 rfl ?_
      refine zr_iconst (v := 1) X dL_law_718 (by decide) ?_
      refine zr_iadd X dL_law_719 ?_
      obtain ⟨g0, h⟩ := zg_e h
      refine zr_xld X hX hbl dL_law_720 (zI_in g0) ?_
      refine zr_callV_i (As := [.int (xs (a2 + 1).toNatClampNeg)]) (st := []) (d := 64) X dL_law_721 wm_L_93 my_X10_turned mv_X10_turned zo_0 rfl (Nat.le_of_ble_eq_true rfl) ⟨by decide, by decide⟩ ⟨hkc, hks⟩ (x_fN_turned hG 64 (by decide) (xs (a2 + 1).toNatClampNeg) m3 _ (zw_b1 h)) (fun r80 m81 q => ?_)
      obtain ⟨rfl, h⟩ := q
      refine zr_aload_n X dL_law_724 2 rfl ?_
      refine zr_aload_n X dL_law_725 0 rfl ?_
      refine zr_iload_n X dL_law_726 3 rfl ?_
      refine zr_iconst (v := 1) X dL_law_727 (by decide) ?_
      refine zr_iadd X dL_law_728 ?_
      obtain ⟨g0, h⟩ := zg_e h
      refine zr_xld X hX hbl dL_law_729 (zI_in g0) ?_
      refine zr_callV_i (As := [.int (xs (a2 + 1).toNatClampNeg)]) (st := [.int r80]) (d := 64) X dL_law_730 wm_L_96 my_X11_turned mv_X11_turned zo_68 rfl (Nat.le_of_ble_eq_true rfl) ⟨by decide, by decide⟩ ⟨hkc, hks⟩ (x_fM_turned hG 64 (by decide) (xs (a2 + 1).toNatClampNeg) m3 _ (zw_b1 h)) (fun r82 m83 q => ?_)
      obtain ⟨rfl, h⟩ := q
      refine zr_icmp_eq (tgt := 1331) X dL_law_733 (by decide) (fun q => ?_) (fun q => ?_)
      · rw [if_pos q] at h
        refine zr_iinc (v := a2 + 6) (lo' := [(3, .int (a2 + 6)), (0, .ref b), (1, .ref (S.heap.size + 0)), (2, .ref (S.heap.size + 68))]) X dL_law_1331 3 rfl rfl (by decide) rfl ?_
        refine zr_goto (tgt := 18) X dL_law_1334 (by decide) ?_
        have h := hl1 _ h
        exact zr_sub [1, 2, 3, 0] rfl h
      · rw [if_neg q] at h
        refine zr_iconst (v := 0) X dL_law_736 (by decide) ?_
        have h := hr1 _ h
        exact zr_lawret X dL_law_737 (hP _ h)
    have hJ738 : zw (fLaw_j738 a2 m3) P1 → zv_V S D cA p l e room_1 S mi #[Value.ref b] below meth c 4 (lw_Z below #[Value.ref b] S) kc ks 738 [(0, .ref b), (1, .ref (S.heap.size + 0)), (2, .ref (S.heap.size + 68)), (3, .int a2)] [] SH0 m3 := by
      intro h
      rw [fLaw_j738] at h
      refine zr_aload_n X dL_law_738 1 rfl ?_
      refine zr_callV_i (As := []) (st := []) (d := 64) X dL_law_739 wm_L_97 my_X10_alike mv_X10_alike zo_0 rfl (Nat.le_of_ble_eq_true rfl) ⟨by decide, by decide⟩ ⟨hkc, hks⟩ (x_fN_alike hG 64 (by decide) m3 _ (zw_b1 h)) (fun r84 m85 q => ?_)
      obtain ⟨rfl, h⟩ := q
      refine zr_aload_n X dL_law_742 2 rfl ?_
      refine zr_callV_i (As := []) (st := [.int r84]) (d := 64) X dL_law_743 wm_L_100 my_X11_alike mv_X11_alike zo_68 rfl (Nat.le_of_ble_eq_true rfl) ⟨by decide, by decide⟩ ⟨hkc, hks⟩ (x_fM_alike hG 64 (by decide) m3 _ (zw_b1 h)) (fun r86 m87 q => ?_)
      obtain ⟨rfl, h⟩ := q
      refine zr_icmp_eq (tgt := 1331) X dL_law_746 (by decide) (fun q => ?_) (fun q => ?_)
      · rw [if_pos q] at h
        refine zr_iinc (v := a2 + 6) (lo' := [(3, .int (a2 + 6)), (0, .ref b), (1, .ref (S.heap.size + 0)), (2, .ref (S.heap.size + 68))]) X dL_law_1331 3 rfl rfl (by decide) rfl ?_
        refine zr_goto (tgt := 18) X dL_law_1334 (by decide) ?_
        have h := hl1 _ h
        exact zr_sub [1, 2, 3, 0] rfl h
      · rw [if_neg q] at h
        refine zr_iconst (v := 0) X dL_law_749 (by decide) ?_
        have h := hr1 _ h
        exact zr_lawret X dL_law_750 (hP _ h)
    have hJ751 : zw (fLaw_j751 L xs a2 m3) P1 → zv_V S D cA p l e room_1 S mi #[Value.ref b] below meth c 4 (lw_Z below #[Value.ref b] S) kc ks 751 [(0, .ref b), (1, .ref (S.heap.size + 0)), (2, .ref (S.heap.size + 68)), (3, .int a2)] [] SH0 m3 := by
      intro h
      rw [fLaw_j751] at h
      refine zr_aload_n X dL_law_751 1 rfl ?_
      refine zr_aload_n X dL_law_752 0 rfl ?_
      refine zr_iload_n X dL_law_753 3 rfl ?_
      refine zr_iconst (v := 1) X dL_law_754 (by decide) ?_
      refine zr_iadd X dL_law_755 ?_
      obtain ⟨g0, h⟩ := zg_e h
      refine zr_xld X hX hbl dL_law_756 (zI_in g0) ?_
      refine zr_callV_i (As := [.int (xs (a2 + 1).toNatClampNeg)]) (st := []) (d := 64) X dL_law_757 wm_L_101 my_X10_aim mv_X10_aim zo_0 rfl (Nat.le_of_ble_eq_true rfl) ⟨by decide, by decide⟩ ⟨hkc, hks⟩ (x_fN_aim hG 64 (by decide) (xs (a2 + 1).toNatClampNeg) m3 _ (zw_b2 h)) (fun r88 m89 q => ?_)
      replace h := q
      refine zr_aload_n X dL_law_760 2 rfl ?_
      refine zr_aload_n X dL_law_761 0 rfl ?_
      refine zr_iload_n X dL_law_762 3 rfl ?_
      refine zr_iconst (v := 1) X dL_law_763 (by decide) ?_
      refine zr_iadd X dL_law_764 ?_
      obtain ⟨g0, h⟩ := zg_e h
      refine zr_xld X hX hbl dL_law_765 (zI_in g0) ?_
      refine zr_callV_i (As := [.int (xs (a2 + 1).toNatClampNeg)]) (st := [.int r88]) (d := 64) X dL_law_766 wm_L_104 my_X11_aim mv_X11_aim zo_68 rfl (Nat.le_of_ble_eq_true rfl) ⟨by decide, by decide⟩ ⟨hkc, hks⟩ (x_fM_aim hG 64 (by decide) (xs (a2 + 1).toNatClampNeg) m89 _ (zw_b2 h)) (fun r90 m91 q => ?_)
      replace h := q
      refine zr_icmp_eq (tgt := 1331) X dL_law_769 (by decide) (fun q => ?_) (fun q => ?_)
      · rw [if_pos q] at h
        refine zr_iinc (v := a2 + 6) (lo' := [(3, .int (a2 + 6)), (0, .ref b), (1, .ref (S.heap.size + 0)), (2, .ref (S.heap.size + 68))]) X dL_law_1331 3 rfl rfl (by decide) rfl ?_
        refine zr_goto (tgt := 18) X dL_law_1334 (by decide) ?_
        have h := hl1 _ h
        exact zr_sub [1, 2, 3, 0] rfl h
      · rw [if_neg q] at h
        refine zr_iconst (v := 0) X dL_law_772 (by decide) ?_
        have h := hr1 _ h
        exact zr_lawret X dL_law_773 (hP _ h)
    have hJ774 : zw (fLaw_j774 a2 m3) P1 → zv_V S D cA p l e room_1 S mi #[Value.ref b] below meth c 4 (lw_Z below #[Value.ref b] S) kc ks 774 [(0, .ref b), (1, .ref (S.heap.size + 0)), (2, .ref (S.heap.size + 68)), (3, .int a2)] [] SH0 m3 := by
      intro h
      rw [fLaw_j774] at h
      refine zr_aload_n X dL_law_774 1 rfl ?_
      refine zr_callV_i (As := []) (st := []) (d := 64) X dL_law_775 wm_L_105 my_X10_reach mv_X10_reach zo_0 rfl (Nat.le_of_ble_eq_true rfl) ⟨by decide, by decide⟩ ⟨hkc, hks⟩ (x_fN_reach hG 64 (by decide) m3 _ (zw_b2 h)) (fun r92 m93 q => ?_)
      replace h := q
      refine zr_aload_n X dL_law_778 2 rfl ?_
      refine zr_callV_i (As := []) (st := [.int r92]) (d := 64) X dL_law_779 wm_L_108 my_X11_reach mv_X11_reach zo_68 rfl (Nat.le_of_ble_eq_true rfl) ⟨by decide, by decide⟩ ⟨hkc, hks⟩ (x_fM_reach hG 64 (by decide) m93 _ (zw_b2 h)) (fun r94 m95 q => ?_)
      replace h := q
      refine zr_icmp_eq (tgt := 1331) X dL_law_782 (by decide) (fun q => ?_) (fun q => ?_)
      · rw [if_pos q] at h
        refine zr_iinc (v := a2 + 6) (lo' := [(3, .int (a2 + 6)), (0, .ref b), (1, .ref (S.heap.size + 0)), (2, .ref (S.heap.size + 68))]) X dL_law_1331 3 rfl rfl (by decide) rfl ?_
        refine zr_goto (tgt := 18) X dL_law_1334 (by decide) ?_
        have h := hl1 _ h
        exact zr_sub [1, 2, 3, 0] rfl h
      · rw [if_neg q] at h
        refine zr_iconst (v := 0) X dL_law_785 (by decide) ?_
        have h := hr1 _ h
        exact zr_lawret X dL_law_786 (hP _ h)
    have hJ787 : zw (fLaw_j787 L xs a2 m3) P1 → zv_V S D cA p l e room_1 S mi #[Value.ref b] below meth c 4 (lw_Z below #[Value.ref b] S) kc ks 787 [(0, .ref b), (1, .ref (S.heap.size + 0)), (2, .ref (S.heap.size + 68)), (3, .int a2)] [] SH0 m3 := by
      intro h
      rw [fLaw_j787] at h
      refine zr_aload_n X dL_law_787 1 rfl ?_
      refine zr_aload_n X dL_law_788 0 rfl ?_
      refine zr_iload_n X dL_law_789 3 rfl ?_
      refine zr_iconst (v := 1) X dL_law_790 (by decide) ?_
      refine zr_iadd X dL_law_791 ?_
      obtain ⟨g0, h⟩ := zg_e h
      refine zr_xld X hX hbl dL_law_792 (zI_in g0) ?_
      refine zr_aload_n X dL_law_793 0 rfl ?_
      refine zr_iload_n X dL_law_794 3 rfl ?_
      refine zr_iconst (v := 2) X dL_law_795 (by decide) ?_
      refine zr_iadd X dL_law_796 ?_
      obtain ⟨g0, h⟩ := zg_e h
      refine zr_xld X hX hbl dL_law_797 (zI_in g0) ?_
      refine zr_callV_i (As := [.int (xs (a2 + 1).toNatClampNeg), .int (xs (a2 + 2).toNatClampNeg)]) (st := []) (d := 64) X dL_law_798 wm_L_109 my_X10_see mv_X10_see zo_0 rfl (Nat.le_of_ble_eq_true rfl) ⟨by decide, by decide⟩ ⟨hkc, hks⟩ (x_fN_see hG 64 (by decide) (xs (a2 + 1).toNatClampNeg) (xs (a2 + 2).toNatClampNeg) m3 _ (zw_b2 h)) (fun r96 m97 q => ?_)
      replace h := q
      refine zr_aload_n X dL_law_801 2 rfl ?_
      refine zr_aload_n X dL_law_802 0 rfl ?_
      refine zr_iload_n X dL_law_803 3 rfl ?_
      refine zr_iconst (v := 1) X dL_law_804 (by decide) ?_
      refine zr_iadd X dL_law_805 ?_
      obtain ⟨g0, h⟩ := zg_e h
      refine zr_xld X hX hbl dL_law_806 (zI_in g0) ?_
      refine zr_aload_n X dL_law_807 0 rfl ?_
      refine zr_iload_n X dL_law_808 3 rfl ?_
      refine zr_iconst (v := 2) X dL_law_809 (by decide) ?_
      refine zr_iadd X dL_law_810 ?_
      obtain ⟨g0, h⟩ := zg_e h
      refine zr_xld X hX hbl dL_law_811 (zI_in g0) ?_
      refine zr_callV_i (As := [.int (xs (a2 + 1).toNatClampNeg), .int (xs (a2 + 2).toNatClampNeg)]) (st := [.int r96]) (d := 64) X dL_law_812 wm_L_112 my_X11_see mv_X11_see zo_68 rfl (Nat.le_of_ble_eq_true rfl) ⟨by decide, by decide⟩ ⟨hkc, hks⟩ (x_fM_see hG 64 (by decide) (xs (a2 + 1).toNatClampNeg) (xs (a2 + 2).toNatClampNeg) m97 _ (zw_b2 h)) (fun r98 m99 q => ?_)
      replace h := q
      refine zr_icmp_eq (tgt := 1331) X dL_law_815 (by decide) (fun q => ?_) (fun q => ?_)
      · rw [if_pos q] at h
        refine zr_iinc (v := a2 + 6) (lo' := [(3, .int (a2 + 6)), (0, .ref b), (1, .ref (S.heap.size + 0)), (2, .ref (S.heap.size + 68))]) X dL_law_1331 3 rfl rfl (by decide) rfl ?_
        refine zr_goto (tgt := 18) X dL_law_1334 (by decide) ?_
        have h := hl1 _ h
        exact zr_sub [1, 2, 3, 0] rfl h
      · rw [if_neg q] at h
        refine zr_iconst (v := 0) X dL_law_818 (by decide) ?_
        have h := hr1 _ h
        exact zr_lawret X dL_law_819 (hP _ h)
    have hJ820 : zw (fLaw_j820 L xs a2 m3) P1 → zv_V S D cA p l e room_1 S mi #[Value.ref b] below meth c 4 (lw_Z below #[Value.ref b] S) kc ks 820 [(0, .ref b), (1, .ref (S.heap.size + 0)), (2, .ref (S.heap.size + 68)), (3, .int a2)] [] SH0 m3 := by
      intro h
      rw [fLaw_j820] at h
      refine zr_aload_n X dL_law_820 1 rfl ?_
      refine zr_aload_n X dL_law_821 0 rfl ?_
      refine zr_iload_n X dL_law_822 3 rfl ?_
      refine zr_iconst (v := 1) X dL_law_823 (by decide) ?_
      refine zr_iadd X dL_law_824 ?_
      obtain ⟨g0, h⟩ := zg_e h
      refine zr_xld X hX hbl dL_law_825 (zI_in g0) ?_
      refine zr_callV_i (As := [.int (xs (a2 + 1).toNatClampNeg)]) (st := []) (d := 64) X dL_law_826 wm_L_113 my_X10_rubbed mv_X10_rubbed zo_0 rfl (Nat.le_of_ble_eq_true rfl) ⟨by decide, by decide⟩ ⟨hkc, hks⟩ (x_fN_rubbed hG 64 (by decide) (xs (a2 + 1).toNatClampNeg) m3 _ (zw_b2 h)) (fun r100 m101 q => ?_)
      replace h := q
      refine zr_aload_n X dL_law_829 2 rfl ?_
      refine zr_aload_n X dL_law_830 0 rfl ?_
      refine zr_iload_n X dL_law_831 3 rfl ?_
      refine zr_iconst (v := 1) X dL_law_832 (by decide) ?_
      refine zr_iadd X dL_law_833 ?_
      obtain ⟨g0, h⟩ := zg_e h
      refine zr_xld X hX hbl dL_law_834 (zI_in g0) ?_
      refine zr_callV_i (As := [.int (xs (a2 + 1).toNatClampNeg)]) (st := [.int r100]) (d := 64) X dL_law_835 wm_L_116 my_X11_rubbed mv_X11_rubbed zo_68 rfl (Nat.le_of_ble_eq_true rfl) ⟨by decide, by decide⟩ ⟨hkc, hks⟩ (x_fM_rubbed hG 64 (by decide) (xs (a2 + 1).toNatClampNeg) m101 _ (zw_b2 h)) (fun r102 m103 q => ?_)
      replace h := q
      refine zr_icmp_eq (tgt := 1331) X dL_law_838 (by decide) (fun q => ?_) (fun q => ?_)
      · rw [if_pos q] at h
        refine zr_iinc (v := a2 + 6) (lo' := [(3, .int (a2 + 6)), (0, .ref b), (1, .ref (S.heap.size + 0)), (2, .ref (S.heap.size + 68))]) X dL_law_1331 3 rfl rfl (by decide) rfl ?_
        refine zr_goto (tgt := 18) X dL_law_1334 (by decide) ?_
        have h := hl1 _ h
        exact zr_sub [1, 2, 3, 0] rfl h
      · rw [if_neg q] at h
        refine zr_iconst (v := 0) X dL_law_841 (by decide) ?_
        have h := hr1 _ h
        exact zr_lawret X dL_law_842 (hP _ h)
    have hJ843 : zw (fLaw_j843 L xs a2 m3) P1 → zv_V S D cA p l e room_1 S mi #[Value.ref b] below meth c 4 (lw_Z below #[Value.ref b] S) kc ks 843 [(0, .ref b), (1, .ref (S.heap.size + 0)), (2, .ref (S.heap.size + 68)), (3, .int a2)] [] SH0 m3 := by
      intro h
      rw [fLaw_j843] at h
      refine zr_aload_n X dL_law_843 1 rfl ?_
      refine zr_aload_n X dL_law_844 0 rfl ?_
      refine zr_iload_n X dL_law_845 3 rfl ?_
      refine zr_iconst (v := 1) X dL_law_846 (by decide) ?_
      refine zr_iadd X dL_law_847 ?_
      obtain ⟨g0, h⟩ := zg_e h
      refine zr_xld X hX hbl dL_law_848 (zI_in g0) ?_
      refine zr_aload_n X dL_law_849 0 rfl ?_
      refine zr_iload_n X dL_law_850 3 rfl ?_
      refine zr_iconst (v := 2) X dL_law_851 (by decide) ?_
      refine zr_iadd X dL_law_852 ?_
      obtain ⟨g0, h⟩ := zg_e h
      refine zr_xld X hX hbl dL_law_853 (zI_in g0) ?_
      refine zr_callV_l (As := [.int (xs (a2 + 1).toNatClampNeg), .int (xs (a2 + 2).toNatClampNeg)]) (st := []) (d := 64) X dL_law_854 wm_L_117 my_X10_odds mv_X10_odds zo_0 rfl (Nat.le_of_ble_eq_true rfl) ⟨by decide, by decide⟩ ⟨hkc, hks⟩ (x_fN_odds hG 64 (by decide) (xs (a2 + 1).toNatClampNeg) (xs (a2 + 2).toNatClampNeg) m3 _ (zw_b2 h)) (fun r104 m105 q => ?_)
      replace h := q
      refine zr_aload_n X dL_law_857 2 rfl ?_
      refine zr_aload_n X dL_law_858 0 rfl ?_
      refine zr_iload_n X dL_law_859 3 rfl ?_
      refine zr_iconst (v := 1) X dL_law_860 (by decide) ?_
      refine zr_iadd X dL_law_861 ?_
      obtain ⟨g0, h⟩ := zg_e h
      refine zr_xld X hX hbl dL_law_862 (zI_in g0) ?_
      refine zr_aload_n X dL_law_863 0 rfl ?_
      refine zr_iload_n X dL_law_864 3 rfl ?_
      refine zr_iconst (v := 2) X dL_law_865 (by decide) ?_
      refine zr_iadd X dL_law_866 ?_
      obtain ⟨g0, h⟩ := zg_e h
      refine zr_xld X hX hbl dL_law_867 (zI_in g0) ?_
      refine zr_callV_l (As := [.int (xs (a2 + 1).toNatClampNeg), .int (xs (a2 + 2).toNatClampNeg)]) (st := [.long r104]) (d := 64) X dL_law_868 wm_L_121 my_X11_odds mv_X11_odds zo_68 rfl (Nat.le_of_ble_eq_true rfl) ⟨by decide, by decide⟩ ⟨hkc, hks⟩ (x_fM_odds hG 64 (by decide) (xs (a2 + 1).toNatClampNeg) (xs (a2 + 2).toNatClampNeg) m105 _ (zw_b1 h)) (fun r106 m107 q => ?_)
      obtain ⟨rfl, h⟩ := q
      refine zr_lcmp X dL_law_871 ?_
      refine zr_if_eq (tgt := 1331) X dL_law_872 (by decide) (fun q => ?_) (fun q => ?_)
      · rw [if_pos q] at h
        refine zr_iinc (v := a2 + 6) (lo' := [(3, .int (a2 + 6)), (0, .ref b), (1, .ref (S.heap.size + 0)), (2, .ref (S.heap.size + 68))]) X dL_law_1331 3 rfl rfl (by decide) rfl ?_
        refine zr_goto (tgt := 18) X dL_law_1334 (by decide) ?_
        have h := hl1 _ h
        exact zr_sub [1, 2, 3, 0] rfl h
      · rw [if_neg q] at h
        refine zr_iconst (v := 0) X dL_law_875 (by decide) ?_
        have h := hr1 _ h
        exact zr_lawret X dL_law_876 (hP _ h)
    have hJ877 : zw (fLaw_j877 L xs a2 m3) P1 → zv_V S D cA p l e room_1 S mi #[Value.ref b] below meth c 4 (lw_Z below #[Value.ref b] S) kc ks 877 [(0, .ref b), (1, .ref (S.heap.size + 0)), (2, .ref (S.heap.size + 68)), (3, .int a2)] [] SH0 m3 := by
      intro h
      rw [fLaw_j877] at h
      refine zr_aload_n X dL_law_877 1 rfl ?_
      refine zr_aload_n X dL_law_878 0 rfl ?_
      refine zr_iload_n X dL_law_879 3 rfl ?_
      refine zr_iconst (v := 1) X dL_law_880 (by decide) ?_
      refine zr_iadd X dL_law_881 ?_
      obtain ⟨g0, h⟩ := zg_e h
      refine zr_xld X hX hbl dL_law_882 (zI_in g0) ?_
      refine zr_callV_l (As := [.int (xs (a2 + 1).toNatClampNeg)]) (st := []) (d := 64) X dL_law_883 wm_L_122 my_X10_mean mv_X10_mean zo_0 rfl (Nat.le_of_ble_eq_true rfl) ⟨by decide, by decide⟩ ⟨hkc, hks⟩ (x_fN_mean hG 64 (by decide) (xs (a2 + 1).toNatClampNeg) m3 _ (zw_b2 h)) (fun r108 m109 q => ?_)
      replace h := q
      refine zr_aload_n X dL_law_886 2 rfl ?_
      refine zr_aload_n X dL_law_887 0 rfl ?_
      refine zr_iload_n X dL_law_888 3 rfl ?_
      refine zr_iconst (v := 1) X dL_law_889 (by decide) ?_
      refine zr_iadd X dL_law_890 ?_
      obtain ⟨g0, h⟩ := zg_e h
      refine zr_xld X hX hbl dL_law_891 (zI_in g0) ?_
      refine zr_callV_l (As := [.int (xs (a2 + 1).toNatClampNeg)]) (st := [.long r108]) (d := 64) X dL_law_892 wm_L_126 my_X11_mean mv_X11_mean zo_68 rfl (Nat.le_of_ble_eq_true rfl) ⟨by decide, by decide⟩ ⟨hkc, hks⟩ (x_fM_mean hG 64 (by decide) (xs (a2 + 1).toNatClampNeg) m109 _ (zw_b1 h)) (fun r110 m111 q => ?_)
      obtain ⟨rfl, h⟩ := q
      refine zr_lcmp X dL_law_895 ?_
      refine zr_if_eq (tgt := 1331) X dL_law_896 (by decide) (fun q => ?_) (fun q => ?_)
      · rw [if_pos q] at h
        refine zr_iinc (v := a2 + 6) (lo' := [(3, .int (a2 + 6)), (0, .ref b), (1, .ref (S.heap.size + 0)), (2, .ref (S.heap.size + 68))]) X dL_law_1331 3 rfl rfl (by decide) rfl ?_
        refine zr_goto (tgt := 18) X dL_law_1334 (by decide) ?_
        have h := hl1 _ h
        exact zr_sub [1, 2, 3, 0] rfl h
      · rw [if_neg q] at h
        refine zr_iconst (v := 0) X dL_law_899 (by decide) ?_
        have h := hr1 _ h
        exact zr_lawret X dL_law_900 (hP _ h)
    have hJ901 : zw (fLaw_j901 L xs a2 m3) P1 → zv_V S D cA p l e room_1 S mi #[Value.ref b] below meth c 4 (lw_Z below #[Value.ref b] S) kc ks 901 [(0, .ref b), (1, .ref (S.heap.size + 0)), (2, .ref (S.heap.size + 68)), (3, .int a2)] [] SH0 m3 := by
      intro h
      rw [fLaw_j901] at h
      refine zr_aload_n X dL_law_901 1 rfl ?_
      refine zr_aload_n X dL_law_902 0 rfl ?_
      refine zr_iload_n X dL_law_903 3 rfl ?_
      refine zr_iconst (v := 1) X dL_law_904 (by decide) ?_
      refine zr_iadd X dL_law_905 ?_
      obtain ⟨g0, h⟩ := zg_e h
      refine zr_xld X hX hbl dL_law_906 (zI_in g0) ?_
      refine zr_callV_i (As := [.int (xs (a2 + 1).toNatClampNeg)]) (st := []) (d := 64) X dL_law_907 wm_L_127 my_X10_book mv_X10_book zo_0 rfl (Nat.le_of_ble_eq_true rfl) ⟨by decide, by decide⟩ ⟨hkc, hks⟩ (x_fN_book hG 64 (by decide) (xs (a2 + 1).toNatClampNeg) m3 _ (zw_b2 h)) (fun r112 m113 q => ?_)
      replace h := q
      refine zr_aload_n X dL_law_910 2 rfl ?_
      refine zr_aload_n X dL_law_911 0 rfl ?_
      refine zr_iload_n X dL_law_912 3 rfl ?_
      refine zr_iconst (v := 1) X dL_law_913 (by decide) ?_
      refine zr_iadd X dL_law_914 ?_
      obtain ⟨g0, h⟩ := zg_e h
      refine zr_xld X hX hbl dL_law_915 (zI_in g0) ?_
      refine zr_callV_i (As := [.int (xs (a2 + 1).toNatClampNeg)]) (st := [.int r112]) (d := 64) X dL_law_916 wm_L_130 my_X11_book mv_X11_book zo_68 rfl (Nat.le_of_ble_eq_true rfl) ⟨by decide, by decide⟩ ⟨hkc, hks⟩ (x_fM_book hG 64 (by decide) (xs (a2 + 1).toNatClampNeg) m113 _ (zw_b2 h)) (fun r114 m115 q => ?_)
      replace h := q
      refine zr_icmp_eq (tgt := 1331) X dL_law_919 (by decide) (fun q => ?_) (fun q => ?_)
      · rw [if_pos q] at h
        refine zr_iinc (v := a2 + 6) (lo' := [(3, .int (a2 + 6)), (0, .ref b), (1, .ref (S.heap.size + 0)), (2, .ref (S.heap.size + 68))]) X dL_law_1331 3 rfl rfl (by decide) rfl ?_
        refine zr_goto (tgt := 18) X dL_law_1334 (by decide) ?_
        have h := hl1 _ h
        exact zr_sub [1, 2, 3, 0] rfl h
      · rw [if_neg q] at h
        refine zr_iconst (v := 0) X dL_law_922 (by decide) ?_
        have h := hr1 _ h
        exact zr_lawret X dL_law_923 (hP _ h)
    have hJ924 : zw (fLaw_j924 a2 m3) P1 → zv_V S D cA p l e room_1 S mi #[Value.ref b] below meth c 4 (lw_Z below #[Value.ref b] S) kc ks 924 [(0, .ref b), (1, .ref (S.heap.size + 0)), (2, .ref (S.heap.size + 68)), (3, .int a2)] [] SH0 m3 := by
      intro h
      rw [fLaw_j924] at h
      refine zr_aload_n X dL_law_924 1 rfl ?_
      refine zr_callV_i (As := []) (st := []) (d := 64) X dL_law_925 wm_L_131 my_X10_looked mv_X10_looked zo_0 rfl (Nat.le_of_ble_eq_true rfl) ⟨by decide, by decide⟩ ⟨hkc, hks⟩ (x_fN_looked hG 64 (by decide) m3 _ (zw_b1 h)) (fun r116 m117 q => ?_)
      obtain ⟨rfl, h⟩ := q
      refine zr_aload_n X dL_law_928 2 rfl ?_
      refine zr_callV_i (As := []) (st := [.int r116]) (d := 64) X dL_law_929 wm_L_134 my_X11_looked mv_X11_looked zo_68 rfl (Nat.le_of_ble_eq_true rfl) ⟨by decide, by decide⟩ ⟨hkc, hks⟩ (x_fM_looked hG 64 (by decide) m3 _ (zw_b1 h)) (fun r118 m119 q => ?_)
      obtain ⟨rfl, h⟩ := q
      refine zr_icmp_eq (tgt := 1331) X dL_law_932 (by decide) (fun q => ?_) (fun q => ?_)
      · rw [if_pos q] at h
        refine zr_iinc (v := a2 + 6) (lo' := [(3, .int (a2 + 6)), (0, .ref b), (1, .ref (S.heap.size + 0)), (2, .ref (S.heap.size + 68))]) X dL_law_1331 3 rfl rfl (by decide) rfl ?_
        refine zr_goto (tgt := 18) X dL_law_1334 (by decide) ?_
        have h := hl1 _ h
        exact zr_sub [1, 2, 3, 0] rfl h
      · rw [if_neg q] at h
        refine zr_iconst (v := 0) X dL_law_935 (by decide) ?_
        have h := hr1 _ h
        exact zr_lawret X dL_law_936 (hP _ h)
    have hJ937 : zw (fLaw_j937 L xs a2 m3) P1 → zv_V S D cA p l e room_1 S mi #[Value.ref b] below meth c 4 (lw_Z below #[Value.ref b] S) kc ks 937 [(0, .ref b), (1, .ref (S.heap.size + 0)), (2, .ref (S.heap.size + 68)), (3, .int a2)] [] SH0 m3 := by
      intro h
      rw [fLaw_j937] at h
      refine zr_aload_n X dL_law_937 1 rfl ?_
      refine zr_aload_n X dL_law_938 0 rfl ?_
      refine zr_iload_n X dL_law_939 3 rfl ?_
      refine zr_iconst (v := 1) X dL_law_940 (by decide) ?_
      refine zr_iadd X dL_law_941 ?_
      obtain ⟨g0, h⟩ := zg_e h
      refine zr_xld X hX hbl dL_law_942 (zI_in g0) ?_
      refine zr_aload_n X dL_law_943 0 rfl ?_
      refine zr_iload_n X dL_law_944 3 rfl ?_
      refine zr_iconst (v := 2) X dL_law_945 (by decide) ?_
      refine zr_iadd X dL_law_946 ?_
      obtain ⟨g0, h⟩ := zg_e h
      refine zr_xld X hX hbl dL_law_947 (zI_in g0) ?_
      refine zr_callV_i (As := [.int (xs (a2 + 1).toNatClampNeg), .int (xs (a2 + 2).toNatClampNeg)]) (st := []) (d := 64) X dL_law_948 wm_L_135 my_X10_judge mv_X10_judge zo_0 rfl (Nat.le_of_ble_eq_true rfl) ⟨by decide, by decide⟩ ⟨hkc, hks⟩ (x_fN_judge hG 64 (by decide) (xs (a2 + 1).toNatClampNeg) (xs (a2 + 2).toNatClampNeg) m3 _ (zw_b1 h)) (fun r120 m121 q => ?_)
      obtain ⟨rfl, h⟩ := q
      refine zr_aload_n X dL_law_951 2 rfl ?_
      refine zr_aload_n X dL_law_952 0 rfl ?_
      refine zr_iload_n X dL_law_953 3 rfl ?_
      refine zr_iconst (v := 1) X dL_law_954 (by decide) ?_
      refine zr_iadd X dL_law_955 ?_
      obtain ⟨g0, h⟩ := zg_e h
      refine zr_xld X hX hbl dL_law_956 (zI_in g0) ?_
      refine zr_aload_n X dL_law_957 0 rfl ?_
      refine zr_iload_n X dL_law_958 3 rfl ?_
      refine zr_iconst (v := 2) X dL_law_959 (by decide) ?_
      refine zr_iadd X dL_law_960 ?_
      obtain ⟨g0, h⟩ := zg_e h
      refine zr_xld X hX hbl dL_law_961 (zI_in g0) ?_
      refine zr_callV_i (As := [.int (xs (a2 + 1).toNatClampNeg), .int (xs (a2 + 2).toNatClampNeg)]) (st := [.int r120]) (d := 64) X dL_law_962 wm_L_138 my_X11_judge mv_X11_judge zo_68 rfl (Nat.le_of_ble_eq_true rfl) ⟨by decide, by decide⟩ ⟨hkc, hks⟩ (x_fM_judge hG 64 (by decide) (xs (a2 + 1).toNatClampNeg) (xs (a2 + 2).toNatClampNeg) m3 _ (zw_b1 h)) (fun r122 m123 q => ?_)
      obtain ⟨rfl, h⟩ := q
      refine zr_icmp_eq (tgt := 1331) X dL_law_965 (by decide) (fun q => ?_) (fun q => ?_)
      · rw [if_pos q] at h
        refine zr_iinc (v := a2 + 6) (lo' := [(3, .int (a2 + 6)), (0, .ref b), (1, .ref (S.heap.size + 0)), (2, .ref (S.heap.size + 68))]) X dL_law_1331 3 rfl rfl (by decide) rfl ?_
        refine zr_goto (tgt := 18) X dL_law_1334 (by decide) ?_
        have h := hl1 _ h
        exact zr_sub [1, 2, 3, 0] rfl h
      · rw [if_neg q] at h
        refine zr_iconst (v := 0) X dL_law_968 (by decide) ?_
        have h := hr1 _ h
        exact zr_lawret X dL_law_969 (hP _ h)
    have hJ970 : zw (fLaw_j970 a2 m3) P1 → zv_V S D cA p l e room_1 S mi #[Value.ref b] below meth c 4 (lw_Z below #[Value.ref b] S) kc ks 970 [(0, .ref b), (1, .ref (S.heap.size + 0)), (2, .ref (S.heap.size + 68)), (3, .int a2)] [] SH0 m3 := by
      intro h
      rw [fLaw_j970] at h
      refine zr_aload_n X dL_law_970 1 rfl ?_
      refine zr_callV_i (As := []) (st := []) (d := 64) X dL_law_971 wm_L_139 my_X10_image mv_X10_image zo_0 rfl (Nat.le_of_ble_eq_true rfl) ⟨by decide, by decide⟩ ⟨hkc, hks⟩ (x_fN_image hG 64 (by decide) m3 _ (zw_b2 h)) (fun r124 m125 q => ?_)
      replace h := q
      refine zr_aload_n X dL_law_974 2 rfl ?_
      refine zr_callV_i (As := []) (st := [.int r124]) (d := 64) X dL_law_975 wm_L_142 my_X11_image mv_X11_image zo_68 rfl (Nat.le_of_ble_eq_true rfl) ⟨by decide, by decide⟩ ⟨hkc, hks⟩ (x_fM_image hG 64 (by decide) m125 _ (zw_b2 h)) (fun r126 m127 q => ?_)
      replace h := q
      refine zr_icmp_eq (tgt := 1331) X dL_law_978 (by decide) (fun q => ?_) (fun q => ?_)
      · rw [if_pos q] at h
        refine zr_iinc (v := a2 + 6) (lo' := [(3, .int (a2 + 6)), (0, .ref b), (1, .ref (S.heap.size + 0)), (2, .ref (S.heap.size + 68))]) X dL_law_1331 3 rfl rfl (by decide) rfl ?_
        refine zr_goto (tgt := 18) X dL_law_1334 (by decide) ?_
        have h := hl1 _ h
        exact zr_sub [1, 2, 3, 0] rfl h
      · rw [if_neg q] at h
        refine zr_iconst (v := 0) X dL_law_981 (by decide) ?_
        have h := hr1 _ h
        exact zr_lawret X dL_law_982 (hP _ h)
    have hJ983 : zw (fLaw_j983 a2 m3) P1 → zv_V S D cA p l e room_1 S mi #[Value.ref b] below meth c 4 (lw_Z below #[Value.ref b] S) kc ks 983 [(0, .ref b), (1, .ref (S.heap.size + 0)), (2, .ref (S.heap.size + 68)), (3, .int a2)] [] SH0 m3 := by
      intro h
      rw [fLaw_j983] at h
      refine zr_aload_n X dL_law_983 1 rfl ?_
      refine zr_callV_i (As := []) (st := []) (d := 64) X dL_law_984 wm_L_143 my_X10_undo mv_X10_undo zo_0 rfl (Nat.le_of_ble_eq_true rfl) ⟨by decide, by decide⟩ ⟨hkc, hks⟩ (x_fN_undo hG 64 (by decide) m3 _ (zw_b2 h)) (fun r128 m129 q => ?_)
      replace h := q
      refine zr_aload_n X dL_law_987 2 rfl ?_
      refine zr_callV_i (As := []) (st := [.int r128]) (d := 64) X dL_law_988 wm_L_146 my_X11_undo mv_X11_undo zo_68 rfl (Nat.le_of_ble_eq_true rfl) ⟨by decide, by decide⟩ ⟨hkc, hks⟩ (x_fM_undo hG 64 (by decide) m129 _ (zw_b2 h)) (fun r130 m131 q => ?_)
      replace h := q
      refine zr_icmp_eq (tgt := 1331) X dL_law_991 (by decide) (fun q => ?_) (fun q => ?_)
      · rw [if_pos q] at h
        refine zr_iinc (v := a2 + 6) (lo' := [(3, .int (a2 + 6)), (0, .ref b), (1, .ref (S.heap.size + 0)), (2, .ref (S.heap.size + 68))]) X dL_law_1331 3 rfl rfl (by decide) rfl ?_
        refine zr_goto (tgt := 18) X dL_law_1334 (by decide) ?_
        have h := hl1 _ h
        exact zr_sub [1, 2, 3, 0] rfl h
      · rw [if_neg q] at h
        refine zr_iconst (v := 0) X dL_law_994 (by decide) ?_
        have h := hr1 _ h
        exact zr_lawret X dL_law_995 (hP _ h)
    have hJ996 : zw (fLaw_j996 L xs a2 m3) P1 → zv_V S D cA p l e room_1 S mi #[Value.ref b] below meth c 4 (lw_Z below #[Value.ref b] S) kc ks 996 [(0, .ref b), (1, .ref (S.heap.size + 0)), (2, .ref (S.heap.size + 68)), (3, .int a2)] [] SH0 m3 := by
      intro h
      rw [fLaw_j996] at h
      refine zr_aload_n X dL_law_996 1 rfl ?_
      refine zr_aload_n X dL_law_997 0 rfl ?_
      refine zr_iload_n X dL_law_998 3 rfl ?_
      refine zr_iconst (v := 1) X dL_law_999 (by decide) ?_
      refine zr_iadd X dL_law_1000 ?_
      obtain ⟨g0, h⟩ := zg_e h
      refine zr_xld X hX hbl dL_law_1001 (zI_in g0) ?_
      refine zr_aload_n X dL_law_1002 0 rfl ?_
      refine zr_iload_n X dL_law_1003 3 rfl ?_
      refine zr_iconst (v := 2) X dL_law_1004 (by decide) ?_
      refine zr_iadd X dL_law_1005 ?_
      obtain ⟨g0, h⟩ := zg_e h
      refine zr_xld X hX hbl dL_law_1006 (zI_in g0) ?_
      refine zr_aload_n X dL_law_1007 0 rfl ?_
      refine zr_iload_n X dL_law_1008 3 rfl ?_
      refine zr_iconst (v := 3) X dL_law_1009 (by decide) ?_
      refine zr_iadd X dL_law_1010 ?_
      obtain ⟨g0, h⟩ := zg_e h
      refine zr_xld X hX hbl dL_law_1011 (zI_in g0) ?_
      refine zr_callV_i (As := [.int (xs (a2 + 1).toNatClampNeg), .int (xs (a2 + 2).toNatClampNeg), .int (xs (a2 + 3).toNatClampNeg)]) (st := []) (d := 64) X dL_law_1012 wm_L_147 my_X10_act mv_X10_act zo_0 rfl (Nat.le_of_ble_eq_true rfl) ⟨by decide, by decide⟩ ⟨hkc, hks⟩ (x_fN_act hG 64 (by decide) (xs (a2 + 1).toNatClampNeg) (xs (a2 + 2).toNatClampNeg) (xs (a2 + 3).toNatClampNeg) m3 _ (zw_b2 h)) (fun r132 m133 q => ?_)
      replace h := q
      refine zr_aload_n X dL_law_1015 2 rfl ?_
      refine zr_aload_n X dL_law_1016 0 rfl ?_
      refine zr_iload_n X dL_law_1017 3 rfl ?_
      refine zr_iconst (v := 1) X dL_law_1018 (by decide) ?_
      refine zr_iadd X dL_law_1019 ?_
      obtain ⟨g0, h⟩ := zg_e h
      refine zr_xld X hX hbl dL_law_1020 (zI_in g0) ?_
      refine zr_aload_n X dL_law_1021 0 rfl ?_
      refine zr_iload_n X dL_law_1022 3 rfl ?_
      refine zr_iconst (v := 2) X dL_law_1023 (by decide) ?_
      refine zr_iadd X dL_law_1024 ?_
      obtain ⟨g0, h⟩ := zg_e h
      refine zr_xld X hX hbl dL_law_1025 (zI_in g0) ?_
      refine zr_aload_n X dL_law_1026 0 rfl ?_
      refine zr_iload_n X dL_law_1027 3 rfl ?_
      refine zr_iconst (v := 3) X dL_law_1028 (by decide) ?_
      refine zr_iadd X dL_law_1029 ?_
      obtain ⟨g0, h⟩ := zg_e h
      refine zr_xld X hX hbl dL_law_1030 (zI_in g0) ?_
      refine zr_callV_i (As := [.int (xs (a2 + 1).toNatClampNeg), .int (xs (a2 + 2).toNatClampNeg), .int (xs (a2 + 3).toNatClampNeg)]) (st := [.int r132]) (d := 64) X dL_law_1031 wm_L_150 my_X11_act mv_X11_act zo_68 rfl (Nat.le_of_ble_eq_true rfl) ⟨by decide, by decide⟩ ⟨hkc, hks⟩ (x_fM_act hG 64 (by decide) (xs (a2 + 1).toNatClampNeg) (xs (a2 + 2).toNatClampNeg) (xs (a2 + 3).toNatClampNeg) m133 _ (zw_b2 h)) (fun r134 m135 q => ?_)
      replace h := q
      refine zr_icmp_eq (tgt := 1331) X dL_law_1034 (by decide) (fun q => ?_) (fun q => ?_)
      · rw [if_pos q] at h
        refine zr_iinc (v := a2 + 6) (lo' := [(3, .int (a2 + 6)), (0, .ref b), (1, .ref (S.heap.size + 0)), (2, .ref (S.heap.size + 68))]) X dL_law_1331 3 rfl rfl (by decide) rfl ?_
        refine zr_goto (tgt := 18) X dL_law_1334 (by decide) ?_
        have h := hl1 _ h
        exact zr_sub [1, 2, 3, 0] rfl h
      · rw [if_neg q] at h
        refine zr_iconst (v := 0) X dL_law_1037 (by decide) ?_
        have h := hr1 _ h
        exact zr_lawret X dL_law_1038 (hP _ h)
    have hJ1039 : zw (fLaw_j1039 L xs a2 m3) P1 → zv_V S D cA p l e room_1 S mi #[Value.ref b] below meth c 4 (lw_Z below #[Value.ref b] S) kc ks 1039 [(0, .ref b), (1, .ref (S.heap.size + 0)), (2, .ref (S.heap.size + 68)), (3, .int a2)] [] SH0 m3 := by
      intro h
      rw [fLaw_j1039] at h
      refine zr_aload_n X dL_law_1039 1 rfl ?_
      refine zr_aload_n X dL_law_1040 0 rfl ?_
      refine zr_iload_n X dL_law_1041 3 rfl ?_
      refine zr_iconst (v := 1) X dL_law_1042 (by decide) ?_
      refine zr_iadd X dL_law_1043 ?_
      obtain ⟨g0, h⟩ := zg_e h
      refine zr_xld X hX hbl dL_law_1044 (zI_in g0) ?_
      refine zr_callV_i (As := [.int (xs (a2 + 1).toNatClampNeg)]) (st := []) (d := 64) X dL_law_1045 wm_L_151 my_X10_trace mv_X10_trace zo_0 rfl (Nat.le_of_ble_eq_true rfl) ⟨by decide, by decide⟩ ⟨hkc, hks⟩ (x_fN_trace hG 64 (by decide) (xs (a2 + 1).toNatClampNeg) m3 _ (zw_b1 h)) (fun r136 m137 q => ?_)
      obtain ⟨rfl, h⟩ := q
      refine zr_aload_n X dL_law_1048 2 rfl ?_
      refine zr_aload_n X dL_law_1049 0 rfl ?_
      refine zr_iload_n X dL_law_1050 3 rfl ?_
      refine zr_iconst (v := 1) X dL_law_1051 (by decide) ?_
      refine zr_iadd X dL_law_1052 ?_
      obtain ⟨g0, h⟩ := zg_e h
      refine zr_xld X hX hbl dL_law_1053 (zI_in g0) ?_
      refine zr_callV_i (As := [.int (xs (a2 + 1).toNatClampNeg)]) (st := [.int r136]) (d := 64) X dL_law_1054 wm_L_154 my_X11_trace mv_X11_trace zo_68 rfl (Nat.le_of_ble_eq_true rfl) ⟨by decide, by decide⟩ ⟨hkc, hks⟩ (x_fM_trace hG 64 (by decide) (xs (a2 + 1).toNatClampNeg) m3 _ (zw_b1 h)) (fun r138 m139 q => ?_)
      obtain ⟨rfl, h⟩ := q
      refine zr_icmp_eq (tgt := 1331) X dL_law_1057 (by decide) (fun q => ?_) (fun q => ?_)
      · rw [if_pos q] at h
        refine zr_iinc (v := a2 + 6) (lo' := [(3, .int (a2 + 6)), (0, .ref b), (1, .ref (S.heap.size + 0)), (2, .ref (S.heap.size + 68))]) X dL_law_1331 3 rfl rfl (by decide) rfl ?_
        refine zr_goto (tgt := 18) X dL_law_1334 (by decide) ?_
        have h := hl1 _ h
        exact zr_sub [1, 2, 3, 0] rfl h
      · rw [if_neg q] at h
        refine zr_iconst (v := 0) X dL_law_1060 (by decide) ?_
        have h := hr1 _ h
        exact zr_lawret X dL_law_1061 (hP _ h)
    have hJ1062 : zw (fLaw_j1062 L xs a2 m3) P1 → zv_V S D cA p l e room_1 S mi #[Value.ref b] below meth c 4 (lw_Z below #[Value.ref b] S) kc ks 1062 [(0, .ref b), (1, .ref (S.heap.size + 0)), (2, .ref (S.heap.size + 68)), (3, .int a2)] [] SH0 m3 := by
      intro h
      rw [fLaw_j1062] at h
      refine zr_aload_n X dL_law_1062 1 rfl ?_
      refine zr_aload_n X dL_law_1063 0 rfl ?_
      refine zr_iload_n X dL_law_1064 3 rfl ?_
      refine zr_iconst (v := 1) X dL_law_1065 (by decide) ?_
      refine zr_iadd X dL_law_1066 ?_
      obtain ⟨g0, h⟩ := zg_e h
      refine zr_xld X hX hbl dL_law_1067 (zI_in g0) ?_
      refine zr_aload_n X dL_law_1068 0 rfl ?_
      refine zr_iload_n X dL_law_1069 3 rfl ?_
      refine zr_iconst (v := 2) X dL_law_1070 (by decide) ?_
      refine zr_iadd X dL_law_1071 ?_
      obtain ⟨g0, h⟩ := zg_e h
      refine zr_xld X hX hbl dL_law_1072 (zI_in g0) ?_
      refine zr_callV_i (As := [.int (xs (a2 + 1).toNatClampNeg), .int (xs (a2 + 2).toNatClampNeg)]) (st := []) (d := 64) X dL_law_1073 wm_L_155 my_X10_taken mv_X10_taken zo_0 rfl (Nat.le_of_ble_eq_true rfl) ⟨by decide, by decide⟩ ⟨hkc, hks⟩ (x_fN_taken hG 64 (by decide) (xs (a2 + 1).toNatClampNeg) (xs (a2 + 2).toNatClampNeg) m3 _ (zw_b1 h)) (fun r140 m141 q => ?_)
      obtain ⟨rfl, h⟩ := q
      refine zr_aload_n X dL_law_1076 2 rfl ?_
      refine zr_aload_n X dL_law_1077 0 rfl ?_
      refine zr_iload_n X dL_law_1078 3 rfl ?_
      refine zr_iconst (v := 1) X dL_law_1079 (by decide) ?_
      refine zr_iadd X dL_law_1080 ?_
      obtain ⟨g0, h⟩ := zg_e h
      refine zr_xld X hX hbl dL_law_1081 (zI_in g0) ?_
      refine zr_aload_n X dL_law_1082 0 rfl ?_
      refine zr_iload_n X dL_law_1083 3 rfl ?_
      refine zr_iconst (v := 2) X dL_law_1084 (by decide) ?_
      refine zr_iadd X dL_law_1085 ?_
      obtain ⟨g0, h⟩ := zg_e h
      refine zr_xld X hX hbl dL_law_1086 (zI_in g0) ?_
      refine zr_callV_i (As := [.int (xs (a2 + 1).toNatClampNeg), .int (xs (a2 + 2).toNatClampNeg)]) (st := [.int r140]) (d := 64) X dL_law_1087 wm_L_158 my_X11_taken mv_X11_taken zo_68 rfl (Nat.le_of_ble_eq_true rfl) ⟨by decide, by decide⟩ ⟨hkc, hks⟩ (x_fM_taken hG 64 (by decide) (xs (a2 + 1).toNatClampNeg) (xs (a2 + 2).toNatClampNeg) m3 _ (zw_b1 h)) (fun r142 m143 q => ?_)
      obtain ⟨rfl, h⟩ := q
      refine zr_icmp_eq (tgt := 1331) X dL_law_1090 (by decide) (fun q => ?_) (fun q => ?_)
      · rw [if_pos q] at h
        refine zr_iinc (v := a2 + 6) (lo' := [(3, .int (a2 + 6)), (0, .ref b), (1, .ref (S.heap.size + 0)), (2, .ref (S.heap.size + 68))]) X dL_law_1331 3 rfl rfl (by decide) rfl ?_
        refine zr_goto (tgt := 18) X dL_law_1334 (by decide) ?_
        have h := hl1 _ h
        exact zr_sub [1, 2, 3, 0] rfl h
      · rw [if_neg q] at h
        refine zr_iconst (v := 0) X dL_law_1093 (by decide) ?_
        have h := hr1 _ h
        exact zr_lawret X dL_law_1094 (hP _ h)
    have hJ1095 : zw (fLaw_j1095 L xs a2 m3) P1 → zv_V S D cA p l e room_1 S mi #[Value.ref b] below meth c 4 (lw_Z below #[Value.ref b] S) kc ks 1095 [(0, .ref b), (1, .ref (S.heap.size + 0)), (2, .ref (S.heap.size + 68)), (3, .int a2)] [] SH0 m3 := by
      intro h
      rw [fLaw_j1095] at h
      refine zr_aload_n X dL_law_1095 1 rfl ?_
      refine zr_aload_n X dL_law_1096 0 rfl ?_
      refine zr_iload_n X dL_law_1097 3 rfl ?_
      refine zr_iconst (v := 1) X dL_law_1098 (by decide) ?_
      refine zr_iadd X dL_law_1099 ?_
      obtain ⟨g0, h⟩ := zg_e h
      refine zr_xld X hX hbl dL_law_1100 (zI_in g0) ?_
      refine zr_callV_i (As := [.int (xs (a2 + 1).toNatClampNeg)]) (st := []) (d := 64) X dL_law_1101 wm_L_159 my_X10_count mv_X10_count zo_0 rfl (Nat.le_of_ble_eq_true rfl) ⟨by decide, by decide⟩ ⟨hkc, hks⟩ (x_fN_count hG 64 (by decide) (xs (a2 + 1).toNatClampNeg) m3 _ (zw_b1 h)) (fun r144 m145 q => ?_)
      obtain ⟨rfl, h⟩ := q
      refine zr_aload_n X dL_law_1104 2 rfl ?_
      refine zr_aload_n X dL_law_1105 0 rfl ?_
      refine zr_iload_n X dL_law_1106 3 rfl ?_
      refine zr_iconst (v := 1) X dL_law_1107 (by decide) ?_
      refine zr_iadd X dL_law_1108 ?_
      obtain ⟨g0, h⟩ := zg_e h
      refine zr_xld X hX hbl dL_law_1109 (zI_in g0) ?_
      refine zr_callV_i (As := [.int (xs (a2 + 1).toNatClampNeg)]) (st := [.int r144]) (d := 64) X dL_law_1110 wm_L_162 my_X11_count mv_X11_count zo_68 rfl (Nat.le_of_ble_eq_true rfl) ⟨by decide, by decide⟩ ⟨hkc, hks⟩ (x_fM_count hG 64 (by decide) (xs (a2 + 1).toNatClampNeg) m3 _ (zw_b1 h)) (fun r146 m147 q => ?_)
      obtain ⟨rfl, h⟩ := q
      refine zr_icmp_eq (tgt := 1331) X dL_law_1113 (by decide) (fun q => ?_) (fun q => ?_)
      · rw [if_pos q] at h
        refine zr_iinc (v := a2 + 6) (lo' := [(3, .int (a2 + 6)), (0, .ref b), (1, .ref (S.heap.size + 0)), (2, .ref (S.heap.size + 68))]) X dL_law_1331 3 rfl rfl (by decide) rfl ?_
        refine zr_goto (tgt := 18) X dL_law_1334 (by decide) ?_
        have h := hl1 _ h
        exact zr_sub [1, 2, 3, 0] rfl h
      · rw [if_neg q] at h
        refine zr_iconst (v := 0) X dL_law_1116 (by decide) ?_
        have h := hr1 _ h
        exact zr_lawret X dL_law_1117 (hP _ h)
    have hJ1118 : zw (fLaw_j1118 L xs a2 m3) P1 → zv_V S D cA p l e room_1 S mi #[Value.ref b] below meth c 4 (lw_Z below #[Value.ref b] S) kc ks 1118 [(0, .ref b), (1, .ref (S.heap.size + 0)), (2, .ref (S.heap.size + 68)), (3, .int a2)] [] SH0 m3 := by
      intro h
      rw [fLaw_j1118] at h
      refine zr_aload_n X dL_law_1118 1 rfl ?_
      refine zr_aload_n X dL_law_1119 0 rfl ?_
      refine zr_iload_n X dL_law_1120 3 rfl ?_
      refine zr_iconst (v := 1) X dL_law_1121 (by decide) ?_
      refine zr_iadd X dL_law_1122 ?_
      obtain ⟨g0, h⟩ := zg_e h
      refine zr_xld X hX hbl dL_law_1123 (zI_in g0) ?_
      refine zr_aload_n X dL_law_1124 0 rfl ?_
      refine zr_iload_n X dL_law_1125 3 rfl ?_
      refine zr_iconst (v := 2) X dL_law_1126 (by decide) ?_
      refine zr_iadd X dL_law_1127 ?_
      obtain ⟨g0, h⟩ := zg_e h
      refine zr_xld X hX hbl dL_law_1128 (zI_in g0) ?_
      refine zr_aload_n X dL_law_1129 0 rfl ?_
      refine zr_iload_n X dL_law_1130 3 rfl ?_
      refine zr_iconst (v := 3) X dL_law_1131 (by decide) ?_
      refine zr_iadd X dL_law_1132 ?_
      obtain ⟨g0, h⟩ := zg_e h
      refine zr_xld X hX hbl dL_law_1133 (zI_in g0) ?_
      refine zr_callV_i (As := [.int (xs (a2 + 1).toNatClampNeg), .int (xs (a2 + 2).toNatClampNeg), .int (xs (a2 + 3).toNatClampNeg)]) (st := []) (d := 64) X dL_law_1134 wm_L_163 my_X10_tape mv_X10_tape zo_0 rfl (Nat.le_of_ble_eq_true rfl) ⟨by decide, by decide⟩ ⟨hkc, hks⟩ (x_fN_tape hG 64 (by decide) (xs (a2 + 1).toNatClampNeg) (xs (a2 + 2).toNatClampNeg) (xs (a2 + 3).toNatClampNeg) m3 _ (zw_b2 h)) (fun r148 m149 q => ?_)
      replace h := q
      refine zr_aload_n X dL_law_1137 2 rfl ?_
      refine zr_aload_n X dL_law_1138 0 rfl ?_
      refine zr_iload_n X dL_law_1139 3 rfl ?_
      refine zr_iconst (v := 1) X dL_law_1140 (by decide) ?_
      refine zr_iadd X dL_law_1141 ?_
      obtain ⟨g0, h⟩ := zg_e h
      refine zr_xld X hX hbl dL_law_1142 (zI_in g0) ?_
      refine zr_aload_n X dL_law_1143 0 rfl ?_
      refine zr_iload_n X dL_law_1144 3 rfl ?_
      refine zr_iconst (v := 2) X dL_law_1145 (by decide) ?_
      refine zr_iadd X dL_law_1146 ?_
      obtain ⟨g0, h⟩ := zg_e h
      refine zr_xld X hX hbl dL_law_1147 (zI_in g0) ?_
      refine zr_aload_n X dL_law_1148 0 rfl ?_
      refine zr_iload_n X dL_law_1149 3 rfl ?_
      refine zr_iconst (v := 3) X dL_law_1150 (by decide) ?_
      refine zr_iadd X dL_law_1151 ?_
      obtain ⟨g0, h⟩ := zg_e h
      refine zr_xld X hX hbl dL_law_1152 (zI_in g0) ?_
      refine zr_callV_i (As := [.int (xs (a2 + 1).toNatClampNeg), .int (xs (a2 + 2).toNatClampNeg), .int (xs (a2 + 3).toNatClampNeg)]) (st := [.int r148]) (d := 64) X dL_law_1153 wm_L_166 my_X11_tape mv_X11_tape zo_68 rfl (Nat.le_of_ble_eq_true rfl) ⟨by decide, by decide⟩ ⟨hkc, hks⟩ (x_fM_tape hG 64 (by decide) (xs (a2 + 1).toNatClampNeg) (xs (a2 + 2).toNatClampNeg) (xs (a2 + 3).toNatClampNeg) m149 _ (zw_b2 h)) (fun r150 m151 q => ?_)
      replace h := q
      refine zr_icmp_eq (tgt := 1331) X dL_law_1156 (by decide) (fun q => ?_) (fun q => ?_)
      · rw [if_pos q] at h
        refine zr_iinc (v := a2 + 6) (lo' := [(3, .int (a2 + 6)), (0, .ref b), (1, .ref (S.heap.size + 0)), (2, .ref (S.heap.size + 68))]) X dL_law_1331 3 rfl rfl (by decide) rfl ?_
        refine zr_goto (tgt := 18) X dL_law_1334 (by decide) ?_
        have h := hl1 _ h
        exact zr_sub [1, 2, 3, 0] rfl h
      · rw [if_neg q] at h
        refine zr_iconst (v := 0) X dL_law_1159 (by decide) ?_
        have h := hr1 _ h
        exact zr_lawret X dL_law_1160 (hP _ h)
    have hJ1161 : zw (fLaw_j1161 L xs a2 m3) P1 → zv_V S D cA p l e room_1 S mi #[Value.ref b] below meth c 4 (lw_Z below #[Value.ref b] S) kc ks 1161 [(0, .ref b), (1, .ref (S.heap.size + 0)), (2, .ref (S.heap.size + 68)), (3, .int a2)] [] SH0 m3 := by
      intro h
      rw [fLaw_j1161] at h
      refine zr_aload_n X dL_law_1161 1 rfl ?_
      refine zr_aload_n X dL_law_1162 0 rfl ?_
      refine zr_iload_n X dL_law_1163 3 rfl ?_
      refine zr_iconst (v := 1) X dL_law_1164 (by decide) ?_
      refine zr_iadd X dL_law_1165 ?_
      obtain ⟨g0, h⟩ := zg_e h
      refine zr_xld X hX hbl dL_law_1166 (zI_in g0) ?_
      refine zr_aload_n X dL_law_1167 0 rfl ?_
      refine zr_iload_n X dL_law_1168 3 rfl ?_
      refine zr_iconst (v := 2) X dL_law_1169 (by decide) ?_
      refine zr_iadd X dL_law_1170 ?_
      obtain ⟨g0, h⟩ := zg_e h
      refine zr_xld X hX hbl dL_law_1171 (zI_in g0) ?_
      refine zr_aload_n X dL_law_1172 0 rfl ?_
      refine zr_iload_n X dL_law_1173 3 rfl ?_
      refine zr_iconst (v := 3) X dL_law_1174 (by decide) ?_
      refine zr_iadd X dL_law_1175 ?_
      obtain ⟨g0, h⟩ := zg_e h
      refine zr_xld X hX hbl dL_law_1176 (zI_in g0) ?_
      refine zr_i2l X dL_law_1177 ?_
      refine zr_bipush (v := 32) X dL_law_1178 (by decide) ?_
      refine zr_lshl X dL_law_1180 ?_
      refine zr_aload_n X dL_law_1181 0 rfl ?_
      refine zr_iload_n X dL_law_1182 3 rfl ?_
      refine zr_iconst (v := 4) X dL_law_1183 (by decide) ?_
      refine zr_iadd X dL_law_1184 ?_
      obtain ⟨g0, h⟩ := zg_e h
      refine zr_xld X hX hbl dL_law_1185 (zI_in g0) ?_
      refine zr_i2l X dL_law_1186 ?_
      refine zr_ldc2 X dL_law_1187 wc_L_167 ?_
      refine zr_land X dL_law_1190 ?_
      refine zr_lor X dL_law_1191 ?_
      refine zr_callV_i (As := [.int (xs (a2 + 1).toNatClampNeg), .int (xs (a2 + 2).toNatClampNeg), .long ((((xs (a2 + 3).toNatClampNeg).toInt64) <<< ((32 : Int32).toInt64 &&& 63)) ||| (((xs (a2 + 4).toNatClampNeg).toInt64) &&& 4294967295))]) (st := []) (d := 64) X dL_law_1192 wm_L_169 my_X10_item mv_X10_item zo_0 rfl (Nat.le_of_ble_eq_true rfl) ⟨by decide, by decide⟩ ⟨hkc, hks⟩ (x_fN_item hG 64 (by decide) (xs (a2 + 1).toNatClampNeg) (xs (a2 + 2).toNatClampNeg) ((((xs (a2 + 3).toNatClampNeg).toInt64) <<< ((32 : Int32).toInt64 &&& 63)) ||| (((xs (a2 + 4).toNatClampNeg).toInt64) &&& 4294967295)) m3 _ (zw_b2 h)) (fun r152 m153 q => ?_)
      replace h := q
      refine zr_aload_n X dL_law_1195 2 rfl ?_
      refine zr_aload_n X dL_law_1196 0 rfl ?_
      refine zr_iload_n X dL_law_1197 3 rfl ?_
      refine zr_iconst (v := 1) X dL_law_1198 (by decide) ?_
      refine zr_iadd X dL_law_1199 ?_
      obtain ⟨g0, h⟩ := zg_e h
      refine zr_xld X hX hbl dL_law_1200 (zI_in g0) ?_
      refine zr_aload_n X dL_law_1201 0 rfl ?_
      refine zr_iload_n X dL_law_1202 3 rfl ?_
      refine zr_iconst (v := 2) X dL_law_1203 (by decide) ?_
      refine zr_iadd X dL_law_1204 ?_
      obtain ⟨g0, h⟩ := zg_e h
      refine zr_xld X hX hbl dL_law_1205 (zI_in g0) ?_
      refine zr_aload_n X dL_law_1206 0 rfl ?_
      refine zr_iload_n X dL_law_1207 3 rfl ?_
      refine zr_iconst (v := 3) X dL_law_1208 (by decide) ?_
      refine zr_iadd X dL_law_1209 ?_
      obtain ⟨g0, h⟩ := zg_e h
      refine zr_xld X hX hbl dL_law_1210 (zI_in g0) ?_
      refine zr_i2l X dL_law_1211 ?_
      refine zr_bipush (v := 32) X dL_law_1212 (by decide) ?_
      refine zr_lshl X dL_law_1214 ?_
      refine zr_aload_n X dL_law_1215 0 rfl ?_
      refine zr_iload_n X dL_law_1216 3 rfl ?_
      refine zr_iconst (v := 4) X dL_law_1217 (by decide) ?_
      refine zr_iadd X dL_law_1218 ?_
      obtain ⟨g0, h⟩ := zg_e h
      refine zr_xld X hX hbl dL_law_1219 (zI_in g0) ?_
      refine zr_i2l X dL_law_1220 ?_
      refine zr_ldc2 X dL_law_1221 wc_L_167 ?_
      refine zr_land X dL_law_1224 ?_
      refine zr_lor X dL_law_1225 ?_
      refine zr_callV_i (As := [.int (xs (a2 + 1).toNatClampNeg), .int (xs (a2 + 2).toNatClampNeg), .long ((((xs (a2 + 3).toNatClampNeg).toInt64) <<< ((32 : Int32).toInt64 &&& 63)) ||| (((xs (a2 + 4).toNatClampNeg).toInt64) &&& 4294967295))]) (st := [.int r152]) (d := 64) X dL_law_1226 wm_L_173 my_X11_item mv_X11_item zo_68 rfl (Nat.le_of_ble_eq_true rfl) ⟨by decide, by decide⟩ ⟨hkc, hks⟩ (x_fM_item hG 64 (by decide) (xs (a2 + 1).toNatClampNeg) (xs (a2 + 2).toNatClampNeg) ((((xs (a2 + 3).toNatClampNeg).toInt64) <<< ((32 : Int32).toInt64 &&& 63)) ||| (((xs (a2 + 4).toNatClampNeg).toInt64) &&& 4294967295)) m153 _ (zw_b2 h)) (fun r154 m155 q => ?_)
      replace h := q
      refine zr_icmp_eq (tgt := 1331) X dL_law_1229 (by decide) (fun q => ?_) (fun q => ?_)
      · rw [if_pos q] at h
        refine zr_iinc (v := a2 + 6) (lo' := [(3, .int (a2 + 6)), (0, .ref b), (1, .ref (S.heap.size + 0)), (2, .ref (S.heap.size + 68))]) X dL_law_1331 3 rfl rfl (by decide) rfl ?_
        refine zr_goto (tgt := 18) X dL_law_1334 (by decide) ?_
        have h := hl1 _ h
        exact zr_sub [1, 2, 3, 0] rfl h
      · rw [if_neg q] at h
        refine zr_iconst (v := 0) X dL_law_1232 (by decide) ?_
        have h := hr1 _ h
        exact zr_lawret X dL_law_1233 (hP _ h)
    have hJ1234 : zw (fLaw_j1234 L xs a2 m3) P1 → zv_V S D cA p l e room_1 S mi #[Value.ref b] below meth c 4 (lw_Z below #[Value.ref b] S) kc ks 1234 [(0, .ref b), (1, .ref (S.heap.size + 0)), (2, .ref (S.heap.size + 68)), (3, .int a2)] [] SH0 m3 := by
      intro h
      rw [fLaw_j1234] at h
      refine zr_aload_n X dL_law_1234 1 rfl ?_
      refine zr_aload_n X dL_law_1235 0 rfl ?_
      refine zr_iload_n X dL_law_1236 3 rfl ?_
      refine zr_iconst (v := 1) X dL_law_1237 (by decide) ?_
      refine zr_iadd X dL_law_1238 ?_
      obtain ⟨g0, h⟩ := zg_e h
      refine zr_xld X hX hbl dL_law_1239 (zI_in g0) ?_
      refine zr_aload_n X dL_law_1240 0 rfl ?_
      refine zr_iload_n X dL_law_1241 3 rfl ?_
      refine zr_iconst (v := 2) X dL_law_1242 (by decide) ?_
      refine zr_iadd X dL_law_1243 ?_
      obtain ⟨g0, h⟩ := zg_e h
      refine zr_xld X hX hbl dL_law_1244 (zI_in g0) ?_
      refine zr_callV_l (As := [.int (xs (a2 + 1).toNatClampNeg), .int (xs (a2 + 2).toNatClampNeg)]) (st := []) (d := 64) X dL_law_1245 wm_L_174 my_X10_read mv_X10_read zo_0 rfl (Nat.le_of_ble_eq_true rfl) ⟨by decide, by decide⟩ ⟨hkc, hks⟩ (x_fN_read hG 64 (by decide) (xs (a2 + 1).toNatClampNeg) (xs (a2 + 2).toNatClampNeg) m3 _ (zw_b1 h)) (fun r156 m157 q => ?_)
      obtain ⟨rfl, h⟩ := q
      refine zr_aload_n X dL_law_1248 2 rfl ?_
      refine zr_aload_n X dL_law_1249 0 rfl ?_
      refine zr_iload_n X dL_law_1250 3 rfl ?_
      refine zr_iconst (v := 1) X dL_law_1251 (by decide) ?_
      refine zr_iadd X dL_law_1252 ?_
      obtain ⟨g0, h⟩ := zg_e h
      refine zr_xld X hX hbl dL_law_1253 (zI_in g0) ?_
      refine zr_aload_n X dL_law_1254 0 rfl ?_
      refine zr_iload_n X dL_law_1255 3 rfl ?_
      refine zr_iconst (v := 2) X dL_law_1256 (by decide) ?_
      refine zr_iadd X dL_law_1257 ?_
      obtain ⟨g0, h⟩ := zg_e h
      refine zr_xld X hX hbl dL_law_1258 (zI_in g0) ?_
      refine zr_callV_l (As := [.int (xs (a2 + 1).toNatClampNeg), .int (xs (a2 + 2).toNatClampNeg)]) (st := [.long r156]) (d := 64) X dL_law_1259 wm_L_177 my_X11_read mv_X11_read zo_68 rfl (Nat.le_of_ble_eq_true rfl) ⟨by decide, by decide⟩ ⟨hkc, hks⟩ (x_fM_read hG 64 (by decide) (xs (a2 + 1).toNatClampNeg) (xs (a2 + 2).toNatClampNeg) m3 _ (zw_b1 h)) (fun r158 m159 q => ?_)
      obtain ⟨rfl, h⟩ := q
      refine zr_lcmp X dL_law_1262 ?_
      refine zr_if_eq (tgt := 1331) X dL_law_1263 (by decide) (fun q => ?_) (fun q => ?_)
      · rw [if_pos q] at h
        refine zr_iinc (v := a2 + 6) (lo' := [(3, .int (a2 + 6)), (0, .ref b), (1, .ref (S.heap.size + 0)), (2, .ref (S.heap.size + 68))]) X dL_law_1331 3 rfl rfl (by decide) rfl ?_
        refine zr_goto (tgt := 18) X dL_law_1334 (by decide) ?_
        have h := hl1 _ h
        exact zr_sub [1, 2, 3, 0] rfl h
      · rw [if_neg q] at h
        refine zr_iconst (v := 0) X dL_law_1266 (by decide) ?_
        have h := hr1 _ h
        exact zr_lawret X dL_law_1267 (hP _ h)
    have hJ1268 : zw (fLaw_j1268 L xs a2 m3) P1 → zv_V S D cA p l e room_1 S mi #[Value.ref b] below meth c 4 (lw_Z below #[Value.ref b] S) kc ks 1268 [(0, .ref b), (1, .ref (S.heap.size + 0)), (2, .ref (S.heap.size + 68)), (3, .int a2)] [] SH0 m3 := by
      intro h
      rw [fLaw_j1268] at h
      refine zr_aload_n X dL_law_1268 1 rfl ?_
      refine zr_aload_n X dL_law_1269 0 rfl ?_
      refine zr_iload_n X dL_law_1270 3 rfl ?_
      refine zr_iconst (v := 1) X dL_law_1271 (by decide) ?_
      refine zr_iadd X dL_law_1272 ?_
      obtain ⟨g0, h⟩ := zg_e h
      refine zr_xld X hX hbl dL_law_1273 (zI_in g0) ?_
      refine zr_aload_n X dL_law_1274 0 rfl ?_
      refine zr_iload_n X dL_law_1275 3 rfl ?_
      refine zr_iconst (v := 2) X dL_law_1276 (by decide) ?_
      refine zr_iadd X dL_law_1277 ?_
      obtain ⟨g0, h⟩ := zg_e h
      refine zr_xld X hX hbl dL_law_1278 (zI_in g0) ?_
      refine zr_aload_n X dL_law_1279 0 rfl ?_
      refine zr_iload_n X dL_law_1280 3 rfl ?_
      refine zr_iconst (v := 3) X dL_law_1281 (by decide) ?_
      refine zr_iadd X dL_law_1282 ?_
      obtain ⟨g0, h⟩ := zg_e h
      refine zr_xld X hX hbl dL_law_1283 (zI_in g0) ?_
      refine zr_aload_n X dL_law_1284 0 rfl ?_
      refine zr_iload_n X dL_law_1285 3 rfl ?_
      refine zr_iconst (v := 4) X dL_law_1286 (by decide) ?_
      refine zr_iadd X dL_law_1287 ?_
      obtain ⟨g0, h⟩ := zg_e h
      refine zr_xld X hX hbl dL_law_1288 (zI_in g0) ?_
      refine zr_aload_n X dL_law_1289 0 rfl ?_
      refine zr_iload_n X dL_law_1290 3 rfl ?_
      refine zr_iconst (v := 5) X dL_law_1291 (by decide) ?_
      refine zr_iadd X dL_law_1292 ?_
      obtain ⟨g0, h⟩ := zg_e h
      refine zr_xld X hX hbl dL_law_1293 (zI_in g0) ?_
      refine zr_callV_i (As := [.int (xs (a2 + 1).toNatClampNeg), .int (xs (a2 + 2).toNatClampNeg), .int (xs (a2 + 3).toNatClampNeg), .int (xs (a2 + 4).toNatClampNeg), .int (xs (a2 + 5).toNatClampNeg)]) (st := []) (d := 64) X dL_law_1294 wm_L_178 my_X10_shift mv_X10_shift zo_0 rfl (Nat.le_of_ble_eq_true rfl) ⟨by decide, by decide⟩ ⟨hkc, hks⟩ (x_fN_shift hG 64 (by decide) (xs (a2 + 1).toNatClampNeg) (xs (a2 + 2).toNatClampNeg) (xs (a2 + 3).toNatClampNeg) (xs (a2 + 4).toNatClampNeg) (xs (a2 + 5).toNatClampNeg) m3 _ (zw_b2 h)) (fun r160 m161 q => ?_)
      replace h := q
      refine zr_aload_n X dL_law_1297 2 rfl ?_
      refine zr_aload_n X dL_law_1298 0 rfl ?_
      refine zr_iload_n X dL_law_1299 3 rfl ?_
      refine zr_iconst (v := 1) X dL_law_1300 (by decide) ?_
      refine zr_iadd X dL_law_1301 ?_
      obtain ⟨g0, h⟩ := zg_e h
      refine zr_xld X hX hbl dL_law_1302 (zI_in g0) ?_
      refine zr_aload_n X dL_law_1303 0 rfl ?_
      refine zr_iload_n X dL_law_1304 3 rfl ?_
      refine zr_iconst (v := 2) X dL_law_1305 (by decide) ?_
      refine zr_iadd X dL_law_1306 ?_
      obtain ⟨g0, h⟩ := zg_e h
      refine zr_xld X hX hbl dL_law_1307 (zI_in g0) ?_
      refine zr_aload_n X dL_law_1308 0 rfl ?_
      refine zr_iload_n X dL_law_1309 3 rfl ?_
      refine zr_iconst (v := 3) X dL_law_1310 (by decide) ?_
      refine zr_iadd X dL_law_1311 ?_
      obtain ⟨g0, h⟩ := zg_e h
      refine zr_xld X hX hbl dL_law_1312 (zI_in g0) ?_
      refine zr_aload_n X dL_law_1313 0 rfl ?_
      refine zr_iload_n X dL_law_1314 3 rfl ?_
      refine zr_iconst (v := 4) X dL_law_1315 (by decide) ?_
      refine zr_iadd X dL_law_1316 ?_
      obtain ⟨g0, h⟩ := zg_e h
      refine zr_xld X hX hbl dL_law_1317 (zI_in g0) ?_
      refine zr_aload_n X dL_law_1318 0 rfl ?_
      refine zr_iload_n X dL_law_1319 3 rfl ?_
      refine zr_iconst (v := 5) X dL_law_1320 (by decide) ?_
      refine zr_iadd X dL_law_1321 ?_
      obtain ⟨g0, h⟩ := zg_e h
      refine zr_xld X hX hbl dL_law_1322 (zI_in g0) ?_
      refine zr_callV_i (As := [.int (xs (a2 + 1).toNatClampNeg), .int (xs (a2 + 2).toNatClampNeg), .int (xs (a2 + 3).toNatClampNeg), .int (xs (a2 + 4).toNatClampNeg), .int (xs (a2 + 5).toNatClampNeg)]) (st := [.int r160]) (d := 64) X dL_law_1323 wm_L_182 my_X11_shift mv_X11_shift zo_68 rfl (Nat.le_of_ble_eq_true rfl) ⟨by decide, by decide⟩ ⟨hkc, hks⟩ (x_fM_shift hG 64 (by decide) (xs (a2 + 1).toNatClampNeg) (xs (a2 + 2).toNatClampNeg) (xs (a2 + 3).toNatClampNeg) (xs (a2 + 4).toNatClampNeg) (xs (a2 + 5).toNatClampNeg) m161 _ (zw_b2 h)) (fun r162 m163 q => ?_)
      replace h := q
      refine zr_icmp_eq (tgt := 1331) X dL_law_1326 (by decide) (fun q => ?_) (fun q => ?_)
      · rw [if_pos q] at h
        refine zr_iinc (v := a2 + 6) (lo' := [(3, .int (a2 + 6)), (0, .ref b), (1, .ref (S.heap.size + 0)), (2, .ref (S.heap.size + 68))]) X dL_law_1331 3 rfl rfl (by decide) rfl ?_
        refine zr_goto (tgt := 18) X dL_law_1334 (by decide) ?_
        have h := hl1 _ h
        exact zr_sub [1, 2, 3, 0] rfl h
      · rw [if_neg q] at h
        refine zr_iconst (v := 0) X dL_law_1329 (by decide) ?_
        have h := hr1 _ h
        exact zr_lawret X dL_law_1330 (hP _ h)
    have hJ1331 : ∀ (m164 : zv_M), zw (fLaw_j1331 a2 m164) P1 → zv_V S D cA p l e room_1 S mi #[Value.ref b] below meth c 4 (lw_Z below #[Value.ref b] S) kc ks 1331 [(0, .ref b), (1, .ref (S.heap.size + 0)), (2, .ref (S.heap.size + 68)), (3, .int a2)] [] SH0 m164 := by
      intro m164 h
      rw [fLaw_j1331] at h
      refine zr_iinc (v := a2 + 6) (lo' := [(3, .int (a2 + 6)), (0, .ref b), (1, .ref (S.heap.size + 0)), (2, .ref (S.heap.size + 68))]) X dL_law_1331 3 rfl rfl (by decide) rfl ?_
      refine zr_goto (tgt := 18) X dL_law_1334 (by decide) ?_
      have h := hl1 _ h
      exact zr_sub [1, 2, 3, 0] rfl h
    by_cases e0 : (xs a2.toNatClampNeg) &&& 63 = 0
    · rw [if_pos e0] at h
      refine zr_tableIn (tgt := 208) X dL_law_33 0 (by rw [e0]; decide) (by decide) (by decide) rfl (by decide) ?_
      exact zr_sub [0, 1, 2, 3] rfl (hJ208 h)
    rw [if_neg e0] at h
    by_cases e1 : (xs a2.toNatClampNeg) &&& 63 = 1
    · rw [if_pos e1] at h
      refine zr_tableIn (tgt := 241) X dL_law_33 1 (by rw [e1]; decide) (by decide) (by decide) rfl (by decide) ?_
      exact zr_sub [0, 1, 2, 3] rfl (hJ241 h)
    rw [if_neg e1] at h
    by_cases e2 : (xs a2.toNatClampNeg) &&& 63 = 2
    · rw [if_pos e2] at h
      refine zr_tableIn (tgt := 274) X dL_law_33 2 (by rw [e2]; decide) (by decide) (by decide) rfl (by decide) ?_
      exact zr_sub [0, 1, 2, 3] rfl (hJ274 h)
    rw [if_neg e2] at h
    by_cases e3 : (xs a2.toNatClampNeg) &&& 63 = 3
    · rw [if_pos e3] at h
      refine zr_tableIn (tgt := 317) X dL_law_33 3 (by rw [e3]; decide) (by decide) (by decide) rfl (by decide) ?_
      exact zr_sub [0, 1, 2, 3] rfl (hJ317 h)
    rw [if_neg e3] at h
    by_cases e4 : (xs a2.toNatClampNeg) &&& 63 = 4
    · rw [if_pos e4] at h
      refine zr_tableIn (tgt := 340) X dL_law_33 4 (by rw [e4]; decide) (by decide) (by decide) rfl (by decide) ?_
      exact zr_sub [0, 1, 2, 3] rfl (hJ340 h)
    rw [if_neg e4] at h
    by_cases e5 : (xs a2.toNatClampNeg) &&& 63 = 5
    · rw [if_pos e5] at h
      refine zr_tableIn (tgt := 353) X dL_law_33 5 (by rw [e5]; decide) (by decide) (by decide) rfl (by decide) ?_
      exact zr_sub [0, 1, 2, 3] rfl (hJ353 h)
    rw [if_neg e5] at h
    by_cases e6 : (xs a2.toNatClampNeg) &&& 63 = 6
    · rw [if_pos e6] at h
      refine zr_tableIn (tgt := 376) X dL_law_33 6 (by rw [e6]; decide) (by decide) (by decide) rfl (by decide) ?_
      exact zr_sub [0, 1, 2, 3] rfl (hJ376 h)
    rw [if_neg e6] at h
    by_cases e7 : (xs a2.toNatClampNeg) &&& 63 = 7
    · rw [if_pos e7] at h
      refine zr_tableIn (tgt := 409) X dL_law_33 7 (by rw [e7]; decide) (by decide) (by decide) rfl (by decide) ?_
      exact zr_sub [0, 1, 2, 3] rfl (hJ409 h)
    rw [if_neg e7] at h
    by_cases e8 : (xs a2.toNatClampNeg) &&& 63 = 8
    · rw [if_pos e8] at h
      refine zr_tableIn (tgt := 432) X dL_law_33 8 (by rw [e8]; decide) (by decide) (by decide) rfl (by decide) ?_
      exact zr_sub [0, 1, 2, 3] rfl (hJ432 h)
    rw [if_neg e8] at h
    by_cases e9 : (xs a2.toNatClampNeg) &&& 63 = 9
    · rw [if_pos e9] at h
      refine zr_tableIn (tgt := 465) X dL_law_33 9 (by rw [e9]; decide) (by decide) (by decide) rfl (by decide) ?_
      exact zr_sub [0, 1, 2, 3] rfl (hJ465 h)
    rw [if_neg e9] at h
    by_cases e10 : (xs a2.toNatClampNeg) &&& 63 = 10
    · rw [if_pos e10] at h
      refine zr_tableIn (tgt := 498) X dL_law_33 10 (by rw [e10]; decide) (by decide) (by decide) rfl (by decide) ?_
      exact zr_sub [0, 1, 2, 3] rfl (hJ498 h)
    rw [if_neg e10] at h
    by_cases e11 : (xs a2.toNatClampNeg) &&& 63 = 11
    · rw [if_pos e11] at h
      refine zr_tableIn (tgt := 511) X dL_law_33 11 (by rw [e11]; decide) (by decide) (by decide) rfl (by decide) ?_
      exact zr_sub [0, 1, 2, 3] rfl (hJ511 h)
    rw [if_neg e11] at h
    by_cases e12 : (xs a2.toNatClampNeg) &&& 63 = 12
    · rw [if_pos e12] at h
      refine zr_tableIn (tgt := 524) X dL_law_33 12 (by rw [e12]; decide) (by decide) (by decide) rfl (by decide) ?_
      exact zr_sub [0, 1, 2, 3] rfl (hJ524 h)
    rw [if_neg e12] at h
    by_cases e13 : (xs a2.toNatClampNeg) &&& 63 = 13
    · rw [if_pos e13] at h
      refine zr_tableIn (tgt := 557) X dL_law_33 13 (by rw [e13]; decide) (by decide) (by decide) rfl (by decide) ?_
      exact zr_sub [0, 1, 2, 3] rfl (hJ557 h)
    rw [if_neg e13] at h
    by_cases e14 : (xs a2.toNatClampNeg) &&& 63 = 14
    · rw [if_pos e14] at h
      refine zr_tableIn (tgt := 590) X dL_law_33 14 (by rw [e14]; decide) (by decide) (by decide) rfl (by decide) ?_
      exact zr_sub [0, 1, 2, 3] rfl (hJ590 h)
    rw [if_neg e14] at h
    by_cases e15 : (xs a2.toNatClampNeg) &&& 63 = 15
    · rw [if_pos e15] at h
      refine zr_tableIn (tgt := 613) X dL_law_33 15 (by rw [e15]; decide) (by decide) (by decide) rfl (by decide) ?_
      exact zr_sub [0, 1, 2, 3] rfl (hJ613 h)
    rw [if_neg e15] at h
    by_cases e16 : (xs a2.toNatClampNeg) &&& 63 = 16
    · rw [if_pos e16] at h
      refine zr_tableIn (tgt := 646) X dL_law_33 16 (by rw [e16]; decide) (by decide) (by decide) rfl (by decide) ?_
      exact zr_sub [0, 1, 2, 3] rfl (hJ646 h)
    rw [if_neg e16] at h
    by_cases e17 : (xs a2.toNatClampNeg) &&& 63 = 17
    · rw [if_pos e17] at h
      refine zr_tableIn (tgt := 669) X dL_law_33 17 (by rw [e17]; decide) (by decide) (by decide) rfl (by decide) ?_
      exact zr_sub [0, 1, 2, 3] rfl (hJ669 h)
    rw [if_neg e17] at h
    by_cases e18 : (xs a2.toNatClampNeg) &&& 63 = 18
    · rw [if_pos e18] at h
      refine zr_tableIn (tgt := 692) X dL_law_33 18 (by rw [e18]; decide) (by decide) (by decide) rfl (by decide) ?_
      exact zr_sub [0, 1, 2, 3] rfl (hJ692 h)
    rw [if_neg e18] at h
    by_cases e19 : (xs a2.toNatClampNeg) &&& 63 = 19
    · rw [if_pos e19] at h
      refine zr_tableIn (tgt := 715) X dL_law_33 19 (by rw [e19]; decide) (by decide) (by decide) rfl (by decide) ?_
      exact zr_sub [0, 1, 2, 3] rfl (hJ715 h)
    rw [if_neg e19] at h
    by_cases e20 : (xs a2.toNatClampNeg) &&& 63 = 20
    · rw [if_pos e20] at h
      refine zr_tableIn (tgt := 738) X dL_law_33 20 (by rw [e20]; decide) (by decide) (by decide) rfl (by decide) ?_
      exact zr_sub [0, 1, 2, 3] rfl (hJ738 h)
    rw [if_neg e20] at h
    by_cases e21 : (xs a2.toNatClampNeg) &&& 63 = 21
    · rw [if_pos e21] at h
      refine zr_tableIn (tgt := 751) X dL_law_33 21 (by rw [e21]; decide) (by decide) (by decide) rfl (by decide) ?_
      exact zr_sub [0, 1, 2, 3] rfl (hJ751 h)
    rw [if_neg e21] at h
    by_cases e22 : (xs a2.toNatClampNeg) &&& 63 = 22
    · rw [if_pos e22] at h
      refine zr_tableIn (tgt := 774) X dL_law_33 22 (by rw [e22]; decide) (by decide) (by decide) rfl (by decide) ?_
      exact zr_sub [0, 1, 2, 3] rfl (hJ774 h)
    rw [if_neg e22] at h
    by_cases e23 : (xs a2.toNatClampNeg) &&& 63 = 23
    · rw [if_pos e23] at h
      refine zr_tableIn (tgt := 787) X dL_law_33 23 (by rw [e23]; decide) (by decide) (by decide) rfl (by decide) ?_
      exact zr_sub [0, 1, 2, 3] rfl (hJ787 h)
    rw [if_neg e23] at h
    by_cases e24 : (xs a2.toNatClampNeg) &&& 63 = 24
    · rw [if_pos e24] at h
      refine zr_tableIn (tgt := 820) X dL_law_33 24 (by rw [e24]; decide) (by decide) (by decide) rfl (by decide) ?_
      exact zr_sub [0, 1, 2, 3] rfl (hJ820 h)
    rw [if_neg e24] at h
    by_cases e25 : (xs a2.toNatClampNeg) &&& 63 = 25
    · rw [if_pos e25] at h
      refine zr_tableIn (tgt := 843) X dL_law_33 25 (by rw [e25]; decide) (by decide) (by decide) rfl (by decide) ?_
      exact zr_sub [0, 1, 2, 3] rfl (hJ843 h)
    rw [if_neg e25] at h
    by_cases e26 : (xs a2.toNatClampNeg) &&& 63 = 26
    · rw [if_pos e26] at h
      refine zr_tableIn (tgt := 877) X dL_law_33 26 (by rw [e26]; decide) (by decide) (by decide) rfl (by decide) ?_
      exact zr_sub [0, 1, 2, 3] rfl (hJ877 h)
    rw [if_neg e26] at h
    by_cases e27 : (xs a2.toNatClampNeg) &&& 63 = 27
    · rw [if_pos e27] at h
      refine zr_tableIn (tgt := 901) X dL_law_33 27 (by rw [e27]; decide) (by decide) (by decide) rfl (by decide) ?_
      exact zr_sub [0, 1, 2, 3] rfl (hJ901 h)
    rw [if_neg e27] at h
    by_cases e28 : (xs a2.toNatClampNeg) &&& 63 = 28
    · rw [if_pos e28] at h
      refine zr_tableIn (tgt := 924) X dL_law_33 28 (by rw [e28]; decide) (by decide) (by decide) rfl (by decide) ?_
      exact zr_sub [0, 1, 2, 3] rfl (hJ924 h)
    rw [if_neg e28] at h
    by_cases e29 : (xs a2.toNatClampNeg) &&& 63 = 29
    · rw [if_pos e29] at h
      refine zr_tableIn (tgt := 937) X dL_law_33 29 (by rw [e29]; decide) (by decide) (by decide) rfl (by decide) ?_
      exact zr_sub [0, 1, 2, 3] rfl (hJ937 h)
    rw [if_neg e29] at h
    by_cases e30 : (xs a2.toNatClampNeg) &&& 63 = 30
    · rw [if_pos e30] at h
      refine zr_tableIn (tgt := 970) X dL_law_33 30 (by rw [e30]; decide) (by decide) (by decide) rfl (by decide) ?_
      exact zr_sub [0, 1, 2, 3] rfl (hJ970 h)
    rw [if_neg e30] at h
    by_cases e31 : (xs a2.toNatClampNeg) &&& 63 = 31
    · rw [if_pos e31] at h
      refine zr_tableIn (tgt := 983) X dL_law_33 31 (by rw [e31]; decide) (by decide) (by decide) rfl (by decide) ?_
      exact zr_sub [0, 1, 2, 3] rfl (hJ983 h)
    rw [if_neg e31] at h
    by_cases e32 : (xs a2.toNatClampNeg) &&& 63 = 32
    · rw [if_pos e32] at h
      refine zr_tableIn (tgt := 996) X dL_law_33 32 (by rw [e32]; decide) (by decide) (by decide) rfl (by decide) ?_
      exact zr_sub [0, 1, 2, 3] rfl (hJ996 h)
    rw [if_neg e32] at h
    by_cases e33 : (xs a2.toNatClampNeg) &&& 63 = 33
    · rw [if_pos e33] at h
      refine zr_tableIn (tgt := 1039) X dL_law_33 33 (by rw [e33]; decide) (by decide) (by decide) rfl (by decide) ?_
      exact zr_sub [0, 1, 2, 3] rfl (hJ1039 h)
    rw [if_neg e33] at h
    by_cases e34 : (xs a2.toNatClampNeg) &&& 63 = 34
    · rw [if_pos e34] at h
      refine zr_tableIn (tgt := 1062) X dL_law_33 34 (by rw [e34]; decide) (by decide) (by decide) rfl (by decide) ?_
      exact zr_sub [0, 1, 2, 3] rfl (hJ1062 h)
    rw [if_neg e34] at h
    by_cases e35 : (xs a2.toNatClampNeg) &&& 63 = 35
    · rw [if_pos e35] at h
      refine zr_tableIn (tgt := 1095) X dL_law_33 35 (by rw [e35]; decide) (by decide) (by decide) rfl (by decide) ?_
      exact zr_sub [0, 1, 2, 3] rfl (hJ1095 h)
    rw [if_neg e35] at h
    by_cases e36 : (xs a2.toNatClampNeg) &&& 63 = 36
    · rw [if_pos e36] at h
      refine zr_tableIn (tgt := 1118) X dL_law_33 36 (by rw [e36]; decide) (by decide) (by decide) rfl (by decide) ?_
      exact zr_sub [0, 1, 2, 3] rfl (hJ1118 h)
    rw [if_neg e36] at h
    by_cases e37 : (xs a2.toNatClampNeg) &&& 63 = 37
    · rw [if_pos e37] at h
      refine zr_tableIn (tgt := 1161) X dL_law_33 37 (by rw [e37]; decide) (by decide) (by decide) rfl (by decide) ?_
      exact zr_sub [0, 1, 2, 3] rfl (hJ1161 h)
    rw [if_neg e37] at h
    by_cases e38 : (xs a2.toNatClampNeg) &&& 63 = 38
    · rw [if_pos e38] at h
      refine zr_tableIn (tgt := 1234) X dL_law_33 38 (by rw [e38]; decide) (by decide) (by decide) rfl (by decide) ?_
      exact zr_sub [0, 1, 2, 3] rfl (hJ1234 h)
    rw [if_neg e38] at h
    by_cases e39 : (xs a2.toNatClampNeg) &&& 63 = 39
    · rw [if_pos e39] at h
      refine zr_tableIn (tgt := 1268) X dL_law_33 39 (by rw [e39]; decide) (by decide) (by decide) rfl (by decide) ?_
      exact zr_sub [0, 1, 2, 3] rfl (hJ1268 h)
    rw [if_neg e39] at h
    refine zr_tableOut (tgt := 1331) X dL_law_33 (by have ze0 := lv_neT e0 (by decide : (0 : Int32).toInt = 0); have ze1 := lv_neT e1 (by decide : (1 : Int32).toInt = 1); have ze2 := lv_neT e2 (by decide : (2 : Int32).toInt = 2); have ze3 := lv_neT e3 (by decide : (3 : Int32).toInt = 3); have ze4 := lv_neT e4 (by decide : (4 : Int32).toInt = 4); have ze5 := lv_neT e5 (by decide : (5 : Int32).toInt = 5); have ze6 := lv_neT e6 (by decide : (6 : Int32).toInt = 6); have ze7 := lv_neT e7 (by decide : (7 : Int32).toInt = 7); have ze8 := lv_neT e8 (by decide : (8 : Int32).toInt = 8); have ze9 := lv_neT e9 (by decide : (9 : Int32).toInt = 9); have ze10 := lv_neT e10 (by decide : (10 : Int32).toInt = 10); have ze11 := lv_neT e11 (by decide : (11 : Int32).toInt = 11); have ze12 := lv_neT e12 (by decide : (12 : Int32).toInt = 12); have ze13 := lv_neT e13 (by decide : (13 : Int32).toInt = 13); have ze14 := lv_neT e14 (by decide : (14 : Int32).toInt = 14); have ze15 := lv_neT e15 (by decide : (15 : Int32).toInt = 15); have ze16 := lv_neT e16 (by decide : (16 : Int32).toInt = 16); have ze17 := lv_neT e17 (by decide : (17 : Int32).toInt = 17); have ze18 := lv_neT e18 (by decide : (18 : Int32).toInt = 18); have ze19 := lv_neT e19 (by decide : (19 : Int32).toInt = 19); have ze20 := lv_neT e20 (by decide : (20 : Int32).toInt = 20); have ze21 := lv_neT e21 (by decide : (21 : Int32).toInt = 21); have ze22 := lv_neT e22 (by decide : (22 : Int32).toInt = 22); have ze23 := lv_neT e23 (by decide : (23 : Int32).toInt = 23); have ze24 := lv_neT e24 (by decide : (24 : Int32).toInt = 24); have ze25 := lv_neT e25 (by decide : (25 : Int32).toInt = 25); have ze26 := lv_neT e26 (by decide : (26 : Int32).toInt = 26); have ze27 := lv_neT e27 (by decide : (27 : Int32).toInt = 27); have ze28 := lv_neT e28 (by decide : (28 : Int32).toInt = 28); have ze29 := lv_neT e29 (by decide : (29 : Int32).toInt = 29); have ze30 := lv_neT e30 (by decide : (30 : Int32).toInt = 30); have ze31 := lv_neT e31 (by decide : (31 : Int32).toInt = 31); have ze32 := lv_neT e32 (by decide : (32 : Int32).toInt = 32); have ze33 := lv_neT e33 (by decide : (33 : Int32).toInt = 33); have ze34 := lv_neT e34 (by decide : (34 : Int32).toInt = 34); have ze35 := lv_neT e35 (by decide : (35 : Int32).toInt = 35); have ze36 := lv_neT e36 (by decide : (36 : Int32).toInt = 36); have ze37 := lv_neT e37 (by decide : (37 : Int32).toInt = 37); have ze38 := lv_neT e38 (by decide : (38 : Int32).toInt = 38); have ze39 := lv_neT e39 (by decide : (39 : Int32).toInt = 39); omega) (by decide) ?_
    exact zr_sub [0, 1, 2, 3] rfl (hJ1331 m3 h)
