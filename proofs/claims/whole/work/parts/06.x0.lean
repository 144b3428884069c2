set_option maxRecDepth 100000 in
set_option maxHeartbeats 4000000 in
theorem x_fPi_drop {l : Launch} {S : State} {D : va_G} {cA : Nat → ClassId} {tb sx : Nat → Nat} (hG : zv_G S D cA tb sx) (d : Nat) (hd : 1 ≤ d) (o : Nat) (ho : zcl o 2) (m : zv_M) (P : zv_M → Prop) (h : zw (fPi_drop o m) P) : zv_Met l S D cA d 0 0 yX2_drop cX2_drop 1 none [.ref (S.heap.size + o)] SH0 m (zq_v SH0 P) := by
  refine zv_met false hG pf_X2_drop (fun z => by cases z) (Nat.le_of_ble_eq_true rfl) [(0, .ref (S.heap.size + o))] rfl (fun p e s mi args below meth c X => ?_)
  rw [fPi_drop] at h
  refine zr_aload_n X dX2_drop_0 0 rfl ?_
  refine zr_iconst (v := 0) X dX2_drop_1 (by decide) ?_
  refine zr_put X dX2_drop_2 zd_X2_19 rfl rfl rfl ho (by rw [zk_2 ho]; decide) ?_
  exact zr_vret X dX2_drop_5 ⟨Nat.le_refl _, Nat.le_refl _⟩ ⟨rfl, rfl, h⟩

set_option maxRecDepth 100000 in
set_option maxHeartbeats 4000000 in
theorem x_fAc_forget {l : Launch} {S : State} {D : va_G} {cA : Nat → ClassId} {tb sx : Nat → Nat} (hG : zv_G S D cA tb sx) (d : Nat) (hd : 2 ≤ d) (m : zv_M) (P : zv_M → Prop) (h : zw (fAc_forget m) P) : zv_Met l S D cA d 0 0 yX0_forget cX0_forget 1 none [.ref (S.heap.size + 61)] SH0 m (zq_v SH0 P) := by
  refine zv_met false hG pf_X0_forget (fun z => by cases z) (Nat.le_of_ble_eq_true rfl) [(0, .ref (S.heap.size + 61))] rfl (fun p e s mi args below meth c X => ?_)
  rw [fAc_forget] at h
  refine zr_aload_n X dX0_forget_0 0 rfl ?_
  refine zr_getR X dX0_forget_1 zd_X0_12 rfl zo_61 zl_61_0 ?_
  refine zr_callV_v (As := []) (st := []) (d := d - 1) X dX0_forget_4 wm_X0_31 my_X2_drop mv_X2_drop zo_62 rfl (Nat.le_of_ble_eq_true rfl) (zRm (by omega)) ⟨Nat.le_refl _, Nat.le_refl _⟩ (x_fPi_drop hG (d - 1) (by omega) 62 zo_62 m _ (zw_b1 h)) (fun m1 q => ?_)
  replace h := q
  refine zr_aload_n X dX0_forget_7 0 rfl ?_
  refine zr_iconst (v := 0) X dX0_forget_8 (by decide) ?_
  refine zr_put X dX0_forget_9 zd_X0_18 rfl rfl rfl zo_61 (by rw [zk_0 zo_61]; decide) ?_
  exact zr_vret X dX0_forget_12 ⟨Nat.le_refl _, Nat.le_refl _⟩ ⟨rfl, rfl, h⟩

set_option maxRecDepth 100000 in
set_option maxHeartbeats 4000000 in
theorem x_fN_isKind {l : Launch} {S : State} {D : va_G} {cA : Nat → ClassId} {tb sx : Nat → Nat} (hG : zv_G S D cA tb sx) (d : Nat) (hd : 1 ≤ d) (p1 : Int32) (m : zv_M) (P : Int32 → Prop) (h : zw (fN_isKind p1) P) : zv_Met l S D cA d 0 0 yX10_isKind cX10_isKind 1 (some .boolean) [.int p1] SH0 m (zq_i SH0 (fun v m' => m = m' ∧ P v)) := by
  refine zv_met false hG pf_X10_isKind (fun z => by cases z) (Nat.le_of_ble_eq_true rfl) [(0, .int p1)] rfl (fun p e s mi args below meth c X => ?_)
  rw [fN_isKind] at h
  refine zr_iload_n X dX10_isKind_0 0 rfl ?_
  refine zr_if_lt (tgt := 16) X dX10_isKind_1 (by decide) (fun q => ?_) (fun q => ?_)
  · rw [if_pos q] at h
    refine zr_iconst (v := 0) X dX10_isKind_16 (by decide) ?_
    exact zr_iret X dX10_isKind_17 rfl ⟨Nat.le_refl _, Nat.le_refl _⟩ ⟨rfl, _, rfl, rfl, h⟩
  · rw [if_neg q] at h
    refine zr_iload_n X dX10_isKind_4 0 rfl ?_
    refine zr_gets X dX10_isKind_5 (k := 0) (by decide) wg_X10_369 ?_
    refine zr_tlen (v := 7) X dX10_isKind_8 (k := 0) (by decide) rfl ?_
    refine zr_icmp_ge (tgt := 16) X dX10_isKind_9 (by decide) (fun q => ?_) (fun q => ?_)
    · rw [if_neg q] at h
      refine zr_iconst (v := 0) X dX10_isKind_16 (by decide) ?_
      exact zr_iret X dX10_isKind_17 rfl ⟨Nat.le_refl _, Nat.le_refl _⟩ ⟨rfl, _, rfl, rfl, h⟩
    · rw [if_pos q] at h
      refine zr_iconst (v := 1) X dX10_isKind_12 (by decide) ?_
      refine zr_goto (tgt := 17) X dX10_isKind_13 (by decide) ?_
      exact zr_iret X dX10_isKind_17 rfl ⟨Nat.le_refl _, Nat.le_refl _⟩ ⟨rfl, _, rfl, rfl, h⟩

set_option maxRecDepth 100000 in
set_option maxHeartbeats 4000000 in
theorem x_fAc_bodyOf {l : Launch} {S : State} {D : va_G} {cA : Nat → ClassId} {tb sx : Nat → Nat} (hG : zv_G S D cA tb sx) (d : Nat) (hd : 1 ≤ d) (p1 : Int32) (p2 : Int32) (m : zv_M) (P : Int32 → Prop) (h : zw (fAc_bodyOf p1 p2) P) : zv_Met l S D cA d 0 0 yX0_bodyOf cX0_bodyOf 3 (some .int) [.int p1, .int p2] SH0 m (zq_i SH0 (fun v m' => m = m' ∧ P v)) := by
  refine zv_met false hG pf_X0_bodyOf (fun z => by cases z) (Nat.le_of_ble_eq_true rfl) [(0, .int p1), (1, .int p2)] rfl (fun p e s mi args below meth c X => ?_)
  rw [fAc_bodyOf] at h
  refine zr_iload_n X dX0_bodyOf_0 0 rfl ?_
  refine zr_iconst (v := 3) X dX0_bodyOf_1 (by decide) ?_
  refine zr_imul X dX0_bodyOf_2 ?_
  refine zr_iload_n X dX0_bodyOf_3 1 rfl ?_
  refine zr_iadd X dX0_bodyOf_4 ?_
  refine zr_istore_n (lo' := [(2, .int ((p1 * 3) + p2)), (0, .int p1), (1, .int p2)]) X dX0_bodyOf_5 (by decide) rfl ?_
  refine zr_iload_n X dX0_bodyOf_6 2 rfl ?_
  refine zr_if_lt (tgt := 27) X dX0_bodyOf_7 (by decide) (fun q => ?_) (fun q => ?_)
  · rw [if_pos q] at h
    refine zr_iconst (v := 0) X dX0_bodyOf_27 (by decide) ?_
    refine zr_goto (tgt := 36) X dX0_bodyOf_28 (by decide) ?_
    exact zr_iret X dX0_bodyOf_36 rfl ⟨Nat.le_refl _, Nat.le_refl _⟩ ⟨rfl, _, rfl, rfl, h⟩
  · rw [if_neg q] at h
    refine zr_iload_n X dX0_bodyOf_10 2 rfl ?_
    refine zr_iconst (v := 2) X dX0_bodyOf_11 (by decide) ?_
    refine zr_icmp_gt (tgt := 27) X dX0_bodyOf_12 (by decide) (fun q => ?_) (fun q => ?_)
    · rw [if_pos q] at h
      refine zr_iconst (v := 0) X dX0_bodyOf_27 (by decide) ?_
      refine zr_goto (tgt := 36) X dX0_bodyOf_28 (by decide) ?_
      exact zr_iret X dX0_bodyOf_36 rfl ⟨Nat.le_refl _, Nat.le_refl _⟩ ⟨rfl, _, rfl, rfl, h⟩
    · rw [if_neg q] at h
      refine zr_iload_n X dX0_bodyOf_15 0 rfl ?_
      refine zr_if_lt (tgt := 27) X dX0_bodyOf_16 (by decide) (fun q => ?_) (fun q => ?_)
      · rw [if_pos q] at h
        refine zr_iconst (v := 0) X dX0_bodyOf_27 (by decide) ?_
        refine zr_goto (tgt := 36) X dX0_bodyOf_28 (by decide) ?_
        exact zr_iret X dX0_bodyOf_36 rfl ⟨Nat.le_refl _, Nat.le_refl _⟩ ⟨rfl, _, rfl, rfl, h⟩
      · rw [if_neg q] at h
        refine zr_iload_n X dX0_bodyOf_19 0 rfl ?_
        refine zr_gets X dX0_bodyOf_20 (k := 3) (by decide) wg_X0_58 ?_
        refine zr_tlen (v := 21) X dX0_bodyOf_23 (k := 3) (by decide) rfl ?_
        refine zr_icmp_lt (tgt := 31) X dX0_bodyOf_24 (by decide) (fun q => ?_) (fun q => ?_)
        · rw [if_pos q] at h
          refine zr_gets X dX0_bodyOf_31 (k := 3) (by decide) wg_X0_58 ?_
          refine zr_iload_n X dX0_bodyOf_34 0 rfl ?_
          obtain ⟨g0, h⟩ := zg_e h
          refine zr_tld X dX0_bodyOf_35 (k := 3) (by decide) (zI_in g0) ?_
          exact zr_iret X dX0_bodyOf_36 rfl ⟨Nat.le_refl _, Nat.le_refl _⟩ ⟨rfl, _, rfl, rfl, h⟩
        · rw [if_neg q] at h
          refine zr_iconst (v := 0) X dX0_bodyOf_27 (by decide) ?_
          refine zr_goto (tgt := 36) X dX0_bodyOf_28 (by decide) ?_
          exact zr_iret X dX0_bodyOf_36 rfl ⟨Nat.le_refl _, Nat.le_refl _⟩ ⟨rfl, _, rfl, rfl, h⟩

set_option maxRecDepth 100000 in
set_option maxHeartbeats 4000000 in
theorem x_fPi_add {l : Launch} {S : State} {D : va_G} {cA : Nat → ClassId} {tb sx : Nat → Nat} (hG : zv_G S D cA tb sx) (d : Nat) (hd : 1 ≤ d) (o : Nat) (ho : zcl o 2) (p1 : Int32) (m : zv_M) (P : zv_M → Prop) (h : zw (fPi_add o p1 m) P) : zv_Met l S D cA d 0 0 yX2_add cX2_add 2 none [.ref (S.heap.size + o), .int p1] SH0 m (zq_v SH0 P) := by
  refine zv_met false hG pf_X2_add (fun z => by cases z) (Nat.le_of_ble_eq_true rfl) [(0, .ref (S.heap.size + o)), (1, .int p1)] rfl (fun p e s mi args below meth c X => ?_)
  rw [fPi_add] at h
  refine zr_aload_n X dX2_add_0 0 rfl ?_
  refine zr_getI X dX2_add_1 zd_X2_19 rfl ho (by rw [zk_2 ho]; decide) ?_
  refine zr_if_lt (tgt := 39) X dX2_add_4 (by decide) (fun q => ?_) (fun q => ?_)
  · rw [if_pos q] at h
    exact zr_vret X dX2_add_39 ⟨Nat.le_refl _, Nat.le_refl _⟩ ⟨rfl, rfl, h⟩
  · rw [if_neg q] at h
    refine zr_aload_n X dX2_add_7 0 rfl ?_
    refine zr_getI X dX2_add_8 zd_X2_19 rfl ho (by rw [zk_2 ho]; decide) ?_
    refine zr_aload_n X dX2_add_11 0 rfl ?_
    refine zr_getR X dX2_add_12 zd_X2_13 rfl ho (zf_2_0 ho).1 ?_
    refine zr_alen (v := Int32.ofNat (zln (zrf o 0))) X dX2_add_15 (zf_2_0 ho).2 (by decide) rfl ?_
    refine zr_icmp_ge (tgt := 39) X dX2_add_16 (by decide) (fun q => ?_) (fun q => ?_)
    · rw [if_neg q] at h
      exact zr_vret X dX2_add_39 ⟨Nat.le_refl _, Nat.le_refl _⟩ ⟨rfl, rfl, h⟩
    · rw [if_pos q] at h
      refine zr_aload_n X dX2_add_19 0 rfl ?_
      refine zr_getR X dX2_add_20 zd_X2_13 rfl ho (zf_2_0 ho).1 ?_
      refine zr_aload_n X dX2_add_23 0 rfl ?_
      refine zr_getI X dX2_add_24 zd_X2_19 rfl ho (by rw [zk_2 ho]; decide) ?_
      refine zr_iload_n X dX2_add_27 1 rfl ?_
      obtain ⟨g0, h⟩ := zg_e h
      refine zr_iast X dX2_add_28 (zf_2_0 ho).2 (zI_in g0) ?_
      refine zr_aload_n X dX2_add_29 0 rfl ?_
      refine zr_dup X dX2_add_30 rfl ?_
      refine zr_getI X dX2_add_31 zd_X2_19 rfl ho (by rw [zk_2 ho]; decide) ?_
      refine zr_iconst (v := 1) X dX2_add_34 (by decide) ?_
      refine zr_iadd X dX2_add_35 ?_
      refine zr_put X dX2_add_36 zd_X2_19 rfl rfl rfl ho (by rw [zk_2 ho]; decide) ?_
      exact zr_vret X dX2_add_39 ⟨Nat.le_refl _, Nat.le_refl _⟩ ⟨rfl, rfl, h⟩

set_option maxRecDepth 100000 in
set_option maxHeartbeats 4000000 in
theorem xo_fAc_answerOf {l : Launch} {S : State} {D : va_G} {cA : Nat → ClassId} {tb sx : Nat → Nat} (hG : zv_G S D cA tb sx) (d dr : Nat) (hd : 2 ≤ d) (hdr : dr + 1 ≤ d) (rec_answerOf : Int32 → Int32 → Int32 → Int32 → zv_M → Option (Int32 × zv_M)) (rec_run : Int32 → Int32 → Int32 → Int32 → zv_M → Option (Int32 × zv_M)) (hrec_answerOf : ∀ (p1 : Int32) (p2 : Int32) (p3 : Int32) (p4 : Int32) (m : zv_M) (P : Int32 → zv_M → Prop), zw2 (rec_answerOf p1 p2 p3 p4 m) P → zv_Met l S D cA dr 0 0 yX0_answerOf cX0_answerOf 5 (some .int) [.ref (S.heap.size + 61), .int p1, .int p2, .int p3, .int p4] SH0 m (zq_i SH0 P)) (hrec_run : ∀ (p1 : Int32) (p2 : Int32) (p3 : Int32) (p4 : Int32) (m : zv_M) (P : Int32 → zv_M → Prop), zw2 (rec_run p1 p2 p3 p4 m) P → zv_Met l S D cA dr 0 0 yX0_run cX0_run 7 (some .int) [.ref (S.heap.size + 61), .int p1, .int p2, .int p3, .int p4] SH0 m (zq_i SH0 P)) (p1 : Int32) (p2 : Int32) (p3 : Int32) (p4 : Int32) (m : zv_M) (P : Int32 → zv_M → Prop) (h : zw2 (fAc_answerOf_b rec_answerOf rec_run p1 p2 p3 p4 m) P) : zv_Met l S D cA d 0 0 yX0_answerOf cX0_answerOf 5 (some .int) [.ref (S.heap.size + 61), .int p1, .int p2, .int p3, .int p4] SH0 m (zq_i SH0 P) := by
  refine zv_met false hG pf_X0_answerOf (fun z => by cases z) (Nat.le_of_ble_eq_true rfl) [(0, .ref (S.heap.size + 61)), (1, .int p1), (2, .int p2), (3, .int p3), (4, .int p4)] rfl (fun p e s mi args below meth c X => ?_)
  rw [fAc_answerOf_b] at h
  refine zr_iload_n X dX0_answerOf_0 1 rfl ?_
  by_cases e0 : p1 = 10
  · rw [if_pos e0] at h
    refine zr_lookup (off := 99) (tgt := 100) X dX0_answerOf_1 (by decide) (by rw [e0]; decide) (by decide) ?_
    refine zr_iload_n X dX0_answerOf_100 3 rfl ?_
    refine zr_aload_n X dX0_answerOf_101 0 rfl ?_
    refine zr_getI X dX0_answerOf_102 zd_X0_22 rfl zo_61 (by rw [zk_0 zo_61]; decide) ?_
    refine zr_iadd X dX0_answerOf_105 ?_
    exact zr_iret X dX0_answerOf_106 rfl ⟨Nat.le_refl _, Nat.le_refl _⟩ ⟨rfl, _, rfl, h⟩
  rw [if_neg e0] at h
  by_cases e1 : p1 = 11
  · rw [if_pos e1] at h
    refine zr_lookup (off := 106) (tgt := 107) X dX0_answerOf_1 (by decide) (by rw [e1]; decide) (by decide) ?_
    refine zr_aload_n X dX0_answerOf_107 0 rfl ?_
    refine zr_aload_n X dX0_answerOf_108 0 rfl ?_
    refine zr_getI X dX0_answerOf_109 zd_X0_25 rfl zo_61 (by rw [zk_0 zo_61]; decide) ?_
    refine zr_iconst (v := 0) X dX0_answerOf_112 (by decide) ?_
    refine zr_iload_n X dX0_answerOf_113 3 rfl ?_
    refine zr_iload X dX0_answerOf_114 4 rfl ?_
    refine zr_callV_i (As := [.int (m.1 61 3), .int 0, .int p3, .int p4]) (st := []) (d := dr) X dX0_answerOf_116 wm_X0_34 my_X0_run mv_X0_run zo_61 rfl (Nat.le_of_ble_eq_true rfl) (zRm (by omega)) ⟨Nat.le_refl _, Nat.le_refl _⟩ (hrec_run (m.1 61 3) 0 p3 p4 m _ (zw_b22 h)) (fun r1 m2 q => ?_)
    replace h := q
    refine zr_aload_n X dX0_answerOf_119 0 rfl ?_
    refine zr_getI X dX0_answerOf_120 zd_X0_28 rfl zo_61 (by rw [zk_0 zo_61]; decide) ?_
    refine zr_isub X dX0_answerOf_123 ?_
    exact zr_iret X dX0_answerOf_124 rfl ⟨Nat.le_refl _, Nat.le_refl _⟩ ⟨rfl, _, rfl, h⟩
  rw [if_neg e1] at h
  by_cases e2 : p1 = 12
  · rw [if_pos e2] at h
    refine zr_lookup (off := 124) (tgt := 125) X dX0_answerOf_1 (by decide) (by rw [e2]; decide) (by decide) ?_
    refine zr_aload_n X dX0_answerOf_125 0 rfl ?_
    refine zr_aload_n X dX0_answerOf_126 0 rfl ?_
    refine zr_getI X dX0_answerOf_127 zd_X0_25 rfl zo_61 (by rw [zk_0 zo_61]; decide) ?_
    refine zr_iconst (v := 1) X dX0_answerOf_130 (by decide) ?_
    refine zr_iload_n X dX0_answerOf_131 3 rfl ?_
    refine zr_iload X dX0_answerOf_132 4 rfl ?_
    refine zr_callV_i (As := [.int (m.1 61 3), .int 1, .int p3, .int p4]) (st := []) (d := dr) X dX0_answerOf_134 wm_X0_34 my_X0_run mv_X0_run zo_61 rfl (Nat.le_of_ble_eq_true rfl) (zRm (by omega)) ⟨Nat.le_refl _, Nat.le_refl _⟩ (hrec_run (m.1 61 3) 1 p3 p4 m _ (zw_b22 h)) (fun r3 m4 q => ?_)
    replace h := q
    refine zr_iconst (v := 2) X dX0_answerOf_137 (by decide) ?_
    refine zr_imul X dX0_answerOf_138 ?_
    exact zr_iret X dX0_answerOf_139 rfl ⟨Nat.le_refl _, Nat.le_refl _⟩ ⟨rfl, _, rfl, h⟩
  rw [if_neg e2] at h
  by_cases e3 : p1 = 20
  · rw [if_pos e3] at h
    refine zr_lookup (off := 139) (tgt := 140) X dX0_answerOf_1 (by decide) (by rw [e3]; decide) (by decide) ?_
    refine zr_aload_n X dX0_answerOf_140 0 rfl ?_
    refine zr_iload_n X dX0_answerOf_141 2 rfl ?_
    refine zr_iconst (v := 1) X dX0_answerOf_142 (by decide) ?_
    refine zr_iload_n X dX0_answerOf_143 3 rfl ?_
    refine zr_iload X dX0_answerOf_144 4 rfl ?_
    refine zr_callV_i (As := [.int p2, .int 1, .int p3, .int p4]) (st := []) (d := dr) X dX0_answerOf_146 wm_X0_34 my_X0_run mv_X0_run zo_61 rfl (Nat.le_of_ble_eq_true rfl) (zRm (by omega)) ⟨Nat.le_refl _, Nat.le_refl _⟩ (hrec_run p2 1 p3 p4 m _ (zw_b22 h)) (fun r5 m6 q => ?_)
    replace h := q
    refine zr_bipush (v := 6) X dX0_answerOf_149 (by decide) ?_
    refine zr_ixor X dX0_answerOf_151 ?_
    exact zr_iret X dX0_answerOf_152 rfl ⟨Nat.le_refl _, Nat.le_refl _⟩ ⟨rfl, _, rfl, h⟩
  rw [if_neg e3] at h
  by_cases e4 : p1 = 30
  · rw [if_pos e4] at h
    refine zr_lookup (off := 152) (tgt := 153) X dX0_answerOf_1 (by decide) (by rw [e4]; decide) (by decide) ?_
    refine zr_aload_n X dX0_answerOf_153 0 rfl ?_
    refine zr_iload_n X dX0_answerOf_154 2 rfl ?_
    refine zr_iconst (v := 0) X dX0_answerOf_155 (by decide) ?_
    refine zr_iload_n X dX0_answerOf_156 3 rfl ?_
    refine zr_iconst (v := 3) X dX0_answerOf_157 (by decide) ?_
    refine zr_imul X dX0_answerOf_158 ?_
    refine zr_iload X dX0_answerOf_159 4 rfl ?_
    refine zr_callV_i (As := [.int p2, .int 0, .int (p3 * 3), .int p4]) (st := []) (d := dr) X dX0_answerOf_161 wm_X0_34 my_X0_run mv_X0_run zo_61 rfl (Nat.le_of_ble_eq_true rfl) (zRm (by omega)) ⟨Nat.le_refl _, Nat.le_refl _⟩ (hrec_run p2 0 (p3 * 3) p4 m _ (zw_b22 h)) (fun r7 m8 q => ?_)
    replace h := q
    exact zr_iret X dX0_answerOf_164 rfl ⟨Nat.le_refl _, Nat.le_refl _⟩ ⟨rfl, _, rfl, h⟩
  rw [if_neg e4] at h
  by_cases e5 : p1 = 40
  · rw [if_pos e5] at h
    refine zr_lookup (off := 164) (tgt := 165) X dX0_answerOf_1 (by decide) (by rw [e5]; decide) (by decide) ?_
    refine zr_aload_n X dX0_answerOf_165 0 rfl ?_
    refine zr_iload_n X dX0_answerOf_166 2 rfl ?_
    refine zr_iconst (v := 2) X dX0_answerOf_167 (by decide) ?_
    refine zr_iload_n X dX0_answerOf_168 3 rfl ?_
    refine zr_iload X dX0_answerOf_169 4 rfl ?_
    refine zr_callV_i (As := [.int p2, .int 2, .int p3, .int p4]) (st := []) (d := dr) X dX0_answerOf_171 wm_X0_34 my_X0_run mv_X0_run zo_61 rfl (Nat.le_of_ble_eq_true rfl) (zRm (by omega)) ⟨Nat.le_refl _, Nat.le_refl _⟩ (hrec_run p2 2 p3 p4 m _ (zw_b22 h)) (fun r9 m10 q => ?_)
    replace h := q
    refine zr_aload_n X dX0_answerOf_174 0 rfl ?_
    refine zr_aload_n X dX0_answerOf_175 0 rfl ?_
    refine zr_getI X dX0_answerOf_176 zd_X0_25 rfl zo_61 (by rw [zk_0 zo_61]; decide) ?_
    refine zr_iconst (v := 1) X dX0_answerOf_179 (by decide) ?_
    refine zr_iconst (v := 1) X dX0_answerOf_180 (by decide) ?_
    refine zr_iload X dX0_answerOf_181 4 rfl ?_
    refine zr_callV_i (As := [.int (m10.1 61 3), .int 1, .int 1, .int p4]) (st := [.int r9]) (d := dr) X dX0_answerOf_183 wm_X0_34 my_X0_run mv_X0_run zo_61 rfl (Nat.le_of_ble_eq_true rfl) (zRm (by omega)) ⟨Nat.le_refl _, Nat.le_refl _⟩ (hrec_run (m10.1 61 3) 1 1 p4 m10 _ (zw_b22 h)) (fun r11 m12 q => ?_)
    replace h := q
    refine zr_iadd X dX0_answerOf_186 ?_
    exact zr_iret X dX0_answerOf_187 rfl ⟨Nat.le_refl _, Nat.le_refl _⟩ ⟨rfl, _, rfl, h⟩
  rw [if_neg e5] at h
  by_cases e6 : p1 = 50
  · rw [if_pos e6] at h
    refine zr_lookup (off := 187) (tgt := 188) X dX0_answerOf_1 (by decide) (by rw [e6]; decide) (by decide) ?_
    refine zr_aload_n X dX0_answerOf_188 0 rfl ?_
    refine zr_iload_n X dX0_answerOf_189 2 rfl ?_
    refine zr_iconst (v := 0) X dX0_answerOf_190 (by decide) ?_
    refine zr_iload_n X dX0_answerOf_191 3 rfl ?_
    refine zr_iload X dX0_answerOf_192 4 rfl ?_
    refine zr_callV_i (As := [.int p2, .int 0, .int p3, .int p4]) (st := []) (d := dr) X dX0_answerOf_194 wm_X0_34 my_X0_run mv_X0_run zo_61 rfl (Nat.le_of_ble_eq_true rfl) (zRm (by omega)) ⟨Nat.le_refl _, Nat.le_refl _⟩ (hrec_run p2 0 p3 p4 m _ (zw_b22 h)) (fun r13 m14 q => ?_)
    replace h := q
    refine zr_ineg X dX0_answerOf_197 ?_
    exact zr_iret X dX0_answerOf_198 rfl ⟨Nat.le_refl _, Nat.le_refl _⟩ ⟨rfl, _, rfl, h⟩
  rw [if_neg e6] at h
  by_cases e7 : p1 = 51
  · rw [if_pos e7] at h
    refine zr_lookup (off := 198) (tgt := 199) X dX0_answerOf_1 (by decide) (by rw [e7]; decide) (by decide) ?_
    refine zr_aload_n X dX0_answerOf_199 0 rfl ?_
    refine zr_iload_n X dX0_answerOf_200 2 rfl ?_
    refine zr_iconst (v := 1) X dX0_answerOf_201 (by decide) ?_
    refine zr_iload_n X dX0_answerOf_202 3 rfl ?_
    refine zr_iconst (v := 1) X dX0_answerOf_203 (by decide) ?_
    refine zr_iadd X dX0_answerOf_204 ?_
    refine zr_iload X dX0_answerOf_205 4 rfl ?_
    refine zr_callV_i (As := [.int p2, .int 1, .int (p3 + 1), .int p4]) (st := []) (d := dr) X dX0_answerOf_207 wm_X0_34 my_X0_run mv_X0_run zo_61 rfl (Nat.le_of_ble_eq_true rfl) (zRm (by omega)) ⟨Nat.le_refl _, Nat.le_refl _⟩ (hrec_run p2 1 (p3 + 1) p4 m _ (zw_b22 h)) (fun r15 m16 q => ?_)
    replace h := q
    exact zr_iret X dX0_answerOf_210 rfl ⟨Nat.le_refl _, Nat.le_refl _⟩ ⟨rfl, _, rfl, h⟩
  rw [if_neg e7] at h
  by_cases e8 : p1 = 60
  · rw [if_pos e8] at h
    refine zr_lookup (off := 210) (tgt := 211) X dX0_answerOf_1 (by decide) (by rw [e8]; decide) (by decide) ?_
    refine zr_aload_n X dX0_answerOf_211 0 rfl ?_
    refine zr_iload_n X dX0_answerOf_212 2 rfl ?_
    refine zr_iconst (v := 2) X dX0_answerOf_213 (by decide) ?_
    refine zr_iload_n X dX0_answerOf_214 3 rfl ?_
    refine zr_aload_n X dX0_answerOf_215 0 rfl ?_
    refine zr_getI X dX0_answerOf_216 zd_X0_22 rfl zo_61 (by rw [zk_0 zo_61]; decide) ?_
    refine zr_isub X dX0_answerOf_219 ?_
    refine zr_iload X dX0_answerOf_220 4 rfl ?_
    refine zr_callV_i (As := [.int p2, .int 2, .int (p3 - (m.1 61 2)), .int p4]) (st := []) (d := dr) X dX0_answerOf_222 wm_X0_34 my_X0_run mv_X0_run zo_61 rfl (Nat.le_of_ble_eq_true rfl) (zRm (by omega)) ⟨Nat.le_refl _, Nat.le_refl _⟩ (hrec_run p2 2 (p3 - (m.1 61 2)) p4 m _ (zw_b22 h)) (fun r17 m18 q => ?_)
    replace h := q
    exact zr_iret X dX0_answerOf_225 rfl ⟨Nat.le_refl _, Nat.le_refl _⟩ ⟨rfl, _, rfl, h⟩
  rw [if_neg e8] at h
  by_cases e9 : p1 = 70
  · rw [if_pos e9] at h
    refine zr_lookup (off := 225) (tgt := 226) X dX0_answerOf_1 (by decide) (by rw [e9]; decide) (by decide) ?_
    refine zr_aload_n X dX0_answerOf_226 0 rfl ?_
    refine zr_iload_n X dX0_answerOf_227 2 rfl ?_
    refine zr_iconst (v := 1) X dX0_answerOf_228 (by decide) ?_
    refine zr_iload_n X dX0_answerOf_229 3 rfl ?_
    refine zr_iload X dX0_answerOf_230 4 rfl ?_
    refine zr_callV_i (As := [.int p2, .int 1, .int p3, .int p4]) (st := []) (d := dr) X dX0_answerOf_232 wm_X0_34 my_X0_run mv_X0_run zo_61 rfl (Nat.le_of_ble_eq_true rfl) (zRm (by omega)) ⟨Nat.le_refl _, Nat.le_refl _⟩ (hrec_run p2 1 p3 p4 m _ (zw_b22 h)) (fun r19 m20 q => ?_)
    replace h := q
    refine zr_aload_n X dX0_answerOf_235 0 rfl ?_
    refine zr_iload_n X dX0_answerOf_236 2 rfl ?_
    refine zr_iconst (v := 0) X dX0_answerOf_237 (by decide) ?_
    refine zr_iconst (v := 2) X dX0_answerOf_238 (by decide) ?_
    refine zr_iload X dX0_answerOf_239 4 rfl ?_
    refine zr_callV_i (As := [.int p2, .int 0, .int 2, .int p4]) (st := [.int r19]) (d := dr) X dX0_answerOf_241 wm_X0_34 my_X0_run mv_X0_run zo_61 rfl (Nat.le_of_ble_eq_true rfl) (zRm (by omega)) ⟨Nat.le_refl _, Nat.le_refl _⟩ (hrec_run p2 0 2 p4 m20 _ (zw_b22 h)) (fun r21 m22 q => ?_)
    replace h := q
    refine zr_iadd X dX0_answerOf_244 ?_
    exact zr_iret X dX0_answerOf_245 rfl ⟨Nat.le_refl _, Nat.le_refl _⟩ ⟨rfl, _, rfl, h⟩
  rw [if_neg e9] at h
  by_cases e10 : p1 = 71
  · rw [if_pos e10] at h
    refine zr_lookup (off := 245) (tgt := 246) X dX0_answerOf_1 (by decide) (by rw [e10]; decide) (by decide) ?_
    refine zr_aload_n X dX0_answerOf_246 0 rfl ?_
    refine zr_iload_n X dX0_answerOf_247 2 rfl ?_
    refine zr_iconst (v := 0) X dX0_answerOf_248 (by decide) ?_
    refine zr_iload_n X dX0_answerOf_249 3 rfl ?_
    refine zr_iload X dX0_answerOf_250 4 rfl ?_
    refine zr_callV_i (As := [.int p2, .int 0, .int p3, .int p4]) (st := []) (d := dr) X dX0_answerOf_252 wm_X0_34 my_X0_run mv_X0_run zo_61 rfl (Nat.le_of_ble_eq_true rfl) (zRm (by omega)) ⟨Nat.le_refl _, Nat.le_refl _⟩ (hrec_run p2 0 p3 p4 m _ (zw_b22 h)) (fun r23 m24 q => ?_)
    replace h := q
    refine zr_aload_n X dX0_answerOf_255 0 rfl ?_
    refine zr_getI X dX0_answerOf_256 zd_X0_28 rfl zo_61 (by rw [zk_0 zo_61]; decide) ?_
    refine zr_ixor X dX0_answerOf_259 ?_
    exact zr_iret X dX0_answerOf_260 rfl ⟨Nat.le_refl _, Nat.le_refl _⟩ ⟨rfl, _, rfl, h⟩
  rw [if_neg e10] at h
  refine zr_lookup (off := 260) (tgt := 261) X dX0_answerOf_1 (by decide) (by rw [lv_osw e0 (by decide), lv_osw e1 (by decide), lv_osw e2 (by decide), lv_osw e3 (by decide), lv_osw e4 (by decide), lv_osw e5 (by decide), lv_osw e6 (by decide), lv_osw e7 (by decide), lv_osw e8 (by decide), lv_osw e9 (by decide), lv_osw e10 (by decide)]; rfl) (by decide) ?_
  refine zr_iconst (v := 0) X dX0_answerOf_261 (by decide) ?_
  exact zr_iret X dX0_answerOf_262 rfl ⟨Nat.le_refl _, Nat.le_refl _⟩ ⟨rfl, _, rfl, h⟩

set_option maxRecDepth 100000 in
set_option maxHeartbeats 4000000 in
theorem xo_fAc_run {l : Launch} {S : State} {D : va_G} {cA : Nat → ClassId} {tb sx : Nat → Nat} (hG : zv_G S D cA tb sx) (d dr : Nat) (hd : 2 ≤ d) (hdr : dr + 1 ≤ d) (rec_answerOf : Int32 → Int32 → Int32 → Int32 → zv_M → Option (Int32 × zv_M)) (rec_run : Int32 → Int32 → Int32 → Int32 → zv_M → Option (Int32 × zv_M)) (hrec_answerOf : ∀ (p1 : Int32) (p2 : Int32) (p3 : Int32) (p4 : Int32) (m : zv_M) (P : Int32 → zv_M → Prop), zw2 (rec_answerOf p1 p2 p3 p4 m) P → zv_Met l S D cA dr 0 0 yX0_answerOf cX0_answerOf 5 (some .int) [.ref (S.heap.size + 61), .int p1, .int p2, .int p3, .int p4] SH0 m (zq_i SH0 P)) (hrec_run : ∀ (p1 : Int32) (p2 : Int32) (p3 : Int32) (p4 : Int32) (m : zv_M) (P : Int32 → zv_M → Prop), zw2 (rec_run p1 p2 p3 p4 m) P → zv_Met l S D cA dr 0 0 yX0_run cX0_run 7 (some .int) [.ref (S.heap.size + 61), .int p1, .int p2, .int p3, .int p4] SH0 m (zq_i SH0 P)) (p1 : Int32) (p2 : Int32) (p3 : Int32) (p4 : Int32) (m : zv_M) (P : Int32 → zv_M → Prop) (h : zw2 (fAc_run_b rec_answerOf rec_run p1 p2 p3 p4 m) P) : zv_Met l S D cA d 0 0 yX0_run cX0_run 7 (some .int) [.ref (S.heap.size + 61), .int p1, .int p2, .int p3, .int p4] SH0 m (zq_i SH0 P) := by
  refine zv_met false hG pf_X0_run (fun z => by cases z) (Nat.le_of_ble_eq_true rfl) [(0, .ref (S.heap.size + 61)), (1, .int p1), (2, .int p2), (3, .int p3), (4, .int p4)] rfl (fun p e s mi args below meth c X => ?_)
  rw [fAc_run_b] at h
  refine zr_iload_n X dX0_run_0 1 rfl ?_
  refine zr_istore (lo' := [(5, .int p1), (0, .ref (S.heap.size + 61)), (1, .int p1), (2, .int p2), (3, .int p3), (4, .int p4)]) X dX0_run_1 (by decide) rfl ?_
  refine zr_iconst (v := 0) X dX0_run_3 (by decide) ?_
  refine zr_istore (lo' := [(6, .int 0), (5, .int p1), (0, .ref (S.heap.size + 61)), (1, .int p1), (2, .int p2), (3, .int p3), (4, .int p4)]) X dX0_run_4 (by decide) rfl ?_
  refine zr_sub [2, 4, 5, 6, 1, 0] rfl ?_
  have hR1 : ∀ (a4 : Int32), zw2 (zb1 (fN_isKind a4) (fun r5 => if r5 = 0 then some (0, m) else if (40 : Int32) < p4 then some (0, m) else zb1 (fAc_bodyOf a4 p2) (fun r7 => zb1 (fPi_add 62 r7 m) (fun m9 => zg (zI a4 (zv_tl 0)) (zb2 (rec_answerOf r7 (zv_tv 0 a4.toNatClampNeg) p3 (p4 + 1) (wI m9 61 1 ((m9.1 61 1) + 1))) (fun r10 m11 => some (r10, m11)))))) : Option (Int32 × zv_M)) P → zv_V S D cA p l e (zv_rm d 0 0) s mi args below meth c 7 (MQ below (zv_Q S D cA (zq_i SH0 P)) args s 0 0 (zv_fr S)) 0 0 46 [(0, .ref (S.heap.size + 61)), (2, .int p2), (3, .int p3), (4, .int p4), (5, .int a4)] [] SH0 m := by
    intro a4 h
    refine zr_iload X dX0_run_46 4 rfl ?_
    refine zr_callSN_i (As := [.int a4]) (st := []) (d := d - 1) X dX0_run_48 wm_X0_44 ws_X10_isKind my_X10_isKind rfl (Nat.le_of_ble_eq_true rfl) (zRm (by omega)) ⟨Nat.le_refl _, Nat.le_refl _⟩ (x_fN_isKind hG (d - 1) (by omega) a4 m _ (zw_b12 h)) (fun r5 m6 q => ?_)
    obtain ⟨rfl, h⟩ := q
    refine zr_if_eq (tgt := 61) X dX0_run_51 (by decide) (fun q => ?_) (fun q => ?_)
    · rw [if_pos q] at h
      refine zr_iconst (v := 0) X dX0_run_61 (by decide) ?_
      exact zr_iret X dX0_run_62 rfl ⟨Nat.le_refl _, Nat.le_refl _⟩ ⟨rfl, _, rfl, h⟩
    · rw [if_neg q] at h
      refine zr_iload X dX0_run_54 3 rfl ?_
      refine zr_bipush (v := 40) X dX0_run_56 (by decide) ?_
      refine zr_icmp_le (tgt := 63) X dX0_run_58 (by decide) (fun q => ?_) (fun q => ?_)
      · rw [if_neg q] at h
        refine zr_iload X dX0_run_63 4 rfl ?_
        refine zr_iload_n X dX0_run_65 1 rfl ?_
        refine zr_callS_i (As := [.int a4, .int p2]) (st := []) (d := d - 1) X dX0_run_66 wm_X0_48 ws_X0_bodyOf my_X0_bodyOf rfl (Nat.le_of_ble_eq_true rfl) (zRm (by omega)) ⟨Nat.le_refl _, Nat.le_refl _⟩ (x_fAc_bodyOf hG (d - 1) (by omega) a4 p2 m _ (zw_b12 h)) (fun r7 m8 q => ?_)
        obtain ⟨rfl, h⟩ := q
        refine zr_istore (lo' := [(6, .int r7), (0, .ref (S.heap.size + 61)), (2, .int p2), (3, .int p3), (4, .int p4), (5, .int a4)]) X dX0_run_69 (by decide) rfl ?_
        refine zr_aload_n X dX0_run_71 1 rfl ?_
        refine zr_getR X dX0_run_72 zd_X0_12 rfl zo_61 zl_61_0 ?_
        refine zr_iload X dX0_run_75 0 rfl ?_
        refine zr_callV_v (As := [.int r7]) (st := []) (d := d - 1) X dX0_run_77 wm_X0_52 my_X2_add mv_X2_add zo_62 rfl (Nat.le_of_ble_eq_true rfl) (zRm (by omega)) ⟨Nat.le_refl _, Nat.le_refl _⟩ (x_fPi_add hG (d - 1) (by omega) 62 zo_62 r7 m _ (zw_b12 h)) (fun m9 q => ?_)
        replace h := q
        refine zr_aload_n X dX0_run_80 1 rfl ?_
        refine zr_dup X dX0_run_81 rfl ?_
        refine zr_getI X dX0_run_82 zd_X0_18 rfl zo_61 (by rw [zk_0 zo_61]; decide) ?_
        refine zr_iconst (v := 1) X dX0_run_85 (by decide) ?_
        refine zr_iadd X dX0_run_86 ?_
        refine zr_put X dX0_run_87 zd_X0_18 rfl rfl rfl zo_61 (by rw [zk_0 zo_61]; decide) ?_
        refine zr_aload_n X dX0_run_90 1 rfl ?_
        refine zr_iload X dX0_run_91 0 rfl ?_
        refine zr_getsN X dX0_run_93 (k := 0) (by decide) wg_X0_38 ?_
        refine zr_iload X dX0_run_96 5 rfl ?_
        obtain ⟨g0, h⟩ := zg_e2 h
        refine zr_tld X dX0_run_98 (k := 0) (by decide) (zI_in g0) ?_
        refine zr_iload_n X dX0_run_99 3 rfl ?_
        refine zr_iload X dX0_run_100 4 rfl ?_
        refine zr_iconst (v := 1) X dX0_run_102 (by decide) ?_
        refine zr_iadd X dX0_run_103 ?_
        refine zr_callV_i (As := [.int r7, .int (zv_tv 0 a4.toNatClampNeg), .int p3, .int (p4 + 1)]) (st := []) (d := dr) X dX0_run_104 wm_X0_55 my_X0_answerOf mv_X0_answerOf zo_61 rfl (Nat.le_of_ble_eq_true rfl) (zRm (by omega)) ⟨Nat.le_refl _, Nat.le_refl _⟩ (hrec_answerOf r7 (zv_tv 0 a4.toNatClampNeg) p3 (p4 + 1) (wI m9 61 1 ((m9.1 61 1) + 1)) _ (zw_b22 h)) (fun r10 m11 q => ?_)
        replace h := q
        exact zr_iret X dX0_run_107 rfl ⟨Nat.le_refl _, Nat.le_refl _⟩ ⟨rfl, _, rfl, h⟩
      · rw [if_pos q] at h
        refine zr_iconst (v := 0) X dX0_run_61 (by decide) ?_
        exact zr_iret X dX0_run_62 rfl ⟨Nat.le_refl _, Nat.le_refl _⟩ ⟨rfl, _, rfl, h⟩
  refine zl_w2 (fun a2 a3 => zv_V S D cA p l e (zv_rm d 0 0) s mi args below meth c 7 (MQ below (zv_Q S D cA (zq_i SH0 P)) args s 0 0 (zv_fr S)) 0 0 6 [(0, .ref (S.heap.size + 61)), (2, .int p2), (3, .int p3), (4, .int p4), (5, .int a2), (6, .int a3)] [] SH0 m) (fAc_run_l6 p2) _ (fun P1 hl1 hr1 a2 a3 h => ?_) zFU p1 0 (zw_b12 h)
  rw [fAc_run_l6] at h
  refine zr_iload X dX0_run_6 5 rfl ?_
  refine zr_getsN X dX0_run_8 (k := 0) (by decide) wg_X0_38 ?_
  refine zr_tlen (v := 7) X dX0_run_11 (k := 0) (by decide) rfl ?_
  refine zr_icmp_ge (tgt := 46) X dX0_run_12 (by decide) (fun q => ?_) (fun q => ?_)
  · rw [if_neg q] at h
    have h := hr1 _ h
    exact zr_sub [0, 1, 2, 3, 4] rfl (hR1 a2 h)
  · rw [if_pos q] at h
    refine zr_iload X dX0_run_15 4 rfl ?_
    refine zr_callSN_i (As := [.int a2]) (st := []) (d := d - 1) X dX0_run_17 wm_X0_44 ws_X10_isKind my_X10_isKind rfl (Nat.le_of_ble_eq_true rfl) (zRm (by omega)) ⟨Nat.le_refl _, Nat.le_refl _⟩ (x_fN_isKind hG (d - 1) (by omega) a2 m _ (zw_b1 h)) (fun r12 m13 q => ?_)
    obtain ⟨rfl, h⟩ := q
    refine zr_if_eq (tgt := 46) X dX0_run_20 (by decide) (fun q => ?_) (fun q => ?_)
    · rw [if_pos q] at h
      have h := hr1 _ h
      exact zr_sub [0, 1, 2, 3, 4] rfl (hR1 a2 h)
    · rw [if_neg q] at h
      refine zr_iload X dX0_run_23 4 rfl ?_
      refine zr_iload_n X dX0_run_25 1 rfl ?_
      refine zr_callS_i (As := [.int a2, .int p2]) (st := []) (d := d - 1) X dX0_run_26 wm_X0_48 ws_X0_bodyOf my_X0_bodyOf rfl (Nat.le_of_ble_eq_true rfl) (zRm (by omega)) ⟨Nat.le_refl _, Nat.le_refl _⟩ (x_fAc_bodyOf hG (d - 1) (by omega) a2 p2 m _ (zw_b1 h)) (fun r14 m15 q => ?_)
      obtain ⟨rfl, h⟩ := q
      refine zr_if_ne (tgt := 46) X dX0_run_29 (by decide) (fun q => ?_) (fun q => ?_)
      · rw [if_neg q] at h
        have h := hr1 _ h
        exact zr_sub [0, 1, 2, 3, 4] rfl (hR1 a2 h)
      · rw [if_pos q] at h
        refine zr_getsN X dX0_run_32 (k := 0) (by decide) wg_X0_38 ?_
        refine zr_iload X dX0_run_35 4 rfl ?_
        obtain ⟨g0, h⟩ := zg_e h
        refine zr_tld X dX0_run_37 (k := 0) (by decide) (zI_in g0) ?_
        refine zr_istore (lo' := [(5, .int (zv_tv 0 a2.toNatClampNeg)), (0, .ref (S.heap.size + 61)), (2, .int p2), (3, .int p3), (4, .int p4), (6, .int a3)]) X dX0_run_38 (by decide) rfl ?_
        refine zr_iinc (v := a3 + 1) (lo' := [(6, .int (a3 + 1)), (5, .int (zv_tv 0 a2.toNatClampNeg)), (0, .ref (S.heap.size + 61)), (2, .int p2), (3, .int p3), (4, .int p4)]) X dX0_run_40 5 rfl rfl (by decide) rfl ?_
        refine zr_goto (tgt := 6) X dX0_run_43 (by decide) ?_
        have h := hl1 _ h
        exact zr_sub [2, 3, 4, 5, 1, 0] rfl h

set_option maxRecDepth 100000 in
set_option maxHeartbeats 4000000 in
theorem x_fAc_answerOf_run_n {l : Launch} {S : State} {D : va_G} {cA : Nat → ClassId} {tb sx : Nat → Nat} (hG : zv_G S D cA tb sx) : ∀ (n d : Nat), 2 + n ≤ d → (∀ (p1 : Int32) (p2 : Int32) (p3 : Int32) (p4 : Int32) (m : zv_M) (P : Int32 → zv_M → Prop), zw2 (fAc_answerOf_run n true p1 p2 p3 p4 m) P → zv_Met l S D cA d 0 0 yX0_answerOf cX0_answerOf 5 (some .int) [.ref (S.heap.size + 61), .int p1, .int p2, .int p3, .int p4] SH0 m (zq_i SH0 P)) ∧ (∀ (p1 : Int32) (p2 : Int32) (p3 : Int32) (p4 : Int32) (m : zv_M) (P : Int32 → zv_M → Prop), zw2 (fAc_answerOf_run n false p1 p2 p3 p4 m) P → zv_Met l S D cA d 0 0 yX0_run cX0_run 7 (some .int) [.ref (S.heap.size + 61), .int p1, .int p2, .int p3, .int p4] SH0 m (zq_i SH0 P)) := by
  intro n
  induction n with
  | zero =>
    intro d hd
    refine ⟨?_, ?_⟩
    · intro p1 p2 p3 p4 m P h
      rw [fAc_answerOf_run] at h
      exact h.elim
    · intro p1 p2 p3 p4 m P h
      rw [fAc_answerOf_run] at h
      exact h.elim
  | succ n ih =>
    intro d hd
    have i := ih (d - 1) (by omega)
    refine ⟨?_, ?_⟩
    · intro p1 p2 p3 p4 m P h
      rw [fAc_answerOf_run] at h
      exact xo_fAc_answerOf hG d (d - 1) (by omega) (by omega) (fAc_answerOf_run n true) (fAc_answerOf_run n false) i.1 i.2 p1 p2 p3 p4 m P h
    · intro p1 p2 p3 p4 m P h
      rw [fAc_answerOf_run] at h
      exact xo_fAc_run hG d (d - 1) (by omega) (by omega) (fAc_answerOf_run n true) (fAc_answerOf_run n false) i.1 i.2 p1 p2 p3 p4 m P h
theorem x_fAc_answerOf {l : Launch} {S : State} {D : va_G} {cA : Nat → ClassId} {tb sx : Nat → Nat} (hG : zv_G S D cA tb sx) (d : Nat) (hd : 30 ≤ d) (p1 : Int32) (p2 : Int32) (p3 : Int32) (p4 : Int32) (m : zv_M) (P : Int32 → zv_M → Prop) (h : zw2 (fAc_answerOf 28 p1 p2 p3 p4 m) P) : zv_Met l S D cA d 0 0 yX0_answerOf cX0_answerOf 5 (some .int) [.ref (S.heap.size + 61), .int p1, .int p2, .int p3, .int p4] SH0 m (zq_i SH0 P) := (x_fAc_answerOf_run_n hG 28 d (by omega)).1 p1 p2 p3 p4 m P h
theorem x_fAc_run {l : Launch} {S : State} {D : va_G} {cA : Nat → ClassId} {tb sx : Nat → Nat} (hG : zv_G S D cA tb sx) (d : Nat) (hd : 30 ≤ d) (p1 : Int32) (p2 : Int32) (p3 : Int32) (p4 : Int32) (m : zv_M) (P : Int32 → zv_M → Prop) (h : zw2 (fAc_run 28 p1 p2 p3 p4 m) P) : zv_Met l S D cA d 0 0 yX0_run cX0_run 7 (some .int) [.ref (S.heap.size + 61), .int p1, .int p2, .int p3, .int p4] SH0 m (zq_i SH0 P) := (x_fAc_answerOf_run_n hG 28 d (by omega)).2 p1 p2 p3 p4 m P h

set_option maxRecDepth 100000 in
set_option maxHeartbeats 4000000 in
theorem x_fAc_start {l : Launch} {S : State} {D : va_G} {cA : Nat → ClassId} {tb sx : Nat → Nat} (hG : zv_G S D cA tb sx) (d : Nat) (hd : 31 ≤ d) (p1 : Int32) (p2 : Int32) (p3 : Int32) (p4 : Int32) (p5 : Int32) (m : zv_M) (P : Int32 → zv_M → Prop) (h : zw2 (fAc_start p1 p2 p3 p4 p5 m) P) : zv_Met l S D cA d 0 0 yX0_start cX0_start 6 (some .int) [.ref (S.heap.size + 61), .int p1, .int p2, .int p3, .int p4, .int p5] SH0 m (zq_i SH0 P) := by
  refine zv_met false hG pf_X0_start (fun z => by cases z) (Nat.le_of_ble_eq_true rfl) [(0, .ref (S.heap.size + 61)), (1, .int p1), (2, .int p2), (3, .int p3), (4, .int p4), (5, .int p5)] rfl (fun p e s mi args below meth c X => ?_)
  rw [fAc_start] at h
  refine zr_aload_n X dX0_start_0 0 rfl ?_
  refine zr_iload_n X dX0_start_1 1 rfl ?_
  refine zr_put X dX0_start_2 zd_X0_22 rfl rfl rfl zo_61 (by rw [zk_0 zo_61]; decide) ?_
  refine zr_aload_n X dX0_start_5 0 rfl ?_
  refine zr_iload_n X dX0_start_6 2 rfl ?_
  refine zr_put X dX0_start_7 zd_X0_25 rfl rfl rfl zo_61 (by rw [zk_0 zo_61]; decide) ?_
  refine zr_aload_n X dX0_start_10 0 rfl ?_
  refine zr_iload_n X dX0_start_11 3 rfl ?_
  refine zr_put X dX0_start_12 zd_X0_28 rfl rfl rfl zo_61 (by rw [zk_0 zo_61]; decide) ?_
  refine zr_aload_n X dX0_start_15 0 rfl ?_
  refine zr_iload_n X dX0_start_16 2 rfl ?_
  refine zr_iload X dX0_start_17 4 rfl ?_
  refine zr_iload X dX0_start_19 5 rfl ?_
  refine zr_iconst (v := 0) X dX0_start_21 (by decide) ?_
  refine zr_callV_i (As := [.int p2, .int p4, .int p5, .int 0]) (st := []) (d := d - 1) X dX0_start_22 wm_X0_34 my_X0_run mv_X0_run zo_61 rfl (Nat.le_of_ble_eq_true rfl) (zRm (by omega)) ⟨Nat.le_refl _, Nat.le_refl _⟩ (x_fAc_run hG (d - 1) (by omega) p2 p4 p5 0 (wI (wI (wI m 61 2 p1) 61 3 p2) 61 4 p3) _ (zw_b22 h)) (fun r1 m2 q => ?_)
  replace h := q
  exact zr_iret X dX0_start_25 rfl ⟨Nat.le_refl _, Nat.le_refl _⟩ ⟨rfl, _, rfl, h⟩

set_option maxRecDepth 100000 in
set_option maxHeartbeats 4000000 in
theorem x_fN_isIn {l : Launch} {S : State} {D : va_G} {cA : Nat → ClassId} {tb sx : Nat → Nat} (hG : zv_G S D cA tb sx) (d : Nat) (hd : 1 ≤ d) (p1 : Int32) (p2 : Int32) (m : zv_M) (P : Int32 → Prop) (h : zw (fN_isIn p1 p2) P) : zv_Met l S D cA d 0 0 yX10_isIn cX10_isIn 2 (some .boolean) [.int p1, .int p2] SH0 m (zq_i SH0 (fun v m' => m = m' ∧ P v)) := by
  refine zv_met false hG pf_X10_isIn (fun z => by cases z) (Nat.le_of_ble_eq_true rfl) [(0, .int p1), (1, .int p2)] rfl (fun p e s mi args below meth c X => ?_)
  rw [fN_isIn] at h
  refine zr_iload_n X dX10_isIn_0 1 rfl ?_
  refine zr_if_lt (tgt := 22) X dX10_isIn_1 (by decide) (fun q => ?_) (fun q => ?_)
  · rw [if_pos q] at h
    refine zr_iconst (v := 0) X dX10_isIn_22 (by decide) ?_
    exact zr_iret X dX10_isIn_23 rfl ⟨Nat.le_refl _, Nat.le_refl _⟩ ⟨rfl, _, rfl, rfl, h⟩
  · rw [if_neg q] at h
    refine zr_iload_n X dX10_isIn_4 1 rfl ?_
    refine zr_bipush (v := 25) X dX10_isIn_5 (by decide) ?_
    refine zr_icmp_ge (tgt := 22) X dX10_isIn_7 (by decide) (fun q => ?_) (fun q => ?_)
    · rw [if_neg q] at h
      refine zr_iconst (v := 0) X dX10_isIn_22 (by decide) ?_
      exact zr_iret X dX10_isIn_23 rfl ⟨Nat.le_refl _, Nat.le_refl _⟩ ⟨rfl, _, rfl, rfl, h⟩
    · rw [if_pos q] at h
      refine zr_iload_n X dX10_isIn_10 0 rfl ?_
      refine zr_iload_n X dX10_isIn_11 1 rfl ?_
      refine zr_ishr X dX10_isIn_12 ?_
      refine zr_iconst (v := 1) X dX10_isIn_13 (by decide) ?_
      refine zr_iand X dX10_isIn_14 ?_
      refine zr_if_eq (tgt := 22) X dX10_isIn_15 (by decide) (fun q => ?_) (fun q => ?_)
      · rw [if_pos q] at h
        refine zr_iconst (v := 0) X dX10_isIn_22 (by decide) ?_
        exact zr_iret X dX10_isIn_23 rfl ⟨Nat.le_refl _, Nat.le_refl _⟩ ⟨rfl, _, rfl, rfl, h⟩
      · rw [if_neg q] at h
        refine zr_iconst (v := 1) X dX10_isIn_18 (by decide) ?_
        refine zr_goto (tgt := 23) X dX10_isIn_19 (by decide) ?_
        exact zr_iret X dX10_isIn_23 rfl ⟨Nat.le_refl _, Nat.le_refl _⟩ ⟨rfl, _, rfl, rfl, h⟩

set_option maxRecDepth 100000 in
set_option maxHeartbeats 4000000 in
theorem x_fGa_gather {l : Launch} {S : State} {D : va_G} {cA : Nat → ClassId} {tb sx : Nat → Nat} (hG : zv_G S D cA tb sx) (d : Nat) (hd : 2 ≤ d) (p1 : Int32) (m : zv_M) (P : Int32 → zv_M → Prop) (h : zw2 (fGa_gather p1 m) P) : zv_Met l S D cA d 0 0 yX1_gather cX1_gather 4 (some .int) [.ref (S.heap.size + 54), .int p1] SH0 m (zq_i SH0 P) := by
  refine zv_met false hG pf_X1_gather (fun z => by cases z) (Nat.le_of_ble_eq_true rfl) [(0, .ref (S.heap.size + 54)), (1, .int p1)] rfl (fun p e s mi args below meth c X => ?_)
  rw [fGa_gather] at h
  refine zr_iconst (v := 0) X dX1_gather_0 (by decide) ?_
  refine zr_istore_n (lo' := [(2, .int 0), (0, .ref (S.heap.size + 54)), (1, .int p1)]) X dX1_gather_1 (by decide) rfl ?_
  refine zr_iconst (v := 0) X dX1_gather_2 (by decide) ?_
  refine zr_istore_n (lo' := [(3, .int 0), (2, .int 0), (0, .ref (S.heap.size + 54)), (1, .int p1)]) X dX1_gather_3 (by decide) rfl ?_
  refine zr_sub [2, 3, 1, 0] rfl ?_
  refine zl_w3 (fun a2 a3 m4 => zv_V S D cA p l e (zv_rm d 0 0) s mi args below meth c 4 (MQ below (zv_Q S D cA (zq_i SH0 P)) args s 0 0 (zv_fr S)) 0 0 4 [(0, .ref (S.heap.size + 54)), (1, .int p1), (2, .int a2), (3, .int a3)] [] SH0 m4) (fGa_gather_l4 p1) _ (fun P1 hl1 hr1 a2 a3 m4 h => ?_) zFU 0 0 m (zw_b12 h)
  rw [fGa_gather_l4] at h
  refine zr_iload_n X dX1_gather_4 3 rfl ?_
  refine zr_bipush (v := 25) X dX1_gather_5 (by decide) ?_
  refine zr_icmp_ge (tgt := 43) X dX1_gather_7 (by decide) (fun q => ?_) (fun q => ?_)
  · rw [if_neg q] at h
    refine zr_iload_n X dX1_gather_43 2 rfl ?_
    have h := hr1 _ h
    exact zr_iret X dX1_gather_44 rfl ⟨Nat.le_refl _, Nat.le_refl _⟩ ⟨rfl, _, rfl, h⟩
  · rw [if_pos q] at h
    refine zr_iload_n X dX1_gather_10 1 rfl ?_
    refine zr_iload_n X dX1_gather_11 3 rfl ?_
    refine zr_callSN_i (As := [.int p1, .int a3]) (st := []) (d := d - 1) X dX1_gather_12 wm_X1_30 ws_X10_isIn my_X10_isIn rfl (Nat.le_of_ble_eq_true rfl) (zRm (by omega)) ⟨Nat.le_refl _, Nat.le_refl _⟩ (x_fN_isIn hG (d - 1) (by omega) p1 a3 m4 _ (zw_b1 h)) (fun r5 m6 q => ?_)
    obtain ⟨rfl, h⟩ := q
    have hJ37 : ∀ (a7 : Int32) (m8 : zv_M), zw (fGa_gather_j37 a3 a7 m8) P1 → zv_V S D cA p l e (zv_rm d 0 0) s mi args below meth c 4 (MQ below (zv_Q S D cA (zq_i SH0 P)) args s 0 0 (zv_fr S)) 0 0 37 [(0, .ref (S.heap.size + 54)), (1, .int p1), (2, .int a7), (3, .int a3)] [] SH0 m8 := by
      intro a7 m8 h
      rw [fGa_gather_j37] at h
      refine zr_iinc (v := a3 + 1) (lo' := [(3, .int (a3 + 1)), (0, .ref (S.heap.size + 54)), (1, .int p1), (2, .int a7)]) X dX1_gather_37 3 rfl rfl (by decide) rfl ?_
      refine zr_goto (tgt := 4) X dX1_gather_40 (by decide) ?_
      have h := hl1 _ h
      exact zr_sub [1, 2, 3, 0] rfl h
    refine zr_if_eq (tgt := 37) X dX1_gather_15 (by decide) (fun q => ?_) (fun q => ?_)
    · rw [if_pos q] at h
      exact zr_sub [0, 1, 2, 3] rfl (hJ37 a2 m4 h)
    · rw [if_neg q] at h
      refine zr_iload_n X dX1_gather_18 2 rfl ?_
      refine zr_aload_n X dX1_gather_19 0 rfl ?_
      refine zr_getR X dX1_gather_20 zd_X1_9 rfl zo_54 zl_54_0 ?_
      refine zr_alen (v := 9) X dX1_gather_23 za_55 (by decide) rfl ?_
      refine zr_icmp_ge (tgt := 37) X dX1_gather_24 (by decide) (fun q => ?_) (fun q => ?_)
      · rw [if_neg q] at h
        exact zr_sub [0, 1, 2, 3] rfl (hJ37 a2 m4 h)
      · rw [if_pos q] at h
        refine zr_aload_n X dX1_gather_27 0 rfl ?_
        refine zr_getR X dX1_gather_28 zd_X1_9 rfl zo_54 zl_54_0 ?_
        refine zr_iload_n X dX1_gather_31 2 rfl ?_
        refine zr_iload_n X dX1_gather_32 3 rfl ?_
        obtain ⟨g0, h⟩ := zg_e h
        refine zr_iast X dX1_gather_33 za_55 (zI_in g0) ?_
        refine zr_iinc (v := a2 + 1) (lo' := [(2, .int (a2 + 1)), (0, .ref (S.heap.size + 54)), (1, .int p1), (3, .int a3)]) X dX1_gather_34 2 rfl rfl (by decide) rfl ?_
        exact zr_sub [1, 2, 0, 3] rfl (hJ37 (a2 + 1) (wI m4 55 a2.toNatClampNeg a3) h)

set_option maxRecDepth 100000 in
set_option maxHeartbeats 4000000 in
theorem x_fGa_goneBy {l : Launch} {S : State} {D : va_G} {cA : Nat → ClassId} {tb sx : Nat → Nat} (hG : zv_G S D cA tb sx) (d : Nat) (hd : 2 ≤ d) (p1 : Int32) (p2 : Nat) (hp2 : zar p2 0) (p3 : Int32) (m : zv_M) (P : Int32 → Prop) (h : zw (fGa_goneBy p1 p2 p3 m) P) : zv_Met l S D cA d 0 0 yX1_goneBy cX1_goneBy 7 (some .int) [.ref (S.heap.size + 54), .int p1, .ref (S.heap.size + p2), .int p3] SH0 m (zq_i SH0 (fun v m' => m = m' ∧ P v)) := by
  refine zv_met false hG pf_X1_goneBy (fun z => by cases z) (Nat.le_of_ble_eq_true rfl) [(0, .ref (S.heap.size + 54)), (1, .int p1), (2, .ref (S.heap.size + p2)), (3, .int p3)] rfl (fun p e s mi args below meth c X => ?_)
  rw [fGa_goneBy] at h
  refine zr_iload_n X dX1_goneBy_0 1 rfl ?_
  have hJ17 : ∀ (v1 : Int32), zw (fGa_goneBy_j17 p1 p3 m v1) P → zv_V S D cA p l e (zv_rm d 0 0) s mi args below meth c 7 (MQ below (zv_Q S D cA (zq_i SH0 (fun v m' => m = m' ∧ P v))) args s 0 0 (zv_fr S)) 0 0 17 [(0, .ref (S.heap.size + 54)), (1, .int p1), (3, .int p3)] [.int v1] SH0 m := by
    intro v1 h
    rw [fGa_goneBy_j17] at h
    refine zr_istore (lo' := [(4, .int v1), (0, .ref (S.heap.size + 54)), (1, .int p1), (3, .int p3)]) X dX1_goneBy_17 (by decide) rfl ?_
    refine zr_iconst (v := 0) X dX1_goneBy_19 (by decide) ?_
    refine zr_istore (lo' := [(5, .int 0), (4, .int v1), (0, .ref (S.heap.size + 54)), (1, .int p1), (3, .int p3)]) X dX1_goneBy_20 (by decide) rfl ?_
    refine zr_iconst (v := 0) X dX1_goneBy_22 (by decide) ?_
    refine zr_istore (lo' := [(6, .int 0), (5, .int 0), (4, .int v1), (0, .ref (S.heap.size + 54)), (1, .int p1), (3, .int p3)]) X dX1_goneBy_23 (by decide) rfl ?_
    refine zr_sub [3, 4, 5, 2, 1, 0] rfl ?_
    refine zl_w2 (fun a3 a4 => zv_V S D cA p l e (zv_rm d 0 0) s mi args below meth c 7 (MQ below (zv_Q S D cA (zq_i SH0 (fun v m' => m = m' ∧ P v))) args s 0 0 (zv_fr S)) 0 0 25 [(0, .ref (S.heap.size + 54)), (1, .int p1), (3, .int p3), (4, .int v1), (5, .int a3), (6, .int a4)] [] SH0 m) (fGa_goneBy_l25 p1 p3 m v1) _ (fun P2 hl2 hr2 a3 a4 h => ?_) zFU 0 0 (zw_b1 h)
    rw [fGa_goneBy_l25] at h
    refine zr_iload X dX1_goneBy_25 5 rfl ?_
    refine zr_iload_n X dX1_goneBy_27 2 rfl ?_
    refine zr_icmp_ge (tgt := 82) X dX1_goneBy_28 (by decide) (fun q => ?_) (fun q => ?_)
    · rw [if_neg q] at h
      refine zr_iload X dX1_goneBy_82 4 rfl ?_
      have h := hr2 _ h
      exact zr_iret X dX1_goneBy_84 rfl ⟨Nat.le_refl _, Nat.le_refl _⟩ ⟨rfl, _, rfl, rfl, h⟩
    · rw [if_pos q] at h
      refine zr_iload X dX1_goneBy_31 5 rfl ?_
      refine zr_aload_n X dX1_goneBy_33 0 rfl ?_
      refine zr_getR X dX1_goneBy_34 zd_X1_9 rfl zo_54 zl_54_0 ?_
      refine zr_alen (v := 9) X dX1_goneBy_37 za_55 (by decide) rfl ?_
      refine zr_icmp_ge (tgt := 82) X dX1_goneBy_38 (by decide) (fun q => ?_) (fun q => ?_)
      · rw [if_neg q] at h
        refine zr_iload X dX1_goneBy_82 4 rfl ?_
        have h := hr2 _ h
        exact zr_iret X dX1_goneBy_84 rfl ⟨Nat.le_refl _, Nat.le_refl _⟩ ⟨rfl, _, rfl, rfl, h⟩
      · rw [if_pos q] at h
        refine zr_aload_n X dX1_goneBy_41 0 rfl ?_
        refine zr_getR X dX1_goneBy_42 zd_X1_9 rfl zo_54 zl_54_0 ?_
        refine zr_iload X dX1_goneBy_45 5 rfl ?_
        obtain ⟨g0, h⟩ := zg_e h
        refine zr_iald X dX1_goneBy_47 za_55 (zI_in g0) ?_
        refine zr_iload_n X dX1_goneBy_48 1 rfl ?_
        have hJ67 : zw (fGa_goneBy_j67 a3 a4) P2 → zv_V S D cA p l e (zv_rm d 0 0) s mi args below meth c 7 (MQ below (zv_Q S D cA (zq_i SH0 (fun v m' => m = m' ∧ P v))) args s 0 0 (zv_fr S)) 0 0 67 [(0, .ref (S.heap.size + 54)), (1, .int p1), (3, .int p3), (4, .int v1), (5, .int a3), (6, .int a4)] [] SH0 m := by
          intro h
          rw [fGa_goneBy_j67] at h
          refine zr_iload X dX1_goneBy_67 4 rfl ?_
          refine zr_iconst (v := 1) X dX1_goneBy_69 (by decide) ?_
          refine zr_iload X dX1_goneBy_70 5 rfl ?_
          refine zr_ishl X dX1_goneBy_72 ?_
          refine zr_ior X dX1_goneBy_73 ?_
          refine zr_istore (lo' := [(5, .int (a3 ||| (1 <<< (a4 &&& 31)))), (0, .ref (S.heap.size + 54)), (1, .int p1), (3, .int p3), (4, .int v1), (6, .int a4)]) X dX1_goneBy_74 (by decide) rfl ?_
          refine zr_iinc (v := a4 + 1) (lo' := [(6, .int (a4 + 1)), (5, .int (a3 ||| (1 <<< (a4 &&& 31)))), (0, .ref (S.heap.size + 54)), (1, .int p1), (3, .int p3), (4, .int v1)]) X dX1_goneBy_76 5 rfl rfl (by decide) rfl ?_
          refine zr_goto (tgt := 25) X dX1_goneBy_79 (by decide) ?_
          have h := hl2 _ h
          exact zr_sub [2, 3, 4, 5, 1, 0] rfl h
        have hJ76 : ∀ (a5 : Int32), zw (fGa_goneBy_j76 a4 a5) P2 → zv_V S D cA p l e (zv_rm d 0 0) s mi args below meth c 7 (MQ below (zv_Q S D cA (zq_i SH0 (fun v m' => m = m' ∧ P v))) args s 0 0 (zv_fr S)) 0 0 76 [(0, .ref (S.heap.size + 54)), (1, .int p1), (3, .int p3), (4, .int v1), (5, .int a5), (6, .int a4)] [] SH0 m := by
          intro a5 h
          rw [fGa_goneBy_j76] at h
          refine zr_iinc (v := a4 + 1) (lo' := [(6, .int (a4 + 1)), (0, .ref (S.heap.size + 54)), (1, .int p1), (3, .int p3), (4, .int v1), (5, .int a5)]) X dX1_goneBy_76 5 rfl rfl (by decide) rfl ?_
          refine zr_goto (tgt := 25) X dX1_goneBy_79 (by decide) ?_
          have h := hl2 _ h
          exact zr_sub [1, 2, 3, 4, 5, 0] rfl h
        refine zr_icmp_eq (tgt := 67) X dX1_goneBy_49 (by decide) (fun q => ?_) (fun q => ?_)
        · rw [if_pos q] at h
          exact zr_sub [0, 1, 2, 3, 4, 5] rfl (hJ67 h)
        · rw [if_neg q] at h
          refine zr_iload X dX1_goneBy_52 3 rfl ?_
          refine zr_aload_n X dX1_goneBy_54 0 rfl ?_
          refine zr_getR X dX1_goneBy_55 zd_X1_9 rfl zo_54 zl_54_0 ?_
          refine zr_iload X dX1_goneBy_58 5 rfl ?_
          obtain ⟨g0, h⟩ := zg_e h
          refine zr_iald X dX1_goneBy_60 za_55 (zI_in g0) ?_
          refine zr_callSN_i (As := [.int v1, .int (m.1 55 a4.toNatClampNeg)]) (st := []) (d := d - 1) X dX1_goneBy_61 wm_X1_30 ws_X10_isIn my_X10_isIn rfl (Nat.le_of_ble_eq_true rfl) (zRm (by omega)) ⟨Nat.le_refl _, Nat.le_refl _⟩ (x_fN_isIn hG (d - 1) (by omega) v1 (m.1 55 a4.toNatClampNeg) m _ (zw_b1 h)) (fun r6 m7 q => ?_)
          obtain ⟨rfl, h⟩ := q
          refine zr_if_eq (tgt := 76) X dX1_goneBy_64 (by decide) (fun q => ?_) (fun q => ?_)
          · rw [if_pos q] at h
            exact zr_sub [0, 1, 2, 3, 4, 5] rfl (hJ76 a3 h)
          · rw [if_neg q] at h
            exact zr_sub [0, 1, 2, 3, 4, 5] rfl (hJ67 h)
  have hJ10 : zw (fGa_goneBy_j10 p1 p3 m) P → zv_V S D cA p l e (zv_rm d 0 0) s mi args below meth c 7 (MQ below (zv_Q S D cA (zq_i SH0 (fun v m' => m = m' ∧ P v))) args s 0 0 (zv_fr S)) 0 0 10 [(0, .ref (S.heap.size + 54)), (1, .int p1), (3, .int p3)] [] SH0 m := by
    intro h
    rw [fGa_goneBy_j10] at h
    refine zr_iconst (v := 0) X dX1_goneBy_10 (by decide) ?_
    refine zr_goto (tgt := 17) X dX1_goneBy_11 (by decide) ?_
    exact zr_sub [0, 1, 2] rfl (hJ17 0 h)
  refine zr_if_lt (tgt := 10) X dX1_goneBy_1 (by decide) (fun q => ?_) (fun q => ?_)
  · rw [if_pos q] at h
    exact zr_sub [0, 1, 3] rfl (hJ10 h)
  · rw [if_neg q] at h
    refine zr_iload_n X dX1_goneBy_4 1 rfl ?_
    refine zr_aload_n X dX1_goneBy_5 2 rfl ?_
    refine zr_alen (v := Int32.ofNat (zln p2)) X dX1_goneBy_6 hp2 (by decide) rfl ?_
    refine zr_icmp_lt (tgt := 14) X dX1_goneBy_7 (by decide) (fun q => ?_) (fun q => ?_)
    · rw [if_pos q] at h
      refine zr_aload_n X dX1_goneBy_14 2 rfl ?_
      refine zr_iload_n X dX1_goneBy_15 1 rfl ?_
      obtain ⟨g0, h⟩ := zg_e h
      refine zr_iald X dX1_goneBy_16 hp2 (zI_in g0) ?_
      exact zr_sub [0, 1, 3] rfl (hJ17 (m.1 p2 p1.toNatClampNeg) h)
    · rw [if_neg q] at h
      exact zr_sub [0, 1, 3] rfl (hJ10 h)

set_option maxRecDepth 100000 in
set_option maxHeartbeats 4000000 in
theorem x_fGa_firstWins {l : Launch} {S : State} {D : va_G} {cA : Nat → ClassId} {tb sx : Nat → Nat} (hG : zv_G S D cA tb sx) (d : Nat) (hd : 3 ≤ d) (p1 : Int32) (p2 : Nat) (hp2 : zar p2 0) (m : zv_M) (P : Int32 → zv_M → Prop) (h : zw2 (fGa_firstWins p1 p2 m) P) : zv_Met l S D cA d 0 0 yX1_firstWins cX1_firstWins 7 (some .boolean) [.ref (S.heap.size + 54), .int p1, .ref (S.heap.size + p2)] SH0 m (zq_i SH0 P) := by
  refine zv_met false hG pf_X1_firstWins (fun z => by cases z) (Nat.le_of_ble_eq_true rfl) [(0, .ref (S.heap.size + 54)), (1, .int p1), (2, .ref (S.heap.size + p2))] rfl (fun p e s mi args below meth c X => ?_)
  rw [fGa_firstWins] at h
  refine zr_aload_n X dX1_firstWins_0 0 rfl ?_
  refine zr_iload_n X dX1_firstWins_1 1 rfl ?_
  refine zr_callV_i (As := [.int p1]) (st := []) (d := d - 1) X dX1_firstWins_2 wm_X1_22 my_X1_gather mv_X1_gather zo_54 rfl (Nat.le_of_ble_eq_true rfl) (zRm (by omega)) ⟨Nat.le_refl _, Nat.le_refl _⟩ (x_fGa_gather hG (d - 1) (by omega) p1 m _ (zw_b22 h)) (fun r1 m2 q => ?_)
  replace h := q
  refine zr_istore_n (lo' := [(3, .int r1), (0, .ref (S.heap.size + 54)), (1, .int p1), (2, .ref (S.heap.size + p2))]) X dX1_firstWins_5 (by decide) rfl ?_
  refine zr_iconst (v := 0) X dX1_firstWins_6 (by decide) ?_
  refine zr_istore (lo' := [(4, .int 0), (3, .int r1), (0, .ref (S.heap.size + 54)), (1, .int p1), (2, .ref (S.heap.size + p2))]) X dX1_firstWins_7 (by decide) rfl ?_
  refine zr_sub [2, 4, 1, 0] rfl ?_
  have hR3 : ∀ (m6 : zv_M), zw2 (zb1 (whileN zFU (fGa_firstWins_l71 r1) (0, m6)) (fun m10 => if (1 <<< (r1 &&& 31)) - 1 < 512 then zg (zI ((1 <<< (r1 &&& 31)) - 1) 512) (if m10.1 57 ((1 <<< (r1 &&& 31)) - 1).toNatClampNeg = 0 then some (0, m10) else some (1, m10)) else some (0, m10)) : Option (Int32 × zv_M)) P → zv_V S D cA p l e (zv_rm d 0 0) s mi args below meth c 7 (MQ below (zv_Q S D cA (zq_i SH0 P)) args s 0 0 (zv_fr S)) 0 0 61 [(0, .ref (S.heap.size + 54)), (3, .int r1)] [] SH0 m6 := by
    intro m6 h
    refine zr_iconst (v := 1) X dX1_firstWins_61 (by decide) ?_
    refine zr_iload_n X dX1_firstWins_62 1 rfl ?_
    refine zr_ishl X dX1_firstWins_63 ?_
    refine zr_iconst (v := 1) X dX1_firstWins_64 (by decide) ?_
    refine zr_isub X dX1_firstWins_65 ?_
    refine zr_istore (lo' := [(4, .int ((1 <<< (r1 &&& 31)) - 1)), (0, .ref (S.heap.size + 54)), (3, .int r1)]) X dX1_firstWins_66 (by decide) rfl ?_
    refine zr_iconst (v := 0) X dX1_firstWins_68 (by decide) ?_
    refine zr_istore (lo' := [(5, .int 0), (4, .int ((1 <<< (r1 &&& 31)) - 1)), (0, .ref (S.heap.size + 54)), (3, .int r1)]) X dX1_firstWins_69 (by decide) rfl ?_
    refine zr_sub [2, 3, 1, 0] rfl ?_
    have hR7 : ∀ (m10 : zv_M), zw2 (if (1 <<< (r1 &&& 31)) - 1 < 512 then zg (zI ((1 <<< (r1 &&& 31)) - 1) 512) (if m10.1 57 ((1 <<< (r1 &&& 31)) - 1).toNatClampNeg = 0 then some (0, m10) else some (1, m10)) else some (0, m10) : Option (Int32 × zv_M)) P → zv_V S D cA p l e (zv_rm d 0 0) s mi args below meth c 7 (MQ below (zv_Q S D cA (zq_i SH0 P)) args s 0 0 (zv_fr S)) 0 0 165 [(0, .ref (S.heap.size + 54)), (4, .int ((1 <<< (r1 &&& 31)) - 1))] [] SH0 m10 := by
      intro m10 h
      refine zr_iload X dX1_firstWins_165 1 rfl ?_
      refine zr_aload_n X dX1_firstWins_167 0 rfl ?_
      refine zr_getR X dX1_firstWins_168 zd_X1_18 rfl zo_54 zl_54_2 ?_
      refine zr_alen (v := 512) X dX1_firstWins_171 za_57 (by decide) rfl ?_
      refine zr_icmp_ge (tgt := 189) X dX1_firstWins_172 (by decide) (fun q => ?_) (fun q => ?_)
      · rw [if_neg q] at h
        refine zr_iconst (v := 0) X dX1_firstWins_189 (by decide) ?_
        exact zr_iret X dX1_firstWins_190 rfl ⟨Nat.le_refl _, Nat.le_refl _⟩ ⟨rfl, _, rfl, h⟩
      · rw [if_pos q] at h
        refine zr_aload_n X dX1_firstWins_175 0 rfl ?_
        refine zr_getR X dX1_firstWins_176 zd_X1_18 rfl zo_54 zl_54_2 ?_
        refine zr_iload X dX1_firstWins_179 1 rfl ?_
        obtain ⟨g0, h⟩ := zg_e2 h
        refine zr_bald X dX1_firstWins_181 za_57 (zI_in g0) ?_
        refine zr_if_eq (tgt := 189) X dX1_firstWins_182 (by decide) (fun q => ?_) (fun q => ?_)
        · rw [if_pos q] at h
          refine zr_iconst (v := 0) X dX1_firstWins_189 (by decide) ?_
          exact zr_iret X dX1_firstWins_190 rfl ⟨Nat.le_refl _, Nat.le_refl _⟩ ⟨rfl, _, rfl, h⟩
        · rw [if_neg q] at h
          refine zr_iconst (v := 1) X dX1_firstWins_185 (by decide) ?_
          refine zr_goto (tgt := 190) X dX1_firstWins_186 (by decide) ?_
          exact zr_iret X dX1_firstWins_190 rfl ⟨Nat.le_refl _, Nat.le_refl _⟩ ⟨rfl, _, rfl, h⟩
    refine zl_w2 (fun a8 m9 => zv_V S D cA p l e (zv_rm d 0 0) s mi args below meth c 7 (MQ below (zv_Q S D cA (zq_i SH0 P)) args s 0 0 (zv_fr S)) 0 0 71 [(0, .ref (S.heap.size + 54)), (3, .int r1), (4, .int ((1 <<< (r1 &&& 31)) - 1)), (5, .int a8)] [] SH0 m9) (fGa_firstWins_l71 r1) _ (fun P7 hl7 hr7 a8 m9 h => ?_) zFU 0 m6 (zw_b12 h)
    rw [fGa_firstWins_l71] at h
    refine zr_iload X dX1_firstWins_71 3 rfl ?_
    refine zr_iload X dX1_firstWins_73 2 rfl ?_
    refine zr_icmp_gt (tgt := 165) X dX1_firstWins_75 (by decide) (fun q => ?_) (fun q => ?_)
    · rw [if_pos q] at h
      have h := hr7 _ h
      exact zr_sub [0, 2] rfl (hR7 m9 h)
    · rw [if_neg q] at h
      refine zr_iload X dX1_firstWins_78 3 rfl ?_
      refine zr_aload_n X dX1_firstWins_80 0 rfl ?_
      refine zr_getR X dX1_firstWins_81 zd_X1_18 rfl zo_54 zl_54_2 ?_
      refine zr_alen (v := 512) X dX1_firstWins_84 za_57 (by decide) rfl ?_
      refine zr_icmp_ge (tgt := 165) X dX1_firstWins_85 (by decide) (fun q => ?_) (fun q => ?_)
      · rw [if_neg q] at h
        have h := hr7 _ h
        exact zr_sub [0, 2] rfl (hR7 m9 h)
      · rw [if_pos q] at h
        refine zr_aload_n X dX1_firstWins_88 0 rfl ?_
        refine zr_getR X dX1_firstWins_89 zd_X1_18 rfl zo_54 zl_54_2 ?_
        refine zr_iload X dX1_firstWins_92 3 rfl ?_
        refine zr_iconst (v := 0) X dX1_firstWins_94 (by decide) ?_
        obtain ⟨g0, h⟩ := zg_e h
        refine zr_bast X dX1_firstWins_95 za_57 (zI_in g0) ?_
        refine zr_iconst (v := 0) X dX1_firstWins_96 (by decide) ?_
        refine zr_istore (lo' := [(6, .int 0), (0, .ref (S.heap.size + 54)), (3, .int r1), (4, .int ((1 <<< (r1 &&& 31)) - 1)), (5, .int a8)]) X dX1_firstWins_97 (by decide) rfl ?_
        refine zr_sub [1, 2, 3, 4, 0] rfl ?_
        have hR11 : ∀ (m14 : zv_M), zw (some (.inl (a8 + 1, m14)) : Option ((Int32 × zv_M) ⊕ (zv_M))) P7 → zv_V S D cA p l e (zv_rm d 0 0) s mi args below meth c 7 (MQ below (zv_Q S D cA (zq_i SH0 P)) args s 0 0 (zv_fr S)) 0 0 159 [(0, .ref (S.heap.size + 54)), (3, .int r1), (4, .int ((1 <<< (r1 &&& 31)) - 1)), (5, .int a8)] [] SH0 m14 := by
          intro m14 h
          refine zr_iinc (v := a8 + 1) (lo' := [(5, .int (a8 + 1)), (0, .ref (S.heap.size + 54)), (3, .int r1), (4, .int ((1 <<< (r1 &&& 31)) - 1))]) X dX1_firstWins_159 3 rfl rfl (by decide) rfl ?_
          refine zr_goto (tgt := 71) X dX1_firstWins_162 (by decide) ?_
          have h := hl7 _ h
          exact zr_sub [1, 2, 3, 0] rfl h
        refine zl_w2 (fun a12 m13 => zv_V S D cA p l e (zv_rm d 0 0) s mi args below meth c 7 (MQ below (zv_Q S D cA (zq_i SH0 P)) args s 0 0 (zv_fr S)) 0 0 99 [(0, .ref (S.heap.size + 54)), (3, .int r1), (4, .int ((1 <<< (r1 &&& 31)) - 1)), (5, .int a8), (6, .int a12)] [] SH0 m13) (fGa_firstWins_l99 r1 a8) _ (fun P11 hl11 hr11 a12 m13 h => ?_) zFU 0 (wI m9 57 a8.toNatClampNeg ((0 : Int32).toInt8.toInt32)) (zw_b1 h)
        rw [fGa_firstWins_l99] at h
        refine zr_iload X dX1_firstWins_99 4 rfl ?_
        refine zr_iload_n X dX1_firstWins_101 1 rfl ?_
        refine zr_icmp_ge (tgt := 159) X dX1_firstWins_102 (by decide) (fun q => ?_) (fun q => ?_)
        · rw [if_neg q] at h
          have h := hr11 _ h
          exact zr_sub [0, 1, 2, 3] rfl (hR11 m13 h)
        · rw [if_pos q] at h
          refine zr_iload X dX1_firstWins_105 4 rfl ?_
          refine zr_aload_n X dX1_firstWins_107 0 rfl ?_
          refine zr_getR X dX1_firstWins_108 zd_X1_15 rfl zo_54 zl_54_1 ?_
          refine zr_alen (v := 9) X dX1_firstWins_111 za_56 (by decide) rfl ?_
          refine zr_icmp_ge (tgt := 159) X dX1_firstWins_112 (by decide) (fun q => ?_) (fun q => ?_)
          · rw [if_neg q] at h
            have h := hr11 _ h
            exact zr_sub [0, 1, 2, 3] rfl (hR11 m13 h)
          · rw [if_pos q] at h
            refine zr_iload X dX1_firstWins_115 3 rfl ?_
            refine zr_iload X dX1_firstWins_117 4 rfl ?_
            refine zr_ishr X dX1_firstWins_119 ?_
            refine zr_iconst (v := 1) X dX1_firstWins_120 (by decide) ?_
            refine zr_iand X dX1_firstWins_121 ?_
            have hJ153 : ∀ (m15 : zv_M), zw (fGa_firstWins_j153 a12 m15) P11 → zv_V S D cA p l e (zv_rm d 0 0) s mi args below meth c 7 (MQ below (zv_Q S D cA (zq_i SH0 P)) args s 0 0 (zv_fr S)) 0 0 153 [(0, .ref (S.heap.size + 54)), (3, .int r1), (4, .int ((1 <<< (r1 &&& 31)) - 1)), (5, .int a8), (6, .int a12)] [] SH0 m15 := by
              intro m15 h
              rw [fGa_firstWins_j153] at h
              refine zr_iinc (v := a12 + 1) (lo' := [(6, .int (a12 + 1)), (0, .ref (S.heap.size + 54)), (3, .int r1), (4, .int ((1 <<< (r1 &&& 31)) - 1)), (5, .int a8)]) X dX1_firstWins_153 4 rfl rfl (by decide) rfl ?_
              refine zr_goto (tgt := 99) X dX1_firstWins_156 (by decide) ?_
              have h := hl11 _ h
              exact zr_sub [1, 2, 3, 4, 0] rfl h
            refine zr_if_eq (tgt := 153) X dX1_firstWins_122 (by decide) (fun q => ?_) (fun q => ?_)
            · rw [if_pos q] at h
              exact zr_sub [0, 1, 2, 3, 4] rfl (hJ153 m13 h)
            · rw [if_neg q] at h
              refine zr_aload_n X dX1_firstWins_125 0 rfl ?_
              refine zr_getR X dX1_firstWins_126 zd_X1_18 rfl zo_54 zl_54_2 ?_
              refine zr_iload X dX1_firstWins_129 3 rfl ?_
              refine zr_aload_n X dX1_firstWins_131 0 rfl ?_
              refine zr_getR X dX1_firstWins_132 zd_X1_15 rfl zo_54 zl_54_1 ?_
              refine zr_iload X dX1_firstWins_135 4 rfl ?_
              obtain ⟨g0, h⟩ := zg_e h
              refine zr_iald X dX1_firstWins_137 za_56 (zI_in g0) ?_
              refine zr_iconst (v := (-1)) X dX1_firstWins_138 (by decide) ?_
              refine zr_ixor X dX1_firstWins_139 ?_
              refine zr_iand X dX1_firstWins_140 ?_
              obtain ⟨g0, h⟩ := zg_e h
              refine zr_bald X dX1_firstWins_141 za_57 (zI_in g0) ?_
              refine zr_if_ne (tgt := 153) X dX1_firstWins_142 (by decide) (fun q => ?_) (fun q => ?_)
              · rw [if_neg q] at h
                exact zr_sub [0, 1, 2, 3, 4] rfl (hJ153 m13 h)
              · rw [if_pos q] at h
                refine zr_aload_n X dX1_firstWins_145 0 rfl ?_
                refine zr_getR X dX1_firstWins_146 zd_X1_18 rfl zo_54 zl_54_2 ?_
                refine zr_iload X dX1_firstWins_149 3 rfl ?_
                refine zr_iconst (v := 1) X dX1_firstWins_151 (by decide) ?_
                obtain ⟨g0, h⟩ := zg_e h
                refine zr_bast X dX1_firstWins_152 za_57 (zI_in g0) ?_
                exact zr_sub [0, 1, 2, 3, 4] rfl (hJ153 (wI m13 57 a8.toNatClampNeg ((1 : Int32).toInt8.toInt32)) h)
  refine zl_w2 (fun a4 m5 => zv_V S D cA p l e (zv_rm d 0 0) s mi args below meth c 7 (MQ below (zv_Q S D cA (zq_i SH0 P)) args s 0 0 (zv_fr S)) 0 0 9 [(0, .ref (S.heap.size + 54)), (2, .ref (S.heap.size + p2)), (3, .int r1), (4, .int a4)] [] SH0 m5) (fGa_firstWins_l9 p2 r1) _ (fun P3 hl3 hr3 a4 m5 h => ?_) zFU 0 m2 (zw_b12 h)
  rw [fGa_firstWins_l9] at h
  refine zr_iload X dX1_firstWins_9 3 rfl ?_
  refine zr_iload_n X dX1_firstWins_11 2 rfl ?_
  refine zr_icmp_ge (tgt := 61) X dX1_firstWins_12 (by decide) (fun q => ?_) (fun q => ?_)
  · rw [if_neg q] at h
    have h := hr3 _ h
    exact zr_sub [0, 2] rfl (hR3 m5 h)
  · rw [if_pos q] at h
    refine zr_iload X dX1_firstWins_15 3 rfl ?_
    refine zr_aload_n X dX1_firstWins_17 0 rfl ?_
    refine zr_getR X dX1_firstWins_18 zd_X1_15 rfl zo_54 zl_54_1 ?_
    refine zr_alen (v := 9) X dX1_firstWins_21 za_56 (by decide) rfl ?_
    refine zr_icmp_ge (tgt := 61) X dX1_firstWins_22 (by decide) (fun q => ?_) (fun q => ?_)
    · rw [if_neg q] at h
      have h := hr3 _ h
      exact zr_sub [0, 2] rfl (hR3 m5 h)
    · rw [if_pos q] at h
      refine zr_iload X dX1_firstWins_25 3 rfl ?_
      refine zr_aload_n X dX1_firstWins_27 0 rfl ?_
      refine zr_getR X dX1_firstWins_28 zd_X1_9 rfl zo_54 zl_54_0 ?_
      refine zr_alen (v := 9) X dX1_firstWins_31 za_55 (by decide) rfl ?_
      refine zr_icmp_ge (tgt := 61) X dX1_firstWins_32 (by decide) (fun q => ?_) (fun q => ?_)
      · rw [if_neg q] at h
        have h := hr3 _ h
        exact zr_sub [0, 2] rfl (hR3 m5 h)
      · rw [if_pos q] at h
        refine zr_aload_n X dX1_firstWins_35 0 rfl ?_
        refine zr_getR X dX1_firstWins_36 zd_X1_15 rfl zo_54 zl_54_1 ?_
        refine zr_iload X dX1_firstWins_39 3 rfl ?_
        refine zr_aload_n X dX1_firstWins_41 0 rfl ?_
        refine zr_aload_n X dX1_firstWins_42 0 rfl ?_
        refine zr_getR X dX1_firstWins_43 zd_X1_9 rfl zo_54 zl_54_0 ?_
        refine zr_iload X dX1_firstWins_46 3 rfl ?_
        obtain ⟨g0, h⟩ := zg_e h
        refine zr_iald X dX1_firstWins_48 za_55 (zI_in g0) ?_
        refine zr_aload_n X dX1_firstWins_49 1 rfl ?_
        refine zr_iload_n X dX1_firstWins_50 2 rfl ?_
        refine zr_callV_i (As := [.int (m5.1 55 a4.toNatClampNeg), .ref (S.heap.size + p2), .int r1]) (st := [.int a4, .ref (S.heap.size + 56)]) (d := d - 1) X dX1_firstWins_51 wm_X1_26 my_X1_goneBy mv_X1_goneBy zo_54 rfl (Nat.le_of_ble_eq_true rfl) (zRm (by omega)) ⟨Nat.le_refl _, Nat.le_refl _⟩ (x_fGa_goneBy hG (d - 1) (by omega) (m5.1 55 a4.toNatClampNeg) p2 hp2 r1 m5 _ (zw_b1 h)) (fun r16 m17 q => ?_)
        obtain ⟨rfl, h⟩ := q
        obtain ⟨g0, h⟩ := zg_e h
        refine zr_iast X dX1_firstWins_54 za_56 (zI_in g0) ?_
        refine zr_iinc (v := a4 + 1) (lo' := [(4, .int (a4 + 1)), (0, .ref (S.heap.size + 54)), (2, .ref (S.heap.size + p2)), (3, .int r1)]) X dX1_firstWins_55 3 rfl rfl (by decide) rfl ?_
        refine zr_goto (tgt := 9) X dX1_firstWins_58 (by decide) ?_
        have h := hl3 _ h
        exact zr_sub [1, 2, 3, 0] rfl h

set_option maxRecDepth 100000 in
set_option maxHeartbeats 4000000 in
theorem x_fPi_isFull {l : Launch} {S : State} {D : va_G} {cA : Nat → ClassId} {tb sx : Nat → Nat} (hG : zv_G S D cA tb sx) (d : Nat) (hd : 1 ≤ d) (o : Nat) (ho : zcl o 2) (m : zv_M) (P : Int32 → Prop) (h : zw (fPi_isFull o m) P) : zv_Met l S D cA d 0 0 yX2_isFull cX2_isFull 1 (some .boolean) [.ref (S.heap.size + o)] SH0 m (zq_i SH0 (fun v m' => m = m' ∧ P v)) := by
  refine zv_met false hG pf_X2_isFull (fun z => by cases z) (Nat.le_of_ble_eq_true rfl) [(0, .ref (S.heap.size + o))] rfl (fun p e s mi args below meth c X => ?_)
  rw [fPi_isFull] at h
  refine zr_aload_n X dX2_isFull_0 0 rfl ?_
  refine zr_getI X dX2_isFull_1 zd_X2_19 rfl ho (by rw [zk_2 ho]; decide) ?_
  refine zr_aload_n X dX2_isFull_4 0 rfl ?_
  refine zr_getR X dX2_isFull_5 zd_X2_13 rfl ho (zf_2_0 ho).1 ?_
  refine zr_alen (v := Int32.ofNat (zln (zrf o 0))) X dX2_isFull_8 (zf_2_0 ho).2 (by decide) rfl ?_
  refine zr_icmp_lt (tgt := 16) X dX2_isFull_9 (by decide) (fun q => ?_) (fun q => ?_)
  · rw [if_pos q] at h
    refine zr_iconst (v := 0) X dX2_isFull_16 (by decide) ?_
    exact zr_iret X dX2_isFull_17 rfl ⟨Nat.le_refl _, Nat.le_refl _⟩ ⟨rfl, _, rfl, rfl, h⟩
  · rw [if_neg q] at h
    refine zr_iconst (v := 1) X dX2_isFull_12 (by decide) ?_
    refine zr_goto (tgt := 17) X dX2_isFull_13 (by decide) ?_
    exact zr_iret X dX2_isFull_17 rfl ⟨Nat.le_refl _, Nat.le_refl _⟩ ⟨rfl, _, rfl, rfl, h⟩

set_option maxRecDepth 100000 in
set_option maxHeartbeats 4000000 in
theorem x_fPi_get {l : Launch} {S : State} {D : va_G} {cA : Nat → ClassId} {tb sx : Nat → Nat} (hG : zv_G S D cA tb sx) (d : Nat) (hd : 1 ≤ d) (o : Nat) (ho : zcl o 2) (p1 : Int32) (m : zv_M) (P : Int32 → Prop) (h : zw (fPi_get o p1 m) P) : zv_Met l S D cA d 0 0 yX2_get cX2_get 2 (some .int) [.ref (S.heap.size + o), .int p1] SH0 m (zq_i SH0 (fun v m' => m = m' ∧ P v)) := by
  refine zv_met false hG pf_X2_get (fun z => by cases z) (Nat.le_of_ble_eq_true rfl) [(0, .ref (S.heap.size + o)), (1, .int p1)] rfl (fun p e s mi args below meth c X => ?_)
  rw [fPi_get] at h
  refine zr_iload_n X dX2_get_0 1 rfl ?_
  refine zr_if_lt (tgt := 21) X dX2_get_1 (by decide) (fun q => ?_) (fun q => ?_)
  · rw [if_pos q] at h
    refine zr_iconst (v := 0) X dX2_get_21 (by decide) ?_
    refine zr_goto (tgt := 31) X dX2_get_22 (by decide) ?_
    exact zr_iret X dX2_get_31 rfl ⟨Nat.le_refl _, Nat.le_refl _⟩ ⟨rfl, _, rfl, rfl, h⟩
  · rw [if_neg q] at h
    refine zr_iload_n X dX2_get_4 1 rfl ?_
    refine zr_aload_n X dX2_get_5 0 rfl ?_
    refine zr_getI X dX2_get_6 zd_X2_19 rfl ho (by rw [zk_2 ho]; decide) ?_
    refine zr_icmp_ge (tgt := 21) X dX2_get_9 (by decide) (fun q => ?_) (fun q => ?_)
    · rw [if_neg q] at h
      refine zr_iconst (v := 0) X dX2_get_21 (by decide) ?_
      refine zr_goto (tgt := 31) X dX2_get_22 (by decide) ?_
      exact zr_iret X dX2_get_31 rfl ⟨Nat.le_refl _, Nat.le_refl _⟩ ⟨rfl, _, rfl, rfl, h⟩
    · rw [if_pos q] at h
      refine zr_iload_n X dX2_get_12 1 rfl ?_
      refine zr_aload_n X dX2_get_13 0 rfl ?_
      refine zr_getR X dX2_get_14 zd_X2_13 rfl ho (zf_2_0 ho).1 ?_
      refine zr_alen (v := Int32.ofNat (zln (zrf o 0))) X dX2_get_17 (zf_2_0 ho).2 (by decide) rfl ?_
      refine zr_icmp_lt (tgt := 25) X dX2_get_18 (by decide) (fun q => ?_) (fun q => ?_)
      · rw [if_pos q] at h
        refine zr_aload_n X dX2_get_25 0 rfl ?_
        refine zr_getR X dX2_get_26 zd_X2_13 rfl ho (zf_2_0 ho).1 ?_
        refine zr_iload_n X dX2_get_29 1 rfl ?_
        obtain ⟨g0, h⟩ := zg_e h
        refine zr_iald X dX2_get_30 (zf_2_0 ho).2 (zI_in g0) ?_
        exact zr_iret X dX2_get_31 rfl ⟨Nat.le_refl _, Nat.le_refl _⟩ ⟨rfl, _, rfl, rfl, h⟩
      · rw [if_neg q] at h
        refine zr_iconst (v := 0) X dX2_get_21 (by decide) ?_
        refine zr_goto (tgt := 31) X dX2_get_22 (by decide) ?_
        exact zr_iret X dX2_get_31 rfl ⟨Nat.le_refl _, Nat.le_refl _⟩ ⟨rfl, _, rfl, rfl, h⟩

set_option maxRecDepth 100000 in
set_option maxHeartbeats 4000000 in
theorem x_fPi_put {l : Launch} {S : State} {D : va_G} {cA : Nat → ClassId} {tb sx : Nat → Nat} (hG : zv_G S D cA tb sx) (d : Nat) (hd : 1 ≤ d) (o : Nat) (ho : zcl o 2) (p1 : Int32) (p2 : Int32) (m : zv_M) (P : zv_M → Prop) (h : zw (fPi_put o p1 p2 m) P) : zv_Met l S D cA d 0 0 yX2_put cX2_put 3 none [.ref (S.heap.size + o), .int p1, .int p2] SH0 m (zq_v SH0 P) := by
  refine zv_met false hG pf_X2_put (fun z => by cases z) (Nat.le_of_ble_eq_true rfl) [(0, .ref (S.heap.size + o)), (1, .int p1), (2, .int p2)] rfl (fun p e s mi args below meth c X => ?_)
  rw [fPi_put] at h
  refine zr_iload_n X dX2_put_0 1 rfl ?_
  refine zr_if_lt (tgt := 28) X dX2_put_1 (by decide) (fun q => ?_) (fun q => ?_)
  · rw [if_pos q] at h
    exact zr_vret X dX2_put_28 ⟨Nat.le_refl _, Nat.le_refl _⟩ ⟨rfl, rfl, h⟩
  · rw [if_neg q] at h
    refine zr_iload_n X dX2_put_4 1 rfl ?_
    refine zr_aload_n X dX2_put_5 0 rfl ?_
    refine zr_getI X dX2_put_6 zd_X2_19 rfl ho (by rw [zk_2 ho]; decide) ?_
    refine zr_icmp_ge (tgt := 28) X dX2_put_9 (by decide) (fun q => ?_) (fun q => ?_)
    · rw [if_neg q] at h
      exact zr_vret X dX2_put_28 ⟨Nat.le_refl _, Nat.le_refl _⟩ ⟨rfl, rfl, h⟩
    · rw [if_pos q] at h
      refine zr_iload_n X dX2_put_12 1 rfl ?_
      refine zr_aload_n X dX2_put_13 0 rfl ?_
      refine zr_getR X dX2_put_14 zd_X2_13 rfl ho (zf_2_0 ho).1 ?_
      refine zr_alen (v := Int32.ofNat (zln (zrf o 0))) X dX2_put_17 (zf_2_0 ho).2 (by decide) rfl ?_
      refine zr_icmp_ge (tgt := 28) X dX2_put_18 (by decide) (fun q => ?_) (fun q => ?_)
      · rw [if_neg q] at h
        exact zr_vret X dX2_put_28 ⟨Nat.le_refl _, Nat.le_refl _⟩ ⟨rfl, rfl, h⟩
      · rw [if_pos q] at h
        refine zr_aload_n X dX2_put_21 0 rfl ?_
        refine zr_getR X dX2_put_22 zd_X2_13 rfl ho (zf_2_0 ho).1 ?_
        refine zr_iload_n X dX2_put_25 1 rfl ?_
        refine zr_iload_n X dX2_put_26 2 rfl ?_
        obtain ⟨g0, h⟩ := zg_e h
        refine zr_iast X dX2_put_27 (zf_2_0 ho).2 (zI_in g0) ?_
        exact zr_vret X dX2_put_28 ⟨Nat.le_refl _, Nat.le_refl _⟩ ⟨rfl, rfl, h⟩

set_option maxRecDepth 100000 in
set_option maxHeartbeats 4000000 in
theorem x_fPi_contains {l : Launch} {S : State} {D : va_G} {cA : Nat → ClassId} {tb sx : Nat → Nat} (hG : zv_G S D cA tb sx) (d : Nat) (hd : 1 ≤ d) (o : Nat) (ho : zcl o 2) (p1 : Int32) (m : zv_M) (P : Int32 → Prop) (h : zw (fPi_contains o p1 m) P) : zv_Met l S D cA d 0 0 yX2_contains cX2_contains 3 (some .boolean) [.ref (S.heap.size + o), .int p1] SH0 m (zq_i SH0 (fun v m' => m = m' ∧ P v)) := by
  refine zv_met false hG pf_X2_contains (fun z => by cases z) (Nat.le_of_ble_eq_true rfl) [(0, .ref (S.heap.size + o)), (1, .int p1)] rfl (fun p e s mi args below meth c X => ?_)
  rw [fPi_contains] at h
  refine zr_iconst (v := 0) X dX2_contains_0 (by decide) ?_
  refine zr_istore_n (lo' := [(2, .int 0), (0, .ref (S.heap.size + o)), (1, .int p1)]) X dX2_contains_1 (by decide) rfl ?_
  refine zr_sub [1, 2, 0] rfl ?_
  refine zl_w1 (fun a2 => zv_V S D cA p l e (zv_rm d 0 0) s mi args below meth c 3 (MQ below (zv_Q S D cA (zq_i SH0 (fun v m' => m = m' ∧ P v))) args s 0 0 (zv_fr S)) 0 0 2 [(0, .ref (S.heap.size + o)), (1, .int p1), (2, .int a2)] [] SH0 m) (fPi_contains_l2 o p1 m) _ (fun P1 hl1 hr1 a2 h => ?_) zFU 0 (zw_b1 h)
  rw [fPi_contains_l2] at h
  refine zr_iload_n X dX2_contains_2 2 rfl ?_
  refine zr_aload_n X dX2_contains_3 0 rfl ?_
  refine zr_getI X dX2_contains_4 zd_X2_19 rfl ho (by rw [zk_2 ho]; decide) ?_
  refine zr_icmp_ge (tgt := 37) X dX2_contains_7 (by decide) (fun q => ?_) (fun q => ?_)
  · rw [if_neg q] at h
    refine zr_iconst (v := 0) X dX2_contains_37 (by decide) ?_
    have h := hr1 _ h
    exact zr_iret X dX2_contains_38 rfl ⟨Nat.le_refl _, Nat.le_refl _⟩ ⟨rfl, _, rfl, rfl, h⟩
  · rw [if_pos q] at h
    refine zr_iload_n X dX2_contains_10 2 rfl ?_
    refine zr_aload_n X dX2_contains_11 0 rfl ?_
    refine zr_getR X dX2_contains_12 zd_X2_13 rfl ho (zf_2_0 ho).1 ?_
    refine zr_alen (v := Int32.ofNat (zln (zrf o 0))) X dX2_contains_15 (zf_2_0 ho).2 (by decide) rfl ?_
    refine zr_icmp_ge (tgt := 37) X dX2_contains_16 (by decide) (fun q => ?_) (fun q => ?_)
    · rw [if_neg q] at h
      refine zr_iconst (v := 0) X dX2_contains_37 (by decide) ?_
      have h := hr1 _ h
      exact zr_iret X dX2_contains_38 rfl ⟨Nat.le_refl _, Nat.le_refl _⟩ ⟨rfl, _, rfl, rfl, h⟩
    · rw [if_pos q] at h
      refine zr_aload_n X dX2_contains_19 0 rfl ?_
      refine zr_getR X dX2_contains_20 zd_X2_13 rfl ho (zf_2_0 ho).1 ?_
      refine zr_iload_n X dX2_contains_23 2 rfl ?_
      obtain ⟨g0, h⟩ := zg_e h
      refine zr_iald X dX2_contains_24 (zf_2_0 ho).2 (zI_in g0) ?_
      refine zr_iload_n X dX2_contains_25 1 rfl ?_
      refine zr_icmp_ne (tgt := 31) X dX2_contains_26 (by decide) (fun q => ?_) (fun q => ?_)
      · rw [if_neg q] at h
        refine zr_iinc (v := a2 + 1) (lo' := [(2, .int (a2 + 1)), (0, .ref (S.heap.size + o)), (1, .int p1)]) X dX2_contains_31 2 rfl rfl (by decide) rfl ?_
        refine zr_goto (tgt := 2) X dX2_contains_34 (by decide) ?_
        have h := hl1 _ h
        exact zr_sub [1, 2, 0] rfl h
      · rw [if_pos q] at h
        refine zr_iconst (v := 1) X dX2_contains_29 (by decide) ?_
        have h := hr1 _ h
        exact zr_iret X dX2_contains_30 rfl ⟨Nat.le_refl _, Nat.le_refl _⟩ ⟨rfl, _, rfl, rfl, h⟩

set_option maxRecDepth 100000 in
set_option maxHeartbeats 4000000 in
theorem x_fPi_becomes {l : Launch} {S : State} {D : va_G} {cA : Nat → ClassId} {tb sx : Nat → Nat} (hG : zv_G S D cA tb sx) (d : Nat) (hd : 2 ≤ d) (o : Nat) (ho : zcl o 2) (p1 : Nat) (hp1 : zcl p1 2) (m : zv_M) (P : zv_M → Prop) (h : zw (fPi_becomes o p1 m) P) : zv_Met l S D cA d 0 0 yX2_becomes cX2_becomes 3 none [.ref (S.heap.size + o), .ref (S.heap.size + p1)] SH0 m (zq_v SH0 P) := by
  refine zv_met false hG pf_X2_becomes (fun z => by cases z) (Nat.le_of_ble_eq_true rfl) [(0, .ref (S.heap.size + o)), (1, .ref (S.heap.size + p1))] rfl (fun p e s mi args below meth c X => ?_)
  rw [fPi_becomes] at h
  refine zr_aload_n X dX2_becomes_0 0 rfl ?_
  refine zr_iconst (v := 0) X dX2_becomes_1 (by decide) ?_
  refine zr_put X dX2_becomes_2 zd_X2_19 rfl rfl rfl ho (by rw [zk_2 ho]; decide) ?_
  refine zr_iconst (v := 0) X dX2_becomes_5 (by decide) ?_
  refine zr_istore_n (lo' := [(2, .int 0), (0, .ref (S.heap.size + o)), (1, .ref (S.heap.size + p1))]) X dX2_becomes_6 (by decide) rfl ?_
  refine zr_sub [1, 2, 0] rfl ?_
  refine zl_w2 (fun a2 m3 => zv_V S D cA p l e (zv_rm d 0 0) s mi args below meth c 3 (MQ below (zv_Q S D cA (zq_v SH0 P)) args s 0 0 (zv_fr S)) 0 0 7 [(0, .ref (S.heap.size + o)), (1, .ref (S.heap.size + p1)), (2, .int a2)] [] SH0 m3) (fPi_becomes_l7 o p1) _ (fun P1 hl1 hr1 a2 m3 h => ?_) zFU 0 (wI m o 1 0) (zw_b1 h)
  rw [fPi_becomes_l7] at h
  refine zr_iload_n X dX2_becomes_7 2 rfl ?_
  refine zr_aload_n X dX2_becomes_8 1 rfl ?_
  refine zr_getI X dX2_becomes_9 zd_X2_19 rfl hp1 (by rw [zk_2 hp1]; decide) ?_
  refine zr_icmp_ge (tgt := 30) X dX2_becomes_12 (by decide) (fun q => ?_) (fun q => ?_)
  · rw [if_neg q] at h
    have h := hr1 _ h
    exact zr_vret X dX2_becomes_30 ⟨Nat.le_refl _, Nat.le_refl _⟩ ⟨rfl, rfl, h⟩
  · rw [if_pos q] at h
    refine zr_aload_n X dX2_becomes_15 0 rfl ?_
    refine zr_aload_n X dX2_becomes_16 1 rfl ?_
    refine zr_iload_n X dX2_becomes_17 2 rfl ?_
    refine zr_callV_i (As := [.int a2]) (st := [.ref (S.heap.size + o)]) (d := d - 1) X dX2_becomes_18 wm_X2_23 my_X2_get mv_X2_get hp1 rfl (Nat.le_of_ble_eq_true rfl) (zRm (by omega)) ⟨Nat.le_refl _, Nat.le_refl _⟩ (x_fPi_get hG (d - 1) (by omega) p1 hp1 a2 m3 _ (zw_b1 h)) (fun r4 m5 q => ?_)
    obtain ⟨rfl, h⟩ := q
    refine zr_callV_v (As := [.int r4]) (st := []) (d := d - 1) X dX2_becomes_21 wm_X2_27 my_X2_add mv_X2_add ho rfl (Nat.le_of_ble_eq_true rfl) (zRm (by omega)) ⟨Nat.le_refl _, Nat.le_refl _⟩ (x_fPi_add hG (d - 1) (by omega) o ho r4 m3 _ (zw_b1 h)) (fun m6 q => ?_)
    replace h := q
    refine zr_iinc (v := a2 + 1) (lo' := [(2, .int (a2 + 1)), (0, .ref (S.heap.size + o)), (1, .ref (S.heap.size + p1))]) X dX2_becomes_24 2 rfl rfl (by decide) rfl ?_
    refine zr_goto (tgt := 7) X dX2_becomes_27 (by decide) ?_
    have h := hl1 _ h
    exact zr_sub [1, 2, 0] rfl h

set_option maxRecDepth 100000 in
set_option maxHeartbeats 4000000 in
theorem x_fJ_min {l : Launch} {S : State} {D : va_G} {cA : Nat → ClassId} {tb sx : Nat → Nat} (hG : zv_G S D cA tb sx) (d : Nat) (hd : 1 ≤ d) (p1 : Int32) (p2 : Int32) (m : zv_M) (P : Int32 → Prop) (h : zw (fJ_min p1 p2) P) : zv_Met l S D cA d 0 0 yJ9_min_7cf53 cJ9_min_7cf53 2 (some .int) [.int p1, .int p2] SH0 m (zq_i SH0 (fun v m' => m = m' ∧ P v)) := by
  refine zv_met false hG pf_J9_min_7cf53 (fun z => by cases z) (Nat.le_of_ble_eq_true rfl) [(0, .int p1), (1, .int p2)] rfl (fun p e s mi args below meth c X => ?_)
  rw [fJ_min] at h
  refine zr_iload_n X dJ9_min_7cf53_0 0 rfl ?_
  refine zr_iload_n X dJ9_min_7cf53_1 1 rfl ?_
  refine zr_icmp_gt (tgt := 9) X dJ9_min_7cf53_2 (by decide) (fun q => ?_) (fun q => ?_)
  · rw [if_pos q] at h
    refine zr_iload_n X dJ9_min_7cf53_9 1 rfl ?_
    exact zr_iret X dJ9_min_7cf53_10 rfl ⟨Nat.le_refl _, Nat.le_refl _⟩ ⟨rfl, _, rfl, rfl, h⟩
  · rw [if_neg q] at h
    refine zr_iload_n X dJ9_min_7cf53_5 0 rfl ?_
    refine zr_goto (tgt := 10) X dJ9_min_7cf53_6 (by decide) ?_
    exact zr_iret X dJ9_min_7cf53_10 rfl ⟨Nat.le_refl _, Nat.le_refl _⟩ ⟨rfl, _, rfl, rfl, h⟩

set_option maxRecDepth 100000 in
set_option maxHeartbeats 4000000 in
theorem x_fRo_prepare {l : Launch} {S : State} {D : va_G} {cA : Nat → ClassId} {tb sx : Nat → Nat} (hG : zv_G S D cA tb sx) (d : Nat) (hd : 2 ≤ d) (p1 : Int32) (p2 : Int32) (p3 : Nat) (hp3 : zar p3 0) (m : zv_M) (P : zv_M → Prop) (h : zw (fRo_prepare p1 p2 p3 m) P) : zv_Met l S D cA d 0 0 yX3_prepare cX3_prepare 5 none [.ref (S.heap.size + 49), .int p1, .int p2, .ref (S.heap.size + p3)] SH0 m (zq_v SH0 P) := by
  refine zv_met false hG pf_X3_prepare (fun z => by cases z) (Nat.le_of_ble_eq_true rfl) [(0, .ref (S.heap.size + 49)), (1, .int p1), (2, .int p2), (3, .ref (S.heap.size + p3))] rfl (fun p e s mi args below meth c X => ?_)
  rw [fRo_prepare] at h
  refine zr_aload_n X dX3_prepare_0 0 rfl ?_
  refine zr_iload_n X dX3_prepare_1 1 rfl ?_
  refine zr_iconst (v := 5) X dX3_prepare_2 (by decide) ?_
  refine zr_callS_i (As := [.int p1, .int 5]) (st := [.ref (S.heap.size + 49)]) (d := d - 1) X dX3_prepare_3 wm_X3_38 ws_J9_min_7cf53 my_J9_min_7cf53 rfl (Nat.le_of_ble_eq_true rfl) (zRm (by omega)) ⟨Nat.le_refl _, Nat.le_refl _⟩ (x_fJ_min hG (d - 1) (by omega) p1 5 m _ (zw_b1 h)) (fun r1 m2 q => ?_)
  obtain ⟨rfl, h⟩ := q
  refine zr_put X dX3_prepare_6 zd_X3_24 rfl rfl rfl zo_49 (by rw [zk_3 zo_49]; decide) ?_
  refine zr_aload_n X dX3_prepare_9 0 rfl ?_
  refine zr_iload_n X dX3_prepare_10 2 rfl ?_
  refine zr_put X dX3_prepare_11 zd_X3_28 rfl rfl rfl zo_49 (by rw [zk_3 zo_49]; decide) ?_
  refine zr_aload_n X dX3_prepare_14 0 rfl ?_
  refine zr_iconst (v := 0) X dX3_prepare_15 (by decide) ?_
  refine zr_put X dX3_prepare_16 zd_X3_35 rfl rfl rfl zo_49 (by rw [zk_3 zo_49]; decide) ?_
  refine zr_iconst (v := 0) X dX3_prepare_19 (by decide) ?_
  refine zr_istore (lo' := [(4, .int 0), (0, .ref (S.heap.size + 49)), (1, .int p1), (2, .int p2), (3, .ref (S.heap.size + p3))]) X dX3_prepare_20 (by decide) rfl ?_
  refine zr_sub [1, 4, 0] rfl ?_
  refine zl_w2 (fun a4 m5 => zv_V S D cA p l e (zv_rm d 0 0) s mi args below meth c 5 (MQ below (zv_Q S D cA (zq_v SH0 P)) args s 0 0 (zv_fr S)) 0 0 22 [(0, .ref (S.heap.size + 49)), (3, .ref (S.heap.size + p3)), (4, .int a4)] [] SH0 m5) (fRo_prepare_l22 p3) _ (fun P3 hl3 hr3 a4 m5 h => ?_) zFU 0 (wI (wI (wI m 49 4 r1) 49 5 p2) 49 7 0) (zw_b1 h)
  rw [fRo_prepare_l22] at h
  refine zr_iload X dX3_prepare_22 2 rfl ?_
  refine zr_aload_n X dX3_prepare_24 0 rfl ?_
  refine zr_getR X dX3_prepare_25 zd_X3_9 rfl zo_49 zl_49_0 ?_
  refine zr_alen (v := 25) X dX3_prepare_28 za_50 (by decide) rfl ?_
  refine zr_icmp_ge (tgt := 60) X dX3_prepare_29 (by decide) (fun q => ?_) (fun q => ?_)
  · rw [if_neg q] at h
    have h := hr3 _ h
    exact zr_vret X dX3_prepare_60 ⟨Nat.le_refl _, Nat.le_refl _⟩ ⟨rfl, rfl, h⟩
  · rw [if_pos q] at h
    refine zr_aload_n X dX3_prepare_32 0 rfl ?_
    refine zr_getR X dX3_prepare_33 zd_X3_9 rfl zo_49 zl_49_0 ?_
    refine zr_iload X dX3_prepare_36 2 rfl ?_
    refine zr_iload X dX3_prepare_38 2 rfl ?_
    refine zr_aload_n X dX3_prepare_40 1 rfl ?_
    refine zr_alen (v := Int32.ofNat (zln p3)) X dX3_prepare_41 hp3 (by decide) rfl ?_
    have hJ53 : ∀ (v6 : Int32), zw (fRo_prepare_j53 a4 m5 v6) P3 → zv_V S D cA p l e (zv_rm d 0 0) s mi args below meth c 5 (MQ below (zv_Q S D cA (zq_v SH0 P)) args s 0 0 (zv_fr S)) 0 0 53 [(0, .ref (S.heap.size + 49)), (3, .ref (S.heap.size + p3)), (4, .int a4)] [.int v6, .int a4, .ref (S.heap.size + 50)] SH0 m5 := by
      intro v6 h
      rw [fRo_prepare_j53] at h
      obtain ⟨g0, h⟩ := zg_e h
      refine zr_iast X dX3_prepare_53 za_50 (zI_in g0) ?_
      refine zr_iinc (v := a4 + 1) (lo' := [(4, .int (a4 + 1)), (0, .ref (S.heap.size + 49)), (3, .ref (S.heap.size + p3))]) X dX3_prepare_54 2 rfl rfl (by decide) rfl ?_
      refine zr_goto (tgt := 22) X dX3_prepare_57 (by decide) ?_
      have h := hl3 _ h
      exact zr_sub [1, 2, 0] rfl h
    refine zr_icmp_ge (tgt := 52) X dX3_prepare_42 (by decide) (fun q => ?_) (fun q => ?_)
    · rw [if_neg q] at h
      refine zr_iconst (v := 0) X dX3_prepare_52 (by decide) ?_
      exact zr_sub [0, 1, 2] rfl (hJ53 0 h)
    · rw [if_pos q] at h
      refine zr_aload_n X dX3_prepare_45 1 rfl ?_
      refine zr_iload X dX3_prepare_46 2 rfl ?_
      obtain ⟨g0, h⟩ := zg_e h
      refine zr_iald X dX3_prepare_48 hp3 (zI_in g0) ?_
      refine zr_goto (tgt := 53) X dX3_prepare_49 (by decide) ?_
      exact zr_sub [0, 1, 2] rfl (hJ53 (m5.1 p3 a4.toNatClampNeg) h)

set_option maxRecDepth 100000 in
set_option maxHeartbeats 4000000 in
theorem x_fRo_startBehind {l : Launch} {S : State} {D : va_G} {cA : Nat → ClassId} {tb sx : Nat → Nat} (hG : zv_G S D cA tb sx) (d : Nat) (hd : 2 ≤ d) (p1 : Int32) (m : zv_M) (P : Int32 → zv_M → Prop) (h : zw2 (fRo_startBehind p1 m) P) : zv_Met l S D cA d 0 0 yX3_startBehind cX3_startBehind 5 (some .boolean) [.ref (S.heap.size + 49), .int p1] SH0 m (zq_i SH0 P) := by
  refine zv_met false hG pf_X3_startBehind (fun z => by cases z) (Nat.le_of_ble_eq_true rfl) [(0, .ref (S.heap.size + 49)), (1, .int p1)] rfl (fun p e s mi args below meth c X => ?_)
  rw [fRo_startBehind] at h
  refine zr_iconst (v := 0) X dX3_startBehind_0 (by decide) ?_
  refine zr_istore_n (lo' := [(2, .int 0), (0, .ref (S.heap.size + 49)), (1, .int p1)]) X dX3_startBehind_1 (by decide) rfl ?_
  refine zr_sub [1, 2, 0] rfl ?_
  refine zl_w2 (fun a2 m3 => zv_V S D cA p l e (zv_rm d 0 0) s mi args below meth c 5 (MQ below (zv_Q S D cA (zq_i SH0 P)) args s 0 0 (zv_fr S)) 0 0 2 [(0, .ref (S.heap.size + 49)), (1, .int p1), (2, .int a2)] [] SH0 m3) (fRo_startBehind_l2 p1) _ (fun P1 hl1 hr1 a2 m3 h => ?_) zFU 0 m (zw_b12 h)
  rw [fRo_startBehind_l2] at h
  refine zr_iload_n X dX3_startBehind_2 2 rfl ?_
  refine zr_aload_n X dX3_startBehind_3 0 rfl ?_
  refine zr_getI X dX3_startBehind_4 zd_X3_24 rfl zo_49 (by rw [zk_3 zo_49]; decide) ?_
  refine zr_icmp_ge (tgt := 79) X dX3_startBehind_7 (by decide) (fun q => ?_) (fun q => ?_)
  · rw [if_neg q] at h
    refine zr_iconst (v := 1) X dX3_startBehind_79 (by decide) ?_
    have h := hr1 _ h
    exact zr_iret X dX3_startBehind_80 rfl ⟨Nat.le_refl _, Nat.le_refl _⟩ ⟨rfl, _, rfl, h⟩
  · rw [if_pos q] at h
    refine zr_iload_n X dX3_startBehind_10 2 rfl ?_
    refine zr_aload_n X dX3_startBehind_11 0 rfl ?_
    refine zr_getR X dX3_startBehind_12 zd_X3_15 rfl zo_49 zl_49_1 ?_
    refine zr_alen (v := 5) X dX3_startBehind_15 za_51 (by decide) rfl ?_
    refine zr_icmp_ge (tgt := 79) X dX3_startBehind_16 (by decide) (fun q => ?_) (fun q => ?_)
    · rw [if_neg q] at h
      refine zr_iconst (v := 1) X dX3_startBehind_79 (by decide) ?_
      have h := hr1 _ h
      exact zr_iret X dX3_startBehind_80 rfl ⟨Nat.le_refl _, Nat.le_refl _⟩ ⟨rfl, _, rfl, h⟩
    · rw [if_pos q] at h
      refine zr_iconst (v := 0) X dX3_startBehind_19 (by decide) ?_
      refine zr_istore_n (lo' := [(3, .int 0), (0, .ref (S.heap.size + 49)), (1, .int p1), (2, .int a2)]) X dX3_startBehind_20 (by decide) rfl ?_
      refine zr_iconst (v := 0) X dX3_startBehind_21 (by decide) ?_
      refine zr_istore (lo' := [(4, .int 0), (3, .int 0), (0, .ref (S.heap.size + 49)), (1, .int p1), (2, .int a2)]) X dX3_startBehind_22 (by decide) rfl ?_
      refine zr_sub [2, 3, 4, 1, 0] rfl ?_
      have hR4 : ∀ (a8 : Int32) (m9 : zv_M), zw (if a8 = 1 then some (.inl (a2 + 1, m9)) else some (.inr (0, m9)) : Option ((Int32 × zv_M) ⊕ (Int32 × zv_M))) P1 → zv_V S D cA p l e (zv_rm d 0 0) s mi args below meth c 5 (MQ below (zv_Q S D cA (zq_i SH0 P)) args s 0 0 (zv_fr S)) 0 0 66 [(0, .ref (S.heap.size + 49)), (1, .int p1), (2, .int a2), (3, .int a8)] [] SH0 m9 := by
        intro a8 m9 h
        refine zr_iload_n X dX3_startBehind_66 3 rfl ?_
        refine zr_iconst (v := 1) X dX3_startBehind_67 (by decide) ?_
        refine zr_icmp_eq (tgt := 73) X dX3_startBehind_68 (by decide) (fun q => ?_) (fun q => ?_)
        · rw [if_pos q] at h
          refine zr_iinc (v := a2 + 1) (lo' := [(2, .int (a2 + 1)), (0, .ref (S.heap.size + 49)), (1, .int p1), (3, .int a8)]) X dX3_startBehind_73 2 rfl rfl (by decide) rfl ?_
          refine zr_goto (tgt := 2) X dX3_startBehind_76 (by decide) ?_
          have h := hl1 _ h
          exact zr_sub [1, 2, 0] rfl h
        · rw [if_neg q] at h
          refine zr_iconst (v := 0) X dX3_startBehind_71 (by decide) ?_
          have h := hr1 _ h
          exact zr_iret X dX3_startBehind_72 rfl ⟨Nat.le_refl _, Nat.le_refl _⟩ ⟨rfl, _, rfl, h⟩
      refine zl_w3 (fun a5 a6 m7 => zv_V S D cA p l e (zv_rm d 0 0) s mi args below meth c 5 (MQ below (zv_Q S D cA (zq_i SH0 P)) args s 0 0 (zv_fr S)) 0 0 24 [(0, .ref (S.heap.size + 49)), (1, .int p1), (2, .int a2), (3, .int a5), (4, .int a6)] [] SH0 m7) (fRo_startBehind_l24 p1 a2) _ (fun P4 hl4 hr4 a5 a6 m7 h => ?_) zFU 0 0 m3 (zw_b1 h)
      rw [fRo_startBehind_l24] at h
      refine zr_iload X dX3_startBehind_24 4 rfl ?_
      refine zr_aload_n X dX3_startBehind_26 0 rfl ?_
      refine zr_getI X dX3_startBehind_27 zd_X3_24 rfl zo_49 (by rw [zk_3 zo_49]; decide) ?_
      refine zr_icmp_ge (tgt := 66) X dX3_startBehind_30 (by decide) (fun q => ?_) (fun q => ?_)
      · rw [if_neg q] at h
        have h := hr4 _ h
        exact zr_sub [0, 1, 2, 3] rfl (hR4 a5 m7 h)
      · rw [if_pos q] at h
        refine zr_iload_n X dX3_startBehind_33 1 rfl ?_
        refine zr_iload_n X dX3_startBehind_34 2 rfl ?_
        refine zr_aload_n X dX3_startBehind_35 0 rfl ?_
        refine zr_getI X dX3_startBehind_36 zd_X3_24 rfl zo_49 (by rw [zk_3 zo_49]; decide) ?_
        refine zr_imul X dX3_startBehind_39 ?_
        refine zr_iload X dX3_startBehind_40 4 rfl ?_
        refine zr_iadd X dX3_startBehind_42 ?_
        refine zr_callSN_i (As := [.int p1, .int ((a2 * (m7.1 49 4)) + a6)]) (st := []) (d := d - 1) X dX3_startBehind_43 wm_X3_44 ws_X10_isIn my_X10_isIn rfl (Nat.le_of_ble_eq_true rfl) (zRm (by omega)) ⟨Nat.le_refl _, Nat.le_refl _⟩ (x_fN_isIn hG (d - 1) (by omega) p1 ((a2 * (m7.1 49 4)) + a6) m7 _ (zw_b1 h)) (fun r10 m11 q => ?_)
        obtain ⟨rfl, h⟩ := q
        have hJ60 : ∀ (a12 : Int32) (m13 : zv_M), zw (fRo_startBehind_j60 a6 a12 m13) P4 → zv_V S D cA p l e (zv_rm d 0 0) s mi args below meth c 5 (MQ below (zv_Q S D cA (zq_i SH0 P)) args s 0 0 (zv_fr S)) 0 0 60 [(0, .ref (S.heap.size + 49)), (1, .int p1), (2, .int a2), (3, .int a12), (4, .int a6)] [] SH0 m13 := by
          intro a12 m13 h
          rw [fRo_startBehind_j60] at h
          refine zr_iinc (v := a6 + 1) (lo' := [(4, .int (a6 + 1)), (0, .ref (S.heap.size + 49)), (1, .int p1), (2, .int a2), (3, .int a12)]) X dX3_startBehind_60 4 rfl rfl (by decide) rfl ?_
          refine zr_goto (tgt := 24) X dX3_startBehind_63 (by decide) ?_
          have h := hl4 _ h
          exact zr_sub [1, 2, 3, 4, 0] rfl h
        refine zr_if_eq (tgt := 60) X dX3_startBehind_46 (by decide) (fun q => ?_) (fun q => ?_)
        · rw [if_pos q] at h
          exact zr_sub [0, 1, 2, 3, 4] rfl (hJ60 a5 m7 h)
        · rw [if_neg q] at h
          refine zr_aload_n X dX3_startBehind_49 0 rfl ?_
          refine zr_getR X dX3_startBehind_50 zd_X3_15 rfl zo_49 zl_49_1 ?_
          refine zr_iload_n X dX3_startBehind_53 2 rfl ?_
          refine zr_iload X dX3_startBehind_54 4 rfl ?_
          obtain ⟨g0, h⟩ := zg_e h
          refine zr_iast X dX3_startBehind_56 za_51 (zI_in g0) ?_
          refine zr_iinc (v := a5 + 1) (lo' := [(3, .int (a5 + 1)), (0, .ref (S.heap.size + 49)), (1, .int p1), (2, .int a2), (4, .int a6)]) X dX3_startBehind_57 3 rfl rfl (by decide) rfl ?_
          exact zr_sub [1, 2, 3, 0, 4] rfl (hJ60 (a5 + 1) (wI m7 51 a2.toNatClampNeg a6) h)

set_option maxRecDepth 100000 in
set_option maxHeartbeats 4000000 in
theorem x_fRo_noteWay {l : Launch} {S : State} {D : va_G} {cA : Nat → ClassId} {tb sx : Nat → Nat} (hG : zv_G S D cA tb sx) (d : Nat) (hd : 1 ≤ d) (m : zv_M) (P : zv_M → Prop) (h : zw (fRo_noteWay m) P) : zv_Met l S D cA d 0 0 yX3_noteWay cX3_noteWay 2 none [.ref (S.heap.size + 49)] SH0 m (zq_v SH0 P) := by
  refine zv_met false hG pf_X3_noteWay (fun z => by cases z) (Nat.le_of_ble_eq_true rfl) [(0, .ref (S.heap.size + 49))] rfl (fun p e s mi args below meth c X => ?_)
  rw [fRo_noteWay] at h
  refine zr_iconst (v := 0) X dX3_noteWay_0 (by decide) ?_
  refine zr_istore_n (lo' := [(1, .int 0), (0, .ref (S.heap.size + 49))]) X dX3_noteWay_1 (by decide) rfl ?_
  refine zr_sub [1, 0] rfl ?_
  refine zl_w2 (fun a2 m3 => zv_V S D cA p l e (zv_rm d 0 0) s mi args below meth c 2 (MQ below (zv_Q S D cA (zq_v SH0 P)) args s 0 0 (zv_fr S)) 0 0 2 [(0, .ref (S.heap.size + 49)), (1, .int a2)] [] SH0 m3) fRo_noteWay_l2 _ (fun P1 hl1 hr1 a2 m3 h => ?_) zFU 0 m (zw_b1 h)
  rw [fRo_noteWay_l2] at h
  refine zr_iload_n X dX3_noteWay_2 1 rfl ?_
  refine zr_aload_n X dX3_noteWay_3 0 rfl ?_
  refine zr_getI X dX3_noteWay_4 zd_X3_24 rfl zo_49 (by rw [zk_3 zo_49]; decide) ?_
  refine zr_icmp_ge (tgt := 44) X dX3_noteWay_7 (by decide) (fun q => ?_) (fun q => ?_)
  · rw [if_neg q] at h
    refine zr_aload_n X dX3_noteWay_44 0 rfl ?_
    refine zr_dup X dX3_noteWay_45 rfl ?_
    refine zr_getI X dX3_noteWay_46 zd_X3_35 rfl zo_49 (by rw [zk_3 zo_49]; decide) ?_
    refine zr_iconst (v := 1) X dX3_noteWay_49 (by decide) ?_
    refine zr_iadd X dX3_noteWay_50 ?_
    refine zr_put X dX3_noteWay_51 zd_X3_35 rfl rfl rfl zo_49 (by rw [zk_3 zo_49]; decide) ?_
    have h := hr1 _ h
    exact zr_vret X dX3_noteWay_54 ⟨Nat.le_refl _, Nat.le_refl _⟩ ⟨rfl, rfl, h⟩
  · rw [if_pos q] at h
    refine zr_iload_n X dX3_noteWay_10 1 rfl ?_
    refine zr_aload_n X dX3_noteWay_11 0 rfl ?_
    refine zr_getR X dX3_noteWay_12 zd_X3_21 rfl zo_49 zl_49_3 ?_
    refine zr_alen (v := 5) X dX3_noteWay_15 za_53 (by decide) rfl ?_
    refine zr_icmp_ge (tgt := 44) X dX3_noteWay_16 (by decide) (fun q => ?_) (fun q => ?_)
    · rw [if_neg q] at h
      refine zr_aload_n X dX3_noteWay_44 0 rfl ?_
      refine zr_dup X dX3_noteWay_45 rfl ?_
      refine zr_getI X dX3_noteWay_46 zd_X3_35 rfl zo_49 (by rw [zk_3 zo_49]; decide) ?_
      refine zr_iconst (v := 1) X dX3_noteWay_49 (by decide) ?_
      refine zr_iadd X dX3_noteWay_50 ?_
      refine zr_put X dX3_noteWay_51 zd_X3_35 rfl rfl rfl zo_49 (by rw [zk_3 zo_49]; decide) ?_
      have h := hr1 _ h
      exact zr_vret X dX3_noteWay_54 ⟨Nat.le_refl _, Nat.le_refl _⟩ ⟨rfl, rfl, h⟩
    · rw [if_pos q] at h
      refine zr_aload_n X dX3_noteWay_19 0 rfl ?_
      refine zr_getI X dX3_noteWay_20 zd_X3_35 rfl zo_49 (by rw [zk_3 zo_49]; decide) ?_
      refine zr_if_ne (tgt := 44) X dX3_noteWay_23 (by decide) (fun q => ?_) (fun q => ?_)
      · rw [if_neg q] at h
        refine zr_aload_n X dX3_noteWay_44 0 rfl ?_
        refine zr_dup X dX3_noteWay_45 rfl ?_
        refine zr_getI X dX3_noteWay_46 zd_X3_35 rfl zo_49 (by rw [zk_3 zo_49]; decide) ?_
        refine zr_iconst (v := 1) X dX3_noteWay_49 (by decide) ?_
        refine zr_iadd X dX3_noteWay_50 ?_
        refine zr_put X dX3_noteWay_51 zd_X3_35 rfl rfl rfl zo_49 (by rw [zk_3 zo_49]; decide) ?_
        have h := hr1 _ h
        exact zr_vret X dX3_noteWay_54 ⟨Nat.le_refl _, Nat.le_refl _⟩ ⟨rfl, rfl, h⟩
      · rw [if_pos q] at h
        refine zr_aload_n X dX3_noteWay_26 0 rfl ?_
        refine zr_getR X dX3_noteWay_27 zd_X3_21 rfl zo_49 zl_49_3 ?_
        refine zr_iload_n X dX3_noteWay_30 1 rfl ?_
        refine zr_aload_n X dX3_noteWay_31 0 rfl ?_
        refine zr_getR X dX3_noteWay_32 zd_X3_18 rfl zo_49 zl_49_2 ?_
        refine zr_iload_n X dX3_noteWay_35 1 rfl ?_
        obtain ⟨g0, h⟩ := zg_e h
        refine zr_iald X dX3_noteWay_36 za_52 (zI_in g0) ?_
        obtain ⟨g0, h⟩ := zg_e h
        refine zr_iast X dX3_noteWay_37 za_53 (zI_in g0) ?_
        refine zr_iinc (v := a2 + 1) (lo' := [(1, .int (a2 + 1)), (0, .ref (S.heap.size + 49))]) X dX3_noteWay_38 1 rfl rfl (by decide) rfl ?_
        refine zr_goto (tgt := 2) X dX3_noteWay_41 (by decide) ?_
        have h := hl1 _ h
        exact zr_sub [1, 0] rfl h

set_option maxRecDepth 100000 in
set_option maxHeartbeats 4000000 in
theorem xo_fRo_goBehind {l : Launch} {S : State} {D : va_G} {cA : Nat → ClassId} {tb sx : Nat → Nat} (hG : zv_G S D cA tb sx) (d dr : Nat) (hd : 2 ≤ d) (hdr : dr + 1 ≤ d) (rec_goBehind : Int32 → Int32 → Int32 → zv_M → Option (zv_M)) (rec_goOn : Int32 → Int32 → Int32 → zv_M → Option (zv_M)) (hrec_goBehind : ∀ (p1 : Int32) (p2 : Int32) (p3 : Int32) (m : zv_M) (P : zv_M → Prop), zw (rec_goBehind p1 p2 p3 m) P → zv_Met l S D cA dr 0 0 yX3_goBehind cX3_goBehind 4 none [.ref (S.heap.size + 49), .int p1, .int p2, .int p3] SH0 m (zq_v SH0 P)) (hrec_goOn : ∀ (p1 : Int32) (p2 : Int32) (p3 : Int32) (m : zv_M) (P : zv_M → Prop), zw (rec_goOn p1 p2 p3 m) P → zv_Met l S D cA dr 0 0 yX3_goOn cX3_goOn 6 none [.ref (S.heap.size + 49), .int p1, .int p2, .int p3] SH0 m (zq_v SH0 P)) (p1 : Int32) (p2 : Int32) (p3 : Int32) (m : zv_M) (P : zv_M → Prop) (h : zw (fRo_goBehind_b rec_goBehind rec_goOn p1 p2 p3 m) P) : zv_Met l S D cA d 0 0 yX3_goBehind cX3_goBehind 4 none [.ref (S.heap.size + 49), .int p1, .int p2, .int p3] SH0 m (zq_v SH0 P) := by
  refine zv_met false hG pf_X3_goBehind (fun z => by cases z) (Nat.le_of_ble_eq_true rfl) [(0, .ref (S.heap.size + 49)), (1, .int p1), (2, .int p2), (3, .int p3)] rfl (fun p e s mi args below meth c X => ?_)
  rw [fRo_goBehind_b] at h
  refine zr_iload_n X dX3_goBehind_0 1 rfl ?_
  refine zr_aload_n X dX3_goBehind_1 0 rfl ?_
  refine zr_getI X dX3_goBehind_2 zd_X3_24 rfl zo_49 (by rw [zk_3 zo_49]; decide) ?_
  refine zr_iconst (v := 1) X dX3_goBehind_5 (by decide) ?_
  refine zr_isub X dX3_goBehind_6 ?_
  refine zr_icmp_ge (tgt := 22) X dX3_goBehind_7 (by decide) (fun q => ?_) (fun q => ?_)
  · rw [if_neg q] at h
    refine zr_iload_n X dX3_goBehind_22 3 rfl ?_
    refine zr_if_ne (tgt := 30) X dX3_goBehind_23 (by decide) (fun q => ?_) (fun q => ?_)
    · rw [if_neg q] at h
      exact zr_vret X dX3_goBehind_30 ⟨Nat.le_refl _, Nat.le_refl _⟩ ⟨rfl, rfl, h⟩
    · rw [if_pos q] at h
      refine zr_aload_n X dX3_goBehind_26 0 rfl ?_
      refine zr_callV_v (As := []) (st := []) (d := d - 1) X dX3_goBehind_27 wm_X3_55 my_X3_noteWay mv_X3_noteWay zo_49 rfl (Nat.le_of_ble_eq_true rfl) (zRm (by omega)) ⟨Nat.le_refl _, Nat.le_refl _⟩ (x_fRo_noteWay hG (d - 1) (by omega) m _ (zw_b1 h)) (fun m1 q => ?_)
      replace h := q
      exact zr_vret X dX3_goBehind_30 ⟨Nat.le_refl _, Nat.le_refl _⟩ ⟨rfl, rfl, h⟩
  · rw [if_pos q] at h
    refine zr_aload_n X dX3_goBehind_10 0 rfl ?_
    refine zr_iload_n X dX3_goBehind_11 1 rfl ?_
    refine zr_iconst (v := 1) X dX3_goBehind_12 (by decide) ?_
    refine zr_iadd X dX3_goBehind_13 ?_
    refine zr_iload_n X dX3_goBehind_14 2 rfl ?_
    refine zr_iload_n X dX3_goBehind_15 3 rfl ?_
    refine zr_callV_v (As := [.int (p1 + 1), .int p2, .int p3]) (st := []) (d := dr) X dX3_goBehind_16 wm_X3_48 my_X3_goOn mv_X3_goOn zo_49 rfl (Nat.le_of_ble_eq_true rfl) (zRm (by omega)) ⟨Nat.le_refl _, Nat.le_refl _⟩ (hrec_goOn (p1 + 1) p2 p3 m _ (zw_b1 h)) (fun m2 q => ?_)
    replace h := q
    refine zr_goto (tgt := 30) X dX3_goBehind_19 (by decide) ?_
    exact zr_vret X dX3_goBehind_30 ⟨Nat.le_refl _, Nat.le_refl _⟩ ⟨rfl, rfl, h⟩

set_option maxRecDepth 100000 in
set_option maxHeartbeats 4000000 in
theorem xo_fRo_goOn {l : Launch} {S : State} {D : va_G} {cA : Nat → ClassId} {tb sx : Nat → Nat} (hG : zv_G S D cA tb sx) (d dr : Nat) (hd : 2 ≤ d) (hdr : dr + 1 ≤ d) (rec_goBehind : Int32 → Int32 → Int32 → zv_M → Option (zv_M)) (rec_goOn : Int32 → Int32 → Int32 → zv_M → Option (zv_M)) (hrec_goBehind : ∀ (p1 : Int32) (p2 : Int32) (p3 : Int32) (m : zv_M) (P : zv_M → Prop), zw (rec_goBehind p1 p2 p3 m) P → zv_Met l S D cA dr 0 0 yX3_goBehind cX3_goBehind 4 none [.ref (S.heap.size + 49), .int p1, .int p2, .int p3] SH0 m (zq_v SH0 P)) (hrec_goOn : ∀ (p1 : Int32) (p2 : Int32) (p3 : Int32) (m : zv_M) (P : zv_M → Prop), zw (rec_goOn p1 p2 p3 m) P → zv_Met l S D cA dr 0 0 yX3_goOn cX3_goOn 6 none [.ref (S.heap.size + 49), .int p1, .int p2, .int p3] SH0 m (zq_v SH0 P)) (p1 : Int32) (p2 : Int32) (p3 : Int32) (m : zv_M) (P : zv_M → Prop) (h : zw (fRo_goOn_b rec_goBehind rec_goOn p1 p2 p3 m) P) : zv_Met l S D cA d 0 0 yX3_goOn cX3_goOn 6 none [.ref (S.heap.size + 49), .int p1, .int p2, .int p3] SH0 m (zq_v SH0 P) := by
  refine zv_met false hG pf_X3_goOn (fun z => by cases z) (Nat.le_of_ble_eq_true rfl) [(0, .ref (S.heap.size + 49)), (1, .int p1), (2, .int p2), (3, .int p3)] rfl (fun p e s mi args below meth c X => ?_)
  rw [fRo_goOn_b] at h
  refine zr_iload_n X dX3_goOn_0 1 rfl ?_
  refine zr_if_lt (tgt := 30) X dX3_goOn_1 (by decide) (fun q => ?_) (fun q => ?_)
  · rw [if_pos q] at h
    exact zr_vret X dX3_goOn_30 ⟨Nat.le_refl _, Nat.le_refl _⟩ ⟨rfl, rfl, h⟩
  · rw [if_neg q] at h
    refine zr_iload_n X dX3_goOn_4 1 rfl ?_
    refine zr_aload_n X dX3_goOn_5 0 rfl ?_
    refine zr_getI X dX3_goOn_6 zd_X3_24 rfl zo_49 (by rw [zk_3 zo_49]; decide) ?_
    refine zr_icmp_ge (tgt := 30) X dX3_goOn_9 (by decide) (fun q => ?_) (fun q => ?_)
    · rw [if_neg q] at h
      exact zr_vret X dX3_goOn_30 ⟨Nat.le_refl _, Nat.le_refl _⟩ ⟨rfl, rfl, h⟩
    · rw [if_pos q] at h
      refine zr_iload_n X dX3_goOn_12 1 rfl ?_
      refine zr_aload_n X dX3_goOn_13 0 rfl ?_
      refine zr_getR X dX3_goOn_14 zd_X3_18 rfl zo_49 zl_49_2 ?_
      refine zr_alen (v := 5) X dX3_goOn_17 za_52 (by decide) rfl ?_
      refine zr_icmp_ge (tgt := 30) X dX3_goOn_18 (by decide) (fun q => ?_) (fun q => ?_)
      · rw [if_neg q] at h
        exact zr_vret X dX3_goOn_30 ⟨Nat.le_refl _, Nat.le_refl _⟩ ⟨rfl, rfl, h⟩
      · rw [if_pos q] at h
        refine zr_iload_n X dX3_goOn_21 1 rfl ?_
        refine zr_aload_n X dX3_goOn_22 0 rfl ?_
        refine zr_getR X dX3_goOn_23 zd_X3_15 rfl zo_49 zl_49_1 ?_
        refine zr_alen (v := 5) X dX3_goOn_26 za_51 (by decide) rfl ?_
        refine zr_icmp_lt (tgt := 31) X dX3_goOn_27 (by decide) (fun q => ?_) (fun q => ?_)
        · rw [if_pos q] at h
          refine zr_iload_n X dX3_goOn_31 3 rfl ?_
          have hJ45 : ∀ (v1 : Int32), zw (fRo_goOn_j45 p1 p2 p3 m rec_goBehind v1) P → zv_V S D cA p l e (zv_rm d 0 0) s mi args below meth c 6 (MQ below (zv_Q S D cA (zq_v SH0 P)) args s 0 0 (zv_fr S)) 0 0 45 [(0, .ref (S.heap.size + 49)), (1, .int p1), (2, .int p2), (3, .int p3)] [.int v1] SH0 m := by
            intro v1 h
            rw [fRo_goOn_j45] at h
            refine zr_istore (lo' := [(4, .int v1), (0, .ref (S.heap.size + 49)), (1, .int p1), (2, .int p2), (3, .int p3)]) X dX3_goOn_45 (by decide) rfl ?_
            refine zr_sub [1, 2, 3, 4, 0] rfl ?_
            refine zl_w2 (fun a3 m4 => zv_V S D cA p l e (zv_rm d 0 0) s mi args below meth c 6 (MQ below (zv_Q S D cA (zq_v SH0 P)) args s 0 0 (zv_fr S)) 0 0 47 [(0, .ref (S.heap.size + 49)), (1, .int p1), (2, .int p2), (3, .int p3), (4, .int a3)] [] SH0 m4) (fRo_goOn_l47 p1 p2 p3 rec_goBehind) _ (fun P2 hl2 hr2 a3 m4 h => ?_) zFU v1 m (zw_b1 h)
            rw [fRo_goOn_l47] at h
            refine zr_iload X dX3_goOn_47 4 rfl ?_
            refine zr_aload_n X dX3_goOn_49 0 rfl ?_
            refine zr_getI X dX3_goOn_50 zd_X3_24 rfl zo_49 (by rw [zk_3 zo_49]; decide) ?_
            refine zr_icmp_ge (tgt := 145) X dX3_goOn_53 (by decide) (fun q => ?_) (fun q => ?_)
            · rw [if_neg q] at h
              have h := hr2 _ h
              exact zr_vret X dX3_goOn_145 ⟨Nat.le_refl _, Nat.le_refl _⟩ ⟨rfl, rfl, h⟩
            · rw [if_pos q] at h
              refine zr_iload_n X dX3_goOn_56 1 rfl ?_
              refine zr_aload_n X dX3_goOn_57 0 rfl ?_
              refine zr_getI X dX3_goOn_58 zd_X3_24 rfl zo_49 (by rw [zk_3 zo_49]; decide) ?_
              refine zr_imul X dX3_goOn_61 ?_
              refine zr_iload X dX3_goOn_62 4 rfl ?_
              refine zr_iadd X dX3_goOn_64 ?_
              refine zr_istore (lo' := [(5, .int ((p1 * (m4.1 49 4)) + a3)), (0, .ref (S.heap.size + 49)), (1, .int p1), (2, .int p2), (3, .int p3), (4, .int a3)]) X dX3_goOn_65 (by decide) rfl ?_
              refine zr_aload_n X dX3_goOn_67 1 rfl ?_
              refine zr_getI X dX3_goOn_68 zd_X3_28 rfl zo_49 (by rw [zk_3 zo_49]; decide) ?_
              refine zr_iload_n X dX3_goOn_71 3 rfl ?_
              refine zr_iconst (v := (-1)) X dX3_goOn_72 (by decide) ?_
              refine zr_ixor X dX3_goOn_73 ?_
              refine zr_iand X dX3_goOn_74 ?_
              refine zr_iload X dX3_goOn_75 0 rfl ?_
              refine zr_callSN_i (As := [.int ((m4.1 49 5) &&& (p2 ^^^ (-1))), .int ((p1 * (m4.1 49 4)) + a3)]) (st := []) (d := d - 1) X dX3_goOn_77 wm_X3_44 ws_X10_isIn my_X10_isIn rfl (Nat.le_of_ble_eq_true rfl) (zRm (by omega)) ⟨Nat.le_refl _, Nat.le_refl _⟩ (x_fN_isIn hG (d - 1) (by omega) ((m4.1 49 5) &&& (p2 ^^^ (-1))) ((p1 * (m4.1 49 4)) + a3) m4 _ (zw_b1 h)) (fun r5 m6 q => ?_)
              obtain ⟨rfl, h⟩ := q
              have hJ139 : ∀ (m7 : zv_M), zw (fRo_goOn_j139 a3 m7) P2 → zv_V S D cA p l e (zv_rm d 0 0) s mi args below meth c 6 (MQ below (zv_Q S D cA (zq_v SH0 P)) args s 0 0 (zv_fr S)) 0 0 139 [(0, .ref (S.heap.size + 49)), (1, .int p1), (2, .int p2), (3, .int p3), (4, .int a3)] [] SH0 m7 := by
                intro m7 h
                rw [fRo_goOn_j139] at h
                refine zr_iinc (v := a3 + 1) (lo' := [(4, .int (a3 + 1)), (0, .ref (S.heap.size + 49)), (1, .int p1), (2, .int p2), (3, .int p3)]) X dX3_goOn_139 4 rfl rfl (by decide) rfl ?_
                refine zr_goto (tgt := 47) X dX3_goOn_142 (by decide) ?_
                have h := hl2 _ h
                exact zr_sub [1, 2, 3, 4, 0] rfl h
              refine zr_if_eq (tgt := 139) X dX3_goOn_80 (by decide) (fun q => ?_) (fun q => ?_)
              · rw [if_pos q] at h
                exact zr_sub [1, 2, 3, 4, 5] rfl (hJ139 m4 h)
              · rw [if_neg q] at h
                refine zr_aload_n X dX3_goOn_83 1 rfl ?_
                refine zr_getI X dX3_goOn_84 zd_X3_31 rfl zo_49 (by rw [zk_3 zo_49]; decide) ?_
                have hJ97 : zw (fRo_goOn_j97 p1 p2 p3 rec_goBehind a3 m4) P2 → zv_V S D cA p l e (zv_rm d 0 0) s mi args below meth c 6 (MQ below (zv_Q S D cA (zq_v SH0 P)) args s 0 0 (zv_fr S)) 0 0 97 [(0, .ref (S.heap.size + 49)), (1, .int p1), (2, .int p2), (3, .int p3), (4, .int a3), (5, .int ((p1 * (m4.1 49 4)) + a3))] [] SH0 m4 := by
                  intro h
                  rw [fRo_goOn_j97] at h
                  refine zr_aload_n X dX3_goOn_97 0 rfl ?_
                  refine zr_getR X dX3_goOn_98 zd_X3_18 rfl zo_49 zl_49_2 ?_
                  refine zr_iload_n X dX3_goOn_101 1 rfl ?_
                  refine zr_iload X dX3_goOn_102 4 rfl ?_
                  obtain ⟨g0, h⟩ := zg_e h
                  refine zr_iast X dX3_goOn_104 za_52 (zI_in g0) ?_
                  refine zr_aload_n X dX3_goOn_105 0 rfl ?_
                  refine zr_iload_n X dX3_goOn_106 1 rfl ?_
                  refine zr_iload_n X dX3_goOn_107 2 rfl ?_
                  refine zr_aload_n X dX3_goOn_108 0 rfl ?_
                  refine zr_getR X dX3_goOn_109 zd_X3_9 rfl zo_49 zl_49_0 ?_
                  refine zr_iload X dX3_goOn_112 5 rfl ?_
                  obtain ⟨g0, h⟩ := zg_e h
                  refine zr_iald X dX3_goOn_114 za_50 (zI_in g0) ?_
                  refine zr_ior X dX3_goOn_115 ?_
                  refine zr_iload_n X dX3_goOn_116 3 rfl ?_
                  have hJ135 : zw (fRo_goOn_j135 p1 p2 rec_goBehind a3 m4) P2 → zv_V S D cA p l e (zv_rm d 0 0) s mi args below meth c 6 (MQ below (zv_Q S D cA (zq_v SH0 P)) args s 0 0 (zv_fr S)) 0 0 135 [(0, .ref (S.heap.size + 49)), (1, .int p1), (2, .int p2), (3, .int p3), (4, .int a3)] [.int (p2 ||| ((wI m4 52 p1.toNatClampNeg a3).1 50 ((p1 * (m4.1 49 4)) + a3).toNatClampNeg)), .int p1, .ref (S.heap.size + 49)] SH0 (wI m4 52 p1.toNatClampNeg a3) := by
                    intro h
                    rw [fRo_goOn_j135] at h
                    refine zr_iconst (v := 0) X dX3_goOn_135 (by decide) ?_
                    refine zr_callV_v (As := [.int p1, .int (p2 ||| ((wI m4 52 p1.toNatClampNeg a3).1 50 ((p1 * (m4.1 49 4)) + a3).toNatClampNeg)), .int 0]) (st := []) (d := dr) X dX3_goOn_136 wm_X3_52 my_X3_goBehind mv_X3_goBehind zo_49 rfl (Nat.le_of_ble_eq_true rfl) (zRm (by omega)) ⟨Nat.le_refl _, Nat.le_refl _⟩ (hrec_goBehind p1 (p2 ||| ((wI m4 52 p1.toNatClampNeg a3).1 50 ((p1 * (m4.1 49 4)) + a3).toNatClampNeg)) 0 (wI m4 52 p1.toNatClampNeg a3) _ (zw_b1 h)) (fun m8 q => ?_)
                    replace h := q
                    exact zr_sub [0, 1, 2, 3, 4] rfl (hJ139 m8 h)
                  have hJ136 : ∀ (v9 : Int32), zw (fRo_goOn_j136 p1 p2 rec_goBehind a3 m4 v9) P2 → zv_V S D cA p l e (zv_rm d 0 0) s mi args below meth c 6 (MQ below (zv_Q S D cA (zq_v SH0 P)) args s 0 0 (zv_fr S)) 0 0 136 [(0, .ref (S.heap.size + 49)), (1, .int p1), (2, .int p2), (3, .int p3), (4, .int a3)] [.int v9, .int (p2 ||| ((wI m4 52 p1.toNatClampNeg a3).1 50 ((p1 * (m4.1 49 4)) + a3).toNatClampNeg)), .int p1, .ref (S.heap.size + 49)] SH0 (wI m4 52 p1.toNatClampNeg a3) := by
                    intro v9 h
                    rw [fRo_goOn_j136] at h
                    refine zr_callV_v (As := [.int p1, .int (p2 ||| ((wI m4 52 p1.toNatClampNeg a3).1 50 ((p1 * (m4.1 49 4)) + a3).toNatClampNeg)), .int v9]) (st := []) (d := dr) X dX3_goOn_136 wm_X3_52 my_X3_goBehind mv_X3_goBehind zo_49 rfl (Nat.le_of_ble_eq_true rfl) (zRm (by omega)) ⟨Nat.le_refl _, Nat.le_refl _⟩ (hrec_goBehind p1 (p2 ||| ((wI m4 52 p1.toNatClampNeg a3).1 50 ((p1 * (m4.1 49 4)) + a3).toNatClampNeg)) v9 (wI m4 52 p1.toNatClampNeg a3) _ (zw_b1 h)) (fun m10 q => ?_)
                    replace h := q
                    exact zr_sub [0, 1, 2, 3, 4] rfl (hJ139 m10 h)
                  refine zr_if_eq (tgt := 135) X dX3_goOn_117 (by decide) (fun q => ?_) (fun q => ?_)
                  · rw [if_pos q] at h
                    exact zr_sub [0, 1, 2, 3, 4] rfl (hJ135 h)
                  · rw [if_neg q] at h
                    refine zr_iload X dX3_goOn_120 4 rfl ?_
                    refine zr_aload_n X dX3_goOn_122 0 rfl ?_
                    refine zr_getR X dX3_goOn_123 zd_X3_15 rfl zo_49 zl_49_1 ?_
                    refine zr_iload_n X dX3_goOn_126 1 rfl ?_
                    obtain ⟨g0, h⟩ := zg_e h
                    refine zr_iald X dX3_goOn_127 za_51 (zI_in g0) ?_
                    refine zr_icmp_ne (tgt := 135) X dX3_goOn_128 (by decide) (fun q => ?_) (fun q => ?_)
                    · rw [if_neg q] at h
                      exact zr_sub [0, 1, 2, 3, 4] rfl (hJ135 h)
                    · rw [if_pos q] at h
                      refine zr_iconst (v := 1) X dX3_goOn_131 (by decide) ?_
                      refine zr_goto (tgt := 136) X dX3_goOn_132 (by decide) ?_
                      exact zr_sub [0, 1, 2, 3, 4] rfl (hJ136 1 h)
                refine zr_if_eq (tgt := 97) X dX3_goOn_87 (by decide) (fun q => ?_) (fun q => ?_)
                · rw [if_pos q] at h
                  exact zr_sub [1, 2, 3, 4, 5, 0] rfl (hJ97 h)
                · rw [if_neg q] at h
                  refine zr_aload_n X dX3_goOn_90 1 rfl ?_
                  refine zr_getI X dX3_goOn_91 zd_X3_35 rfl zo_49 (by rw [zk_3 zo_49]; decide) ?_
                  refine zr_if_gt (tgt := 139) X dX3_goOn_94 (by decide) (fun q => ?_) (fun q => ?_)
                  · rw [if_pos q] at h
                    exact zr_sub [1, 2, 3, 4, 5] rfl (hJ139 m4 h)
                  · rw [if_neg q] at h
                    exact zr_sub [1, 2, 3, 4, 5, 0] rfl (hJ97 h)
          refine zr_if_eq (tgt := 44) X dX3_goOn_32 (by decide) (fun q => ?_) (fun q => ?_)
          · rw [if_pos q] at h
            refine zr_iconst (v := 0) X dX3_goOn_44 (by decide) ?_
            exact zr_sub [0, 1, 2, 3] rfl (hJ45 0 h)
          · rw [if_neg q] at h
            refine zr_aload_n X dX3_goOn_35 0 rfl ?_
            refine zr_getR X dX3_goOn_36 zd_X3_15 rfl zo_49 zl_49_1 ?_
            refine zr_iload_n X dX3_goOn_39 1 rfl ?_
            obtain ⟨g0, h⟩ := zg_e h
            refine zr_iald X dX3_goOn_40 za_51 (zI_in g0) ?_
            refine zr_goto (tgt := 45) X dX3_goOn_41 (by decide) ?_
            exact zr_sub [0, 1, 2, 3] rfl (hJ45 (m.1 51 p1.toNatClampNeg) h)
        · rw [if_neg q] at h
          exact zr_vret X dX3_goOn_30 ⟨Nat.le_refl _, Nat.le_refl _⟩ ⟨rfl, rfl, h⟩

set_option maxRecDepth 100000 in
set_option maxHeartbeats 4000000 in
theorem x_fRo_goBehind_goOn_n {l : Launch} {S : State} {D : va_G} {cA : Nat → ClassId} {tb sx : Nat → Nat} (hG : zv_G S D cA tb sx) : ∀ (n d : Nat), 2 + n ≤ d → (∀ (p1 : Int32) (p2 : Int32) (p3 : Int32) (m : zv_M) (P : zv_M → Prop), zw (fRo_goBehind_goOn n true p1 p2 p3 m) P → zv_Met l S D cA d 0 0 yX3_goBehind cX3_goBehind 4 none [.ref (S.heap.size + 49), .int p1, .int p2, .int p3] SH0 m (zq_v SH0 P)) ∧ (∀ (p1 : Int32) (p2 : Int32) (p3 : Int32) (m : zv_M) (P : zv_M → Prop), zw (fRo_goBehind_goOn n false p1 p2 p3 m) P → zv_Met l S D cA d 0 0 yX3_goOn cX3_goOn 6 none [.ref (S.heap.size + 49), .int p1, .int p2, .int p3] SH0 m (zq_v SH0 P)) := by
  intro n
  induction n with
  | zero =>
    intro d hd
    refine ⟨?_, ?_⟩
    · intro p1 p2 p3 m P h
      rw [fRo_goBehind_goOn] at h
      exact h.elim
    · intro p1 p2 p3 m P h
      rw [fRo_goBehind_goOn] at h
      exact h.elim
  | succ n ih =>
    intro d hd
    have i := ih (d - 1) (by omega)
    refine ⟨?_, ?_⟩
    · intro p1 p2 p3 m P h
      rw [fRo_goBehind_goOn] at h
      exact xo_fRo_goBehind hG d (d - 1) (by omega) (by omega) (fRo_goBehind_goOn n true) (fRo_goBehind_goOn n false) i.1 i.2 p1 p2 p3 m P h
    · intro p1 p2 p3 m P h
      rw [fRo_goBehind_goOn] at h
      exact xo_fRo_goOn hG d (d - 1) (by omega) (by omega) (fRo_goBehind_goOn n true) (fRo_goBehind_goOn n false) i.1 i.2 p1 p2 p3 m P h
theorem x_fRo_goBehind {l : Launch} {S : State} {D : va_G} {cA : Nat → ClassId} {tb sx : Nat → Nat} (hG : zv_G S D cA tb sx) (d : Nat) (hd : 18 ≤ d) (p1 : Int32) (p2 : Int32) (p3 : Int32) (m : zv_M) (P : zv_M → Prop) (h : zw (fRo_goBehind 16 p1 p2 p3 m) P) : zv_Met l S D cA d 0 0 yX3_goBehind cX3_goBehind 4 none [.ref (S.heap.size + 49), .int p1, .int p2, .int p3] SH0 m (zq_v SH0 P) := (x_fRo_goBehind_goOn_n hG 16 d (by omega)).1 p1 p2 p3 m P h
theorem x_fRo_goOn {l : Launch} {S : State} {D : va_G} {cA : Nat → ClassId} {tb sx : Nat → Nat} (hG : zv_G S D cA tb sx) (d : Nat) (hd : 18 ≤ d) (p1 : Int32) (p2 : Int32) (p3 : Int32) (m : zv_M) (P : zv_M → Prop) (h : zw (fRo_goOn 16 p1 p2 p3 m) P) : zv_Met l S D cA d 0 0 yX3_goOn cX3_goOn 6 none [.ref (S.heap.size + 49), .int p1, .int p2, .int p3] SH0 m (zq_v SH0 P) := (x_fRo_goBehind_goOn_n hG 16 d (by omega)).2 p1 p2 p3 m P h

set_option maxRecDepth 100000 in
set_option maxHeartbeats 4000000 in
theorem x_fRo_countAll {l : Launch} {S : State} {D : va_G} {cA : Nat → ClassId} {tb sx : Nat → Nat} (hG : zv_G S D cA tb sx) (d : Nat) (hd : 19 ≤ d) (m : zv_M) (P : zv_M → Prop) (h : zw (fRo_countAll m) P) : zv_Met l S D cA d 0 0 yX3_countAll cX3_countAll 1 none [.ref (S.heap.size + 49)] SH0 m (zq_v SH0 P) := by
  refine zv_met false hG pf_X3_countAll (fun z => by cases z) (Nat.le_of_ble_eq_true rfl) [(0, .ref (S.heap.size + 49))] rfl (fun p e s mi args below meth c X => ?_)
  rw [fRo_countAll] at h
  refine zr_aload_n X dX3_countAll_0 0 rfl ?_
  refine zr_iconst (v := 0) X dX3_countAll_1 (by decide) ?_
  refine zr_put X dX3_countAll_2 zd_X3_31 rfl rfl rfl zo_49 (by rw [zk_3 zo_49]; decide) ?_
  refine zr_aload_n X dX3_countAll_5 0 rfl ?_
  refine zr_iconst (v := 0) X dX3_countAll_6 (by decide) ?_
  refine zr_iconst (v := 0) X dX3_countAll_7 (by decide) ?_
  refine zr_iconst (v := 0) X dX3_countAll_8 (by decide) ?_
  refine zr_callV_v (As := [.int 0, .int 0, .int 0]) (st := []) (d := d - 1) X dX3_countAll_9 wm_X3_48 my_X3_goOn mv_X3_goOn zo_49 rfl (Nat.le_of_ble_eq_true rfl) (zRm (by omega)) ⟨Nat.le_refl _, Nat.le_refl _⟩ (x_fRo_goOn hG (d - 1) (by omega) 0 0 0 (wI m 49 6 0) _ (zw_b1 h)) (fun m1 q => ?_)
  replace h := q
  exact zr_vret X dX3_countAll_12 ⟨Nat.le_refl _, Nat.le_refl _⟩ ⟨rfl, rfl, h⟩

set_option maxRecDepth 100000 in
set_option maxHeartbeats 4000000 in
theorem x_fRo_findNext {l : Launch} {S : State} {D : va_G} {cA : Nat → ClassId} {tb sx : Nat → Nat} (hG : zv_G S D cA tb sx) (d : Nat) (hd : 19 ≤ d) (m : zv_M) (P : zv_M → Prop) (h : zw (fRo_findNext m) P) : zv_Met l S D cA d 0 0 yX3_findNext cX3_findNext 1 none [.ref (S.heap.size + 49)] SH0 m (zq_v SH0 P) := by
  refine zv_met false hG pf_X3_findNext (fun z => by cases z) (Nat.le_of_ble_eq_true rfl) [(0, .ref (S.heap.size + 49))] rfl (fun p e s mi args below meth c X => ?_)
  rw [fRo_findNext] at h
  refine zr_aload_n X dX3_findNext_0 0 rfl ?_
  refine zr_iconst (v := 1) X dX3_findNext_1 (by decide) ?_
  refine zr_put X dX3_findNext_2 zd_X3_31 rfl rfl rfl zo_49 (by rw [zk_3 zo_49]; decide) ?_
  refine zr_aload_n X dX3_findNext_5 0 rfl ?_
  refine zr_iconst (v := 0) X dX3_findNext_6 (by decide) ?_
  refine zr_iconst (v := 0) X dX3_findNext_7 (by decide) ?_
  refine zr_iconst (v := 1) X dX3_findNext_8 (by decide) ?_
  refine zr_callV_v (As := [.int 0, .int 0, .int 1]) (st := []) (d := d - 1) X dX3_findNext_9 wm_X3_48 my_X3_goOn mv_X3_goOn zo_49 rfl (Nat.le_of_ble_eq_true rfl) (zRm (by omega)) ⟨Nat.le_refl _, Nat.le_refl _⟩ (x_fRo_goOn hG (d - 1) (by omega) 0 0 1 (wI m 49 6 1) _ (zw_b1 h)) (fun m1 q => ?_)
  replace h := q
  exact zr_vret X dX3_findNext_12 ⟨Nat.le_refl _, Nat.le_refl _⟩ ⟨rfl, rfl, h⟩

set_option maxRecDepth 100000 in
set_option maxHeartbeats 4000000 in
theorem x_fRo_firstAt {l : Launch} {S : State} {D : va_G} {cA : Nat → ClassId} {tb sx : Nat → Nat} (hG : zv_G S D cA tb sx) (d : Nat) (hd : 1 ≤ d) (p1 : Int32) (m : zv_M) (P : Int32 → Prop) (h : zw (fRo_firstAt p1 m) P) : zv_Met l S D cA d 0 0 yX3_firstAt cX3_firstAt 2 (some .int) [.ref (S.heap.size + 49), .int p1] SH0 m (zq_i SH0 (fun v m' => m = m' ∧ P v)) := by
  refine zv_met false hG pf_X3_firstAt (fun z => by cases z) (Nat.le_of_ble_eq_true rfl) [(0, .ref (S.heap.size + 49)), (1, .int p1)] rfl (fun p e s mi args below meth c X => ?_)
  rw [fRo_firstAt] at h
  refine zr_aload_n X dX3_firstAt_0 0 rfl ?_
  refine zr_getI X dX3_firstAt_1 zd_X3_35 rfl zo_49 (by rw [zk_3 zo_49]; decide) ?_
  refine zr_iconst (v := 1) X dX3_firstAt_4 (by decide) ?_
  refine zr_icmp_lt (tgt := 21) X dX3_firstAt_5 (by decide) (fun q => ?_) (fun q => ?_)
  · rw [if_pos q] at h
    refine zr_bipush (v := (-5)) X dX3_firstAt_21 (by decide) ?_
    refine zr_goto (tgt := 32) X dX3_firstAt_23 (by decide) ?_
    exact zr_iret X dX3_firstAt_32 rfl ⟨Nat.le_refl _, Nat.le_refl _⟩ ⟨rfl, _, rfl, rfl, h⟩
  · rw [if_neg q] at h
    refine zr_iload_n X dX3_firstAt_8 1 rfl ?_
    refine zr_if_lt (tgt := 21) X dX3_firstAt_9 (by decide) (fun q => ?_) (fun q => ?_)
    · rw [if_pos q] at h
      refine zr_bipush (v := (-5)) X dX3_firstAt_21 (by decide) ?_
      refine zr_goto (tgt := 32) X dX3_firstAt_23 (by decide) ?_
      exact zr_iret X dX3_firstAt_32 rfl ⟨Nat.le_refl _, Nat.le_refl _⟩ ⟨rfl, _, rfl, rfl, h⟩
    · rw [if_neg q] at h
      refine zr_iload_n X dX3_firstAt_12 1 rfl ?_
      refine zr_aload_n X dX3_firstAt_13 0 rfl ?_
      refine zr_getR X dX3_firstAt_14 zd_X3_21 rfl zo_49 zl_49_3 ?_
      refine zr_alen (v := 5) X dX3_firstAt_17 za_53 (by decide) rfl ?_
      refine zr_icmp_lt (tgt := 26) X dX3_firstAt_18 (by decide) (fun q => ?_) (fun q => ?_)
      · rw [if_pos q] at h
        refine zr_aload_n X dX3_firstAt_26 0 rfl ?_
        refine zr_getR X dX3_firstAt_27 zd_X3_21 rfl zo_49 zl_49_3 ?_
        refine zr_iload_n X dX3_firstAt_30 1 rfl ?_
        obtain ⟨g0, h⟩ := zg_e h
        refine zr_iald X dX3_firstAt_31 za_53 (zI_in g0) ?_
        exact zr_iret X dX3_firstAt_32 rfl ⟨Nat.le_refl _, Nat.le_refl _⟩ ⟨rfl, _, rfl, rfl, h⟩
      · rw [if_neg q] at h
        refine zr_bipush (v := (-5)) X dX3_firstAt_21 (by decide) ?_
        refine zr_goto (tgt := 32) X dX3_firstAt_23 (by decide) ?_
        exact zr_iret X dX3_firstAt_32 rfl ⟨Nat.le_refl _, Nat.le_refl _⟩ ⟨rfl, _, rfl, rfl, h⟩

set_option maxRecDepth 100000 in
set_option maxHeartbeats 4000000 in
theorem x_fSi_put {l : Launch} {S : State} {D : va_G} {cA : Nat → ClassId} {tb sx : Nat → Nat} (hG : zv_G S D cA tb sx) (d : Nat) (hd : 1 ≤ d) (o : Nat) (ho : zcl o 4) (p1 : Int32) (p2 : Int32) (m : zv_M) (P : zv_M → Prop) (h : zw (fSi_put o p1 p2 m) P) : zv_Met l S D cA d 0 0 yX4_put cX4_put 3 none [.ref (S.heap.size + o), .int p1, .int p2] SH0 m (zq_v SH0 P) := by
  refine zv_met false hG pf_X4_put (fun z => by cases z) (Nat.le_of_ble_eq_true rfl) [(0, .ref (S.heap.size + o)), (1, .int p1), (2, .int p2)] rfl (fun p e s mi args below meth c X => ?_)
  rw [fSi_put] at h
  refine zr_iload_n X dX4_put_0 1 rfl ?_
  refine zr_if_lt (tgt := 20) X dX4_put_1 (by decide) (fun q => ?_) (fun q => ?_)
  · rw [if_pos q] at h
    exact zr_vret X dX4_put_20 ⟨Nat.le_refl _, Nat.le_refl _⟩ ⟨rfl, rfl, h⟩
  · rw [if_neg q] at h
    refine zr_iload_n X dX4_put_4 1 rfl ?_
    refine zr_aload_n X dX4_put_5 0 rfl ?_
    refine zr_getR X dX4_put_6 zd_X4_9 rfl ho (zf_4_0 ho).1 ?_
    refine zr_alen (v := Int32.ofNat (zln (zrf o 0))) X dX4_put_9 (zf_4_0 ho).2 (by decide) rfl ?_
    refine zr_icmp_ge (tgt := 20) X dX4_put_10 (by decide) (fun q => ?_) (fun q => ?_)
    · rw [if_neg q] at h
      exact zr_vret X dX4_put_20 ⟨Nat.le_refl _, Nat.le_refl _⟩ ⟨rfl, rfl, h⟩
    · rw [if_pos q] at h
      refine zr_aload_n X dX4_put_13 0 rfl ?_
      refine zr_getR X dX4_put_14 zd_X4_9 rfl ho (zf_4_0 ho).1 ?_
      refine zr_iload_n X dX4_put_17 1 rfl ?_
      refine zr_iload_n X dX4_put_18 2 rfl ?_
      obtain ⟨g0, h⟩ := zg_e h
      refine zr_iast X dX4_put_19 (zf_4_0 ho).2 (zI_in g0) ?_
      exact zr_vret X dX4_put_20 ⟨Nat.le_refl _, Nat.le_refl _⟩ ⟨rfl, rfl, h⟩

set_option maxRecDepth 100000 in
set_option maxHeartbeats 4000000 in
theorem x_fSi_viewFrom {l : Launch} {S : State} {D : va_G} {cA : Nat → ClassId} {tb sx : Nat → Nat} (hG : zv_G S D cA tb sx) (d : Nat) (hd : 1 ≤ d) (o : Nat) (ho : zcl o 4) (p1 : Int32) (m : zv_M) (P : Int32 → Prop) (h : zw (fSi_viewFrom o p1 m) P) : zv_Met l S D cA d 0 0 yX4_viewFrom cX4_viewFrom 2 (some .int) [.ref (S.heap.size + o), .int p1] SH0 m (zq_i SH0 (fun v m' => m = m' ∧ P v)) := by
  refine zv_met false hG pf_X4_viewFrom (fun z => by cases z) (Nat.le_of_ble_eq_true rfl) [(0, .ref (S.heap.size + o)), (1, .int p1)] rfl (fun p e s mi args below meth c X => ?_)
  rw [fSi_viewFrom] at h
  refine zr_iload_n X dX4_viewFrom_0 1 rfl ?_
  refine zr_if_lt (tgt := 13) X dX4_viewFrom_1 (by decide) (fun q => ?_) (fun q => ?_)
  · rw [if_pos q] at h
    refine zr_iconst (v := 0) X dX4_viewFrom_13 (by decide) ?_
    refine zr_goto (tgt := 23) X dX4_viewFrom_14 (by decide) ?_
    exact zr_iret X dX4_viewFrom_23 rfl ⟨Nat.le_refl _, Nat.le_refl _⟩ ⟨rfl, _, rfl, rfl, h⟩
  · rw [if_neg q] at h
    refine zr_iload_n X dX4_viewFrom_4 1 rfl ?_
    refine zr_aload_n X dX4_viewFrom_5 0 rfl ?_
    refine zr_getR X dX4_viewFrom_6 zd_X4_9 rfl ho (zf_4_0 ho).1 ?_
    refine zr_alen (v := Int32.ofNat (zln (zrf o 0))) X dX4_viewFrom_9 (zf_4_0 ho).2 (by decide) rfl ?_
    refine zr_icmp_lt (tgt := 17) X dX4_viewFrom_10 (by decide) (fun q => ?_) (fun q => ?_)
    · rw [if_pos q] at h
      refine zr_aload_n X dX4_viewFrom_17 0 rfl ?_
      refine zr_getR X dX4_viewFrom_18 zd_X4_9 rfl ho (zf_4_0 ho).1 ?_
      refine zr_iload_n X dX4_viewFrom_21 1 rfl ?_
      obtain ⟨g0, h⟩ := zg_e h
      refine zr_iald X dX4_viewFrom_22 (zf_4_0 ho).2 (zI_in g0) ?_
      exact zr_iret X dX4_viewFrom_23 rfl ⟨Nat.le_refl _, Nat.le_refl _⟩ ⟨rfl, _, rfl, rfl, h⟩
    · rw [if_neg q] at h
      refine zr_iconst (v := 0) X dX4_viewFrom_13 (by decide) ?_
      refine zr_goto (tgt := 23) X dX4_viewFrom_14 (by decide) ?_
      exact zr_iret X dX4_viewFrom_23 rfl ⟨Nat.le_refl _, Nat.le_refl _⟩ ⟨rfl, _, rfl, rfl, h⟩

set_option maxRecDepth 100000 in
set_option maxHeartbeats 4000000 in
theorem x_fSi_seersOf {l : Launch} {S : State} {D : va_G} {cA : Nat → ClassId} {tb sx : Nat → Nat} (hG : zv_G S D cA tb sx) (d : Nat) (hd : 2 ≤ d) (o : Nat) (ho : zcl o 4) (p1 : Int32) (m : zv_M) (P : Int32 → Prop) (h : zw (fSi_seersOf o p1 m) P) : zv_Met l S D cA d 0 0 yX4_seersOf cX4_seersOf 4 (some .int) [.ref (S.heap.size + o), .int p1] SH0 m (zq_i SH0 (fun v m' => m = m' ∧ P v)) := by
  refine zv_met false hG pf_X4_seersOf (fun z => by cases z) (Nat.le_of_ble_eq_true rfl) [(0, .ref (S.heap.size + o)), (1, .int p1)] rfl (fun p e s mi args below meth c X => ?_)
  rw [fSi_seersOf] at h
  refine zr_iconst (v := 0) X dX4_seersOf_0 (by decide) ?_
  refine zr_istore_n (lo' := [(2, .int 0), (0, .ref (S.heap.size + o)), (1, .int p1)]) X dX4_seersOf_1 (by decide) rfl ?_
  refine zr_iconst (v := 0) X dX4_seersOf_2 (by decide) ?_
  refine zr_istore_n (lo' := [(3, .int 0), (2, .int 0), (0, .ref (S.heap.size + o)), (1, .int p1)]) X dX4_seersOf_3 (by decide) rfl ?_
  refine zr_sub [2, 3, 1, 0] rfl ?_
  refine zl_w2 (fun a2 a3 => zv_V S D cA p l e (zv_rm d 0 0) s mi args below meth c 4 (MQ below (zv_Q S D cA (zq_i SH0 (fun v m' => m = m' ∧ P v))) args s 0 0 (zv_fr S)) 0 0 4 [(0, .ref (S.heap.size + o)), (1, .int p1), (2, .int a2), (3, .int a3)] [] SH0 m) (fSi_seersOf_l4 o p1 m) _ (fun P1 hl1 hr1 a2 a3 h => ?_) zFU 0 0 (zw_b1 h)
  rw [fSi_seersOf_l4] at h
  refine zr_iload_n X dX4_seersOf_4 3 rfl ?_
  refine zr_aload_n X dX4_seersOf_5 0 rfl ?_
  refine zr_getR X dX4_seersOf_6 zd_X4_9 rfl ho (zf_4_0 ho).1 ?_
  refine zr_alen (v := Int32.ofNat (zln (zrf o 0))) X dX4_seersOf_9 (zf_4_0 ho).2 (by decide) rfl ?_
  refine zr_icmp_ge (tgt := 35) X dX4_seersOf_10 (by decide) (fun q => ?_) (fun q => ?_)
  · rw [if_neg q] at h
    refine zr_iload_n X dX4_seersOf_35 2 rfl ?_
    have h := hr1 _ h
    exact zr_iret X dX4_seersOf_36 rfl ⟨Nat.le_refl _, Nat.le_refl _⟩ ⟨rfl, _, rfl, rfl, h⟩
  · rw [if_pos q] at h
    refine zr_aload_n X dX4_seersOf_13 0 rfl ?_
    refine zr_getR X dX4_seersOf_14 zd_X4_9 rfl ho (zf_4_0 ho).1 ?_
    refine zr_iload_n X dX4_seersOf_17 3 rfl ?_
    obtain ⟨g0, h⟩ := zg_e h
    refine zr_iald X dX4_seersOf_18 (zf_4_0 ho).2 (zI_in g0) ?_
    refine zr_iload_n X dX4_seersOf_19 1 rfl ?_
    refine zr_callSN_i (As := [.int (m.1 (zrf o 0) a3.toNatClampNeg), .int p1]) (st := []) (d := d - 1) X dX4_seersOf_20 wm_X4_18 ws_X10_isIn my_X10_isIn rfl (Nat.le_of_ble_eq_true rfl) (zRm (by omega)) ⟨Nat.le_refl _, Nat.le_refl _⟩ (x_fN_isIn hG (d - 1) (by omega) (m.1 (zrf o 0) a3.toNatClampNeg) p1 m _ (zw_b1 h)) (fun r4 m5 q => ?_)
    obtain ⟨rfl, h⟩ := q
    have hJ29 : ∀ (a6 : Int32), zw (fSi_seersOf_j29 a3 a6) P1 → zv_V S D cA p l e (zv_rm d 0 0) s mi args below meth c 4 (MQ below (zv_Q S D cA (zq_i SH0 (fun v m' => m = m' ∧ P v))) args s 0 0 (zv_fr S)) 0 0 29 [(0, .ref (S.heap.size + o)), (1, .int p1), (2, .int a6), (3, .int a3)] [] SH0 m := by
      intro a6 h
      rw [fSi_seersOf_j29] at h
      refine zr_iinc (v := a3 + 1) (lo' := [(3, .int (a3 + 1)), (0, .ref (S.heap.size + o)), (1, .int p1), (2, .int a6)]) X dX4_seersOf_29 3 rfl rfl (by decide) rfl ?_
      refine zr_goto (tgt := 4) X dX4_seersOf_32 (by decide) ?_
      have h := hl1 _ h
      exact zr_sub [1, 2, 3, 0] rfl h
    refine zr_if_eq (tgt := 29) X dX4_seersOf_23 (by decide) (fun q => ?_) (fun q => ?_)
    · rw [if_pos q] at h
      exact zr_sub [0, 1, 2, 3] rfl (hJ29 a2 h)
    · rw [if_neg q] at h
      refine zr_iinc (v := a2 + 1) (lo' := [(2, .int (a2 + 1)), (0, .ref (S.heap.size + o)), (1, .int p1), (3, .int a3)]) X dX4_seersOf_26 2 rfl rfl (by decide) rfl ?_
      exact zr_sub [1, 2, 0, 3] rfl (hJ29 (a2 + 1) h)

set_option maxRecDepth 100000 in
set_option maxHeartbeats 4000000 in
theorem x_fSi_together {l : Launch} {S : State} {D : va_G} {cA : Nat → ClassId} {tb sx : Nat → Nat} (hG : zv_G S D cA tb sx) (d : Nat) (hd : 1 ≤ d) (o : Nat) (ho : zcl o 4) (m : zv_M) (P : Int32 → Prop) (h : zw (fSi_together o m) P) : zv_Met l S D cA d 0 0 yX4_together cX4_together 3 (some .int) [.ref (S.heap.size + o)] SH0 m (zq_i SH0 (fun v m' => m = m' ∧ P v)) := by
  refine zv_met false hG pf_X4_together (fun z => by cases z) (Nat.le_of_ble_eq_true rfl) [(0, .ref (S.heap.size + o))] rfl (fun p e s mi args below meth c X => ?_)
  rw [fSi_together] at h
  refine zr_iconst (v := 0) X dX4_together_0 (by decide) ?_
  refine zr_istore_n (lo' := [(1, .int 0), (0, .ref (S.heap.size + o))]) X dX4_together_1 (by decide) rfl ?_
  refine zr_iconst (v := 0) X dX4_together_2 (by decide) ?_
  refine zr_istore_n (lo' := [(2, .int 0), (1, .int 0), (0, .ref (S.heap.size + o))]) X dX4_together_3 (by decide) rfl ?_
  refine zr_sub [2, 1, 0] rfl ?_
  refine zl_w2 (fun a2 a3 => zv_V S D cA p l e (zv_rm d 0 0) s mi args below meth c 3 (MQ below (zv_Q S D cA (zq_i SH0 (fun v m' => m = m' ∧ P v))) args s 0 0 (zv_fr S)) 0 0 4 [(0, .ref (S.heap.size + o)), (1, .int a2), (2, .int a3)] [] SH0 m) (fSi_together_l4 o m) _ (fun P1 hl1 hr1 a2 a3 h => ?_) zFU 0 0 (zw_b1 h)
  rw [fSi_together_l4] at h
  refine zr_iload_n X dX4_together_4 2 rfl ?_
  refine zr_aload_n X dX4_together_5 0 rfl ?_
  refine zr_getR X dX4_together_6 zd_X4_9 rfl ho (zf_4_0 ho).1 ?_
  refine zr_alen (v := Int32.ofNat (zln (zrf o 0))) X dX4_together_9 (zf_4_0 ho).2 (by decide) rfl ?_
  refine zr_icmp_ge (tgt := 28) X dX4_together_10 (by decide) (fun q => ?_) (fun q => ?_)
  · rw [if_neg q] at h
    refine zr_iload_n X dX4_together_28 1 rfl ?_
    have h := hr1 _ h
    exact zr_iret X dX4_together_29 rfl ⟨Nat.le_refl _, Nat.le_refl _⟩ ⟨rfl, _, rfl, rfl, h⟩
  · rw [if_pos q] at h
    refine zr_iload_n X dX4_together_13 1 rfl ?_
    refine zr_aload_n X dX4_together_14 0 rfl ?_
    refine zr_getR X dX4_together_15 zd_X4_9 rfl ho (zf_4_0 ho).1 ?_
    refine zr_iload_n X dX4_together_18 2 rfl ?_
    obtain ⟨g0, h⟩ := zg_e h
    refine zr_iald X dX4_together_19 (zf_4_0 ho).2 (zI_in g0) ?_
    refine zr_ior X dX4_together_20 ?_
    refine zr_istore_n (lo' := [(1, .int (a2 ||| (m.1 (zrf o 0) a3.toNatClampNeg))), (0, .ref (S.heap.size + o)), (2, .int a3)]) X dX4_together_21 (by decide) rfl ?_
    refine zr_iinc (v := a3 + 1) (lo' := [(2, .int (a3 + 1)), (1, .int (a2 ||| (m.1 (zrf o 0) a3.toNatClampNeg))), (0, .ref (S.heap.size + o))]) X dX4_together_22 2 rfl rfl (by decide) rfl ?_
    refine zr_goto (tgt := 4) X dX4_together_25 (by decide) ?_
    have h := hl1 _ h
    exact zr_sub [2, 1, 0] rfl h

set_option maxRecDepth 100000 in
set_option maxHeartbeats 4000000 in
theorem x_fJ_bitCount {l : Launch} {S : State} {D : va_G} {cA : Nat → ClassId} {tb sx : Nat → Nat} (hG : zv_G S D cA tb sx) (d : Nat) (hd : 1 ≤ d) (p1 : Int32) (m : zv_M) (P : Int32 → Prop) (h : zw (fJ_bitCount p1) P) : zv_Met l S D cA d 0 0 yJ6_bitCount_0f7a4 cJ6_bitCount_0f7a4 1 (some .int) [.int p1] SH0 m (zq_i SH0 (fun v m' => m = m' ∧ P v)) := by
  refine zv_met false hG pf_J6_bitCount_0f7a4 (fun z => by cases z) (Nat.le_of_ble_eq_true rfl) [(0, .int p1)] rfl (fun p e s mi args below meth c X => ?_)
  rw [fJ_bitCount] at h
  refine zr_iload_n X dJ6_bitCount_0f7a4_0 0 rfl ?_
  refine zr_iload_n X dJ6_bitCount_0f7a4_1 0 rfl ?_
  refine zr_iconst (v := 1) X dJ6_bitCount_0f7a4_2 (by decide) ?_
  refine zr_iushr X dJ6_bitCount_0f7a4_3 ?_
  refine zr_ldcw X dJ6_bitCount_0f7a4_4 wc_J6_265 ?_
  refine zr_iand X dJ6_bitCount_0f7a4_7 ?_
  refine zr_isub X dJ6_bitCount_0f7a4_8 ?_
  refine zr_topi (fun a1 ea1 => ?_)
  rw [zlet, ← ea1] at h
  refine zr_istore_n (lo' := [(0, .int a1)]) X dJ6_bitCount_0f7a4_9 (by decide) rfl ?_
  refine zr_iload_n X dJ6_bitCount_0f7a4_10 0 rfl ?_
  refine zr_ldcw X dJ6_bitCount_0f7a4_11 wc_J6_266 ?_
  refine zr_iand X dJ6_bitCount_0f7a4_14 ?_
  refine zr_iload_n X dJ6_bitCount_0f7a4_15 0 rfl ?_
  refine zr_iconst (v := 2) X dJ6_bitCount_0f7a4_16 (by decide) ?_
  refine zr_iushr X dJ6_bitCount_0f7a4_17 ?_
  refine zr_ldcw X dJ6_bitCount_0f7a4_18 wc_J6_266 ?_
  refine zr_iand X dJ6_bitCount_0f7a4_21 ?_
  refine zr_iadd X dJ6_bitCount_0f7a4_22 ?_
  refine zr_topi (fun a2 ea2 => ?_)
  rw [zlet, ← ea2] at h
  refine zr_istore_n (lo' := [(0, .int a2)]) X dJ6_bitCount_0f7a4_23 (by decide) rfl ?_
  refine zr_iload_n X dJ6_bitCount_0f7a4_24 0 rfl ?_
  refine zr_iload_n X dJ6_bitCount_0f7a4_25 0 rfl ?_
  refine zr_iconst (v := 4) X dJ6_bitCount_0f7a4_26 (by decide) ?_
  refine zr_iushr X dJ6_bitCount_0f7a4_27 ?_
  refine zr_iadd X dJ6_bitCount_0f7a4_28 ?_
  refine zr_ldcw X dJ6_bitCount_0f7a4_29 wc_J6_267 ?_
  refine zr_iand X dJ6_bitCount_0f7a4_32 ?_
  refine zr_topi (fun a3 ea3 => ?_)
  rw [zlet, ← ea3] at h
  refine zr_istore_n (lo' := [(0, .int a3)]) X dJ6_bitCount_0f7a4_33 (by decide) rfl ?_
  refine zr_iload_n X dJ6_bitCount_0f7a4_34 0 rfl ?_
  refine zr_iload_n X dJ6_bitCount_0f7a4_35 0 rfl ?_
  refine zr_bipush (v := 8) X dJ6_bitCount_0f7a4_36 (by decide) ?_
  refine zr_iushr X dJ6_bitCount_0f7a4_38 ?_
  refine zr_iadd X dJ6_bitCount_0f7a4_39 ?_
  refine zr_topi (fun a4 ea4 => ?_)
  rw [zlet, ← ea4] at h
  refine zr_istore_n (lo' := [(0, .int a4)]) X dJ6_bitCount_0f7a4_40 (by decide) rfl ?_
  refine zr_iload_n X dJ6_bitCount_0f7a4_41 0 rfl ?_
  refine zr_iload_n X dJ6_bitCount_0f7a4_42 0 rfl ?_
  refine zr_bipush (v := 16) X dJ6_bitCount_0f7a4_43 (by decide) ?_
  refine zr_iushr X dJ6_bitCount_0f7a4_45 ?_
  refine zr_iadd X dJ6_bitCount_0f7a4_46 ?_
  refine zr_topi (fun a5 ea5 => ?_)
  rw [zlet, ← ea5] at h
  refine zr_istore_n (lo' := [(0, .int a5)]) X dJ6_bitCount_0f7a4_47 (by decide) rfl ?_
  refine zr_iload_n X dJ6_bitCount_0f7a4_48 0 rfl ?_
  refine zr_bipush (v := 63) X dJ6_bitCount_0f7a4_49 (by decide) ?_
  refine zr_iand X dJ6_bitCount_0f7a4_51 ?_
  exact zr_iret X dJ6_bitCount_0f7a4_52 rfl ⟨Nat.le_refl _, Nat.le_refl _⟩ ⟨rfl, _, rfl, rfl, h⟩

set_option maxRecDepth 100000 in
set_option maxHeartbeats 4000000 in
theorem x_fSi_allSeen {l : Launch} {S : State} {D : va_G} {cA : Nat → ClassId} {tb sx : Nat → Nat} (hG : zv_G S D cA tb sx) (d : Nat) (hd : 2 ≤ d) (o : Nat) (ho : zcl o 4) (m : zv_M) (P : Int32 → Prop) (h : zw (fSi_allSeen o m) P) : zv_Met l S D cA d 0 0 yX4_allSeen cX4_allSeen 3 (some .int) [.ref (S.heap.size + o)] SH0 m (zq_i SH0 (fun v m' => m = m' ∧ P v)) := by
  refine zv_met false hG pf_X4_allSeen (fun z => by cases z) (Nat.le_of_ble_eq_true rfl) [(0, .ref (S.heap.size + o))] rfl (fun p e s mi args below meth c X => ?_)
  rw [fSi_allSeen] at h
  refine zr_iconst (v := 0) X dX4_allSeen_0 (by decide) ?_
  refine zr_istore_n (lo' := [(1, .int 0), (0, .ref (S.heap.size + o))]) X dX4_allSeen_1 (by decide) rfl ?_
  refine zr_iconst (v := 0) X dX4_allSeen_2 (by decide) ?_
  refine zr_istore_n (lo' := [(2, .int 0), (1, .int 0), (0, .ref (S.heap.size + o))]) X dX4_allSeen_3 (by decide) rfl ?_
  refine zr_sub [2, 1, 0] rfl ?_
  refine zl_w2 (fun a2 a3 => zv_V S D cA p l e (zv_rm d 0 0) s mi args below meth c 3 (MQ below (zv_Q S D cA (zq_i SH0 (fun v m' => m = m' ∧ P v))) args s 0 0 (zv_fr S)) 0 0 4 [(0, .ref (S.heap.size + o)), (1, .int a2), (2, .int a3)] [] SH0 m) (fSi_allSeen_l4 o m) _ (fun P1 hl1 hr1 a2 a3 h => ?_) zFU 0 0 (zw_b1 h)
  rw [fSi_allSeen_l4] at h
  refine zr_iload_n X dX4_allSeen_4 2 rfl ?_
  refine zr_aload_n X dX4_allSeen_5 0 rfl ?_
  refine zr_getR X dX4_allSeen_6 zd_X4_9 rfl ho (zf_4_0 ho).1 ?_
  refine zr_alen (v := Int32.ofNat (zln (zrf o 0))) X dX4_allSeen_9 (zf_4_0 ho).2 (by decide) rfl ?_
  refine zr_icmp_ge (tgt := 31) X dX4_allSeen_10 (by decide) (fun q => ?_) (fun q => ?_)
  · rw [if_neg q] at h
    refine zr_iload_n X dX4_allSeen_31 1 rfl ?_
    have h := hr1 _ h
    exact zr_iret X dX4_allSeen_32 rfl ⟨Nat.le_refl _, Nat.le_refl _⟩ ⟨rfl, _, rfl, rfl, h⟩
  · rw [if_pos q] at h
    refine zr_iload_n X dX4_allSeen_13 1 rfl ?_
    refine zr_aload_n X dX4_allSeen_14 0 rfl ?_
    refine zr_getR X dX4_allSeen_15 zd_X4_9 rfl ho (zf_4_0 ho).1 ?_
    refine zr_iload_n X dX4_allSeen_18 2 rfl ?_
    obtain ⟨g0, h⟩ := zg_e h
    refine zr_iald X dX4_allSeen_19 (zf_4_0 ho).2 (zI_in g0) ?_
    refine zr_callS_i (As := [.int (m.1 (zrf o 0) a3.toNatClampNeg)]) (st := [.int a2]) (d := d - 1) X dX4_allSeen_20 wm_X4_22 ws_J6_bitCount_0f7a4 my_J6_bitCount_0f7a4 rfl (Nat.le_of_ble_eq_true rfl) (zRm (by omega)) ⟨Nat.le_refl _, Nat.le_refl _⟩ (x_fJ_bitCount hG (d - 1) (by omega) (m.1 (zrf o 0) a3.toNatClampNeg) m _ (zw_b1 h)) (fun r4 m5 q => ?_)
    obtain ⟨rfl, h⟩ := q
    refine zr_iadd X dX4_allSeen_23 ?_
    refine zr_istore_n (lo' := [(1, .int (a2 + r4)), (0, .ref (S.heap.size + o)), (2, .int a3)]) X dX4_allSeen_24 (by decide) rfl ?_
    refine zr_iinc (v := a3 + 1) (lo' := [(2, .int (a3 + 1)), (1, .int (a2 + r4)), (0, .ref (S.heap.size + o))]) X dX4_allSeen_25 2 rfl rfl (by decide) rfl ?_
    refine zr_goto (tgt := 4) X dX4_allSeen_28 (by decide) ?_
    have h := hl1 _ h
    exact zr_sub [2, 1, 0] rfl h

set_option maxRecDepth 100000 in
set_option maxHeartbeats 4000000 in
theorem x_fJ_max {l : Launch} {S : State} {D : va_G} {cA : Nat → ClassId} {tb sx : Nat → Nat} (hG : zv_G S D cA tb sx) (d : Nat) (hd : 1 ≤ d) (p1 : Int32) (p2 : Int32) (m : zv_M) (P : Int32 → Prop) (h : zw (fJ_max p1 p2) P) : zv_Met l S D cA d 0 0 yJ9_max_7cf53 cJ9_max_7cf53 2 (some .int) [.int p1, .int p2] SH0 m (zq_i SH0 (fun v m' => m = m' ∧ P v)) := by
  refine zv_met false hG pf_J9_max_7cf53 (fun z => by cases z) (Nat.le_of_ble_eq_true rfl) [(0, .int p1), (1, .int p2)] rfl (fun p e s mi args below meth c X => ?_)
  rw [fJ_max] at h
  refine zr_iload_n X dJ9_max_7cf53_0 0 rfl ?_
  refine zr_iload_n X dJ9_max_7cf53_1 1 rfl ?_
  refine zr_icmp_lt (tgt := 9) X dJ9_max_7cf53_2 (by decide) (fun q => ?_) (fun q => ?_)
  · rw [if_pos q] at h
    refine zr_iload_n X dJ9_max_7cf53_9 1 rfl ?_
    exact zr_iret X dJ9_max_7cf53_10 rfl ⟨Nat.le_refl _, Nat.le_refl _⟩ ⟨rfl, _, rfl, rfl, h⟩
  · rw [if_neg q] at h
    refine zr_iload_n X dJ9_max_7cf53_5 0 rfl ?_
    refine zr_goto (tgt := 10) X dJ9_max_7cf53_6 (by decide) ?_
    exact zr_iret X dJ9_max_7cf53_10 rfl ⟨Nat.le_refl _, Nat.le_refl _⟩ ⟨rfl, _, rfl, rfl, h⟩

set_option maxRecDepth 100000 in
set_option maxHeartbeats 4000000 in
theorem x_fSi_mostSeen {l : Launch} {S : State} {D : va_G} {cA : Nat → ClassId} {tb sx : Nat → Nat} (hG : zv_G S D cA tb sx) (d : Nat) (hd : 2 ≤ d) (o : Nat) (ho : zcl o 4) (m : zv_M) (P : Int32 → Prop) (h : zw (fSi_mostSeen o m) P) : zv_Met l S D cA d 0 0 yX4_mostSeen cX4_mostSeen 3 (some .int) [.ref (S.heap.size + o)] SH0 m (zq_i SH0 (fun v m' => m = m' ∧ P v)) := by
  refine zv_met false hG pf_X4_mostSeen (fun z => by cases z) (Nat.le_of_ble_eq_true rfl) [(0, .ref (S.heap.size + o))] rfl (fun p e s mi args below meth c X => ?_)
  rw [fSi_mostSeen] at h
  refine zr_iconst (v := 0) X dX4_mostSeen_0 (by decide) ?_
  refine zr_istore_n (lo' := [(1, .int 0), (0, .ref (S.heap.size + o))]) X dX4_mostSeen_1 (by decide) rfl ?_
  refine zr_iconst (v := 0) X dX4_mostSeen_2 (by decide) ?_
  refine zr_istore_n (lo' := [(2, .int 0), (1, .int 0), (0, .ref (S.heap.size + o))]) X dX4_mostSeen_3 (by decide) rfl ?_
  refine zr_sub [2, 1, 0] rfl ?_
  refine zl_w2 (fun a2 a3 => zv_V S D cA p l e (zv_rm d 0 0) s mi args below meth c 3 (MQ below (zv_Q S D cA (zq_i SH0 (fun v m' => m = m' ∧ P v))) args s 0 0 (zv_fr S)) 0 0 4 [(0, .ref (S.heap.size + o)), (1, .int a2), (2, .int a3)] [] SH0 m) (fSi_mostSeen_l4 o m) _ (fun P1 hl1 hr1 a2 a3 h => ?_) zFU 0 0 (zw_b1 h)
  rw [fSi_mostSeen_l4] at h
  refine zr_iload_n X dX4_mostSeen_4 2 rfl ?_
  refine zr_aload_n X dX4_mostSeen_5 0 rfl ?_
  refine zr_getR X dX4_mostSeen_6 zd_X4_9 rfl ho (zf_4_0 ho).1 ?_
  refine zr_alen (v := Int32.ofNat (zln (zrf o 0))) X dX4_mostSeen_9 (zf_4_0 ho).2 (by decide) rfl ?_
  refine zr_icmp_ge (tgt := 33) X dX4_mostSeen_10 (by decide) (fun q => ?_) (fun q => ?_)
  · rw [if_neg q] at h
    refine zr_iload_n X dX4_mostSeen_33 1 rfl ?_
    have h := hr1 _ h
    exact zr_iret X dX4_mostSeen_34 rfl ⟨Nat.le_refl _, Nat.le_refl _⟩ ⟨rfl, _, rfl, rfl, h⟩
  · rw [if_pos q] at h
    refine zr_iload_n X dX4_mostSeen_13 1 rfl ?_
    refine zr_aload_n X dX4_mostSeen_14 0 rfl ?_
    refine zr_getR X dX4_mostSeen_15 zd_X4_9 rfl ho (zf_4_0 ho).1 ?_
    refine zr_iload_n X dX4_mostSeen_18 2 rfl ?_
    obtain ⟨g0, h⟩ := zg_e h
    refine zr_iald X dX4_mostSeen_19 (zf_4_0 ho).2 (zI_in g0) ?_
    refine zr_callS_i (As := [.int (m.1 (zrf o 0) a3.toNatClampNeg)]) (st := [.int a2]) (d := d - 1) X dX4_mostSeen_20 wm_X4_22 ws_J6_bitCount_0f7a4 my_J6_bitCount_0f7a4 rfl (Nat.le_of_ble_eq_true rfl) (zRm (by omega)) ⟨Nat.le_refl _, Nat.le_refl _⟩ (x_fJ_bitCount hG (d - 1) (by omega) (m.1 (zrf o 0) a3.toNatClampNeg) m _ (zw_b1 h)) (fun r4 m5 q => ?_)
    obtain ⟨rfl, h⟩ := q
    refine zr_callS_i (As := [.int a2, .int r4]) (st := []) (d := d - 1) X dX4_mostSeen_23 wm_X4_28 ws_J9_max_7cf53 my_J9_max_7cf53 rfl (Nat.le_of_ble_eq_true rfl) (zRm (by omega)) ⟨Nat.le_refl _, Nat.le_refl _⟩ (x_fJ_max hG (d - 1) (by omega) a2 r4 m _ (zw_b1 h)) (fun r6 m7 q => ?_)
    obtain ⟨rfl, h⟩ := q
    refine zr_istore_n (lo' := [(1, .int r6), (0, .ref (S.heap.size + o)), (2, .int a3)]) X dX4_mostSeen_26 (by decide) rfl ?_
    refine zr_iinc (v := a3 + 1) (lo' := [(2, .int (a3 + 1)), (1, .int r6), (0, .ref (S.heap.size + o))]) X dX4_mostSeen_27 2 rfl rfl (by decide) rfl ?_
    refine zr_goto (tgt := 4) X dX4_mostSeen_30 (by decide) ?_
    have h := hl1 _ h
    exact zr_sub [2, 1, 0] rfl h

set_option maxRecDepth 100000 in
set_option maxHeartbeats 4000000 in
theorem x_fSi_addOwnSquares {l : Launch} {S : State} {D : va_G} {cA : Nat → ClassId} {tb sx : Nat → Nat} (hG : zv_G S D cA tb sx) (d : Nat) (hd : 1 ≤ d) (o : Nat) (ho : zcl o 4) (m : zv_M) (P : zv_M → Prop) (h : zw (fSi_addOwnSquares o m) P) : zv_Met l S D cA d 0 0 yX4_addOwnSquares cX4_addOwnSquares 2 none [.ref (S.heap.size + o)] SH0 m (zq_v SH0 P) := by
  refine zv_met false hG pf_X4_addOwnSquares (fun z => by cases z) (Nat.le_of_ble_eq_true rfl) [(0, .ref (S.heap.size + o))] rfl (fun p e s mi args below meth c X => ?_)
  rw [fSi_addOwnSquares] at h
  refine zr_iconst (v := 0) X dX4_addOwnSquares_0 (by decide) ?_
  refine zr_istore_n (lo' := [(1, .int 0), (0, .ref (S.heap.size + o))]) X dX4_addOwnSquares_1 (by decide) rfl ?_
  refine zr_sub [1, 0] rfl ?_
  refine zl_w2 (fun a2 m3 => zv_V S D cA p l e (zv_rm d 0 0) s mi args below meth c 2 (MQ below (zv_Q S D cA (zq_v SH0 P)) args s 0 0 (zv_fr S)) 0 0 2 [(0, .ref (S.heap.size + o)), (1, .int a2)] [] SH0 m3) (fSi_addOwnSquares_l2 o) _ (fun P1 hl1 hr1 a2 m3 h => ?_) zFU 0 m (zw_b1 h)
  rw [fSi_addOwnSquares_l2] at h
  refine zr_iload_n X dX4_addOwnSquares_2 1 rfl ?_
  refine zr_aload_n X dX4_addOwnSquares_3 0 rfl ?_
  refine zr_getR X dX4_addOwnSquares_4 zd_X4_9 rfl ho (zf_4_0 ho).1 ?_
  refine zr_alen (v := Int32.ofNat (zln (zrf o 0))) X dX4_addOwnSquares_7 (zf_4_0 ho).2 (by decide) rfl ?_
  refine zr_icmp_ge (tgt := 29) X dX4_addOwnSquares_8 (by decide) (fun q => ?_) (fun q => ?_)
  · rw [if_neg q] at h
    have h := hr1 _ h
    exact zr_vret X dX4_addOwnSquares_29 ⟨Nat.le_refl _, Nat.le_refl _⟩ ⟨rfl, rfl, h⟩
  · rw [if_pos q] at h
    refine zr_aload_n X dX4_addOwnSquares_11 0 rfl ?_
    refine zr_getR X dX4_addOwnSquares_12 zd_X4_9 rfl ho (zf_4_0 ho).1 ?_
    refine zr_iload_n X dX4_addOwnSquares_15 1 rfl ?_
    refine zr_dup2 X dX4_addOwnSquares_16 rfl rfl ?_
    obtain ⟨g0, h⟩ := zg_e h
    refine zr_iald X dX4_addOwnSquares_17 (zf_4_0 ho).2 (zI_in g0) ?_
    refine zr_iconst (v := 1) X dX4_addOwnSquares_18 (by decide) ?_
    refine zr_iload_n X dX4_addOwnSquares_19 1 rfl ?_
    refine zr_ishl X dX4_addOwnSquares_20 ?_
    refine zr_ior X dX4_addOwnSquares_21 ?_
    obtain ⟨g0, h⟩ := zg_e h
    refine zr_iast X dX4_addOwnSquares_22 (zf_4_0 ho).2 (zI_in g0) ?_
    refine zr_iinc (v := a2 + 1) (lo' := [(1, .int (a2 + 1)), (0, .ref (S.heap.size + o))]) X dX4_addOwnSquares_23 1 rfl rfl (by decide) rfl ?_
    refine zr_goto (tgt := 2) X dX4_addOwnSquares_26 (by decide) ?_
    have h := hl1 _ h
    exact zr_sub [1, 0] rfl h

set_option maxRecDepth 100000 in
set_option maxHeartbeats 4000000 in
theorem x_fSi_join {l : Launch} {S : State} {D : va_G} {cA : Nat → ClassId} {tb sx : Nat → Nat} (hG : zv_G S D cA tb sx) (d : Nat) (hd : 2 ≤ d) (o : Nat) (ho : zcl o 4) (p1 : Int32) (m : zv_M) (P : zv_M → Prop) (h : zw (fSi_join o p1 m) P) : zv_Met l S D cA d 0 0 yX4_join cX4_join 4 none [.ref (S.heap.size + o), .int p1] SH0 m (zq_v SH0 P) := by
  refine zv_met false hG pf_X4_join (fun z => by cases z) (Nat.le_of_ble_eq_true rfl) [(0, .ref (S.heap.size + o)), (1, .int p1)] rfl (fun p e s mi args below meth c X => ?_)
  rw [fSi_join] at h
  refine zr_iconst (v := 0) X dX4_join_0 (by decide) ?_
  refine zr_istore_n (lo' := [(2, .int 0), (0, .ref (S.heap.size + o)), (1, .int p1)]) X dX4_join_1 (by decide) rfl ?_
  refine zr_sub [1, 2, 0] rfl ?_
  have hR1 : ∀ (m4 : zv_M), zw (zb1 (whileN zFU (fSi_join_l44 o p1) (0, m4)) (fun r => some r) : Option (zv_M)) P → zv_V S D cA p l e (zv_rm d 0 0) s mi args below meth c 4 (MQ below (zv_Q S D cA (zq_v SH0 P)) args s 0 0 (zv_fr S)) 0 0 42 [(0, .ref (S.heap.size + o)), (1, .int p1)] [] SH0 m4 := by
    intro m4 h
    refine zr_iconst (v := 0) X dX4_join_42 (by decide) ?_
    refine zr_istore_n (lo' := [(2, .int 0), (0, .ref (S.heap.size + o)), (1, .int p1)]) X dX4_join_43 (by decide) rfl ?_
    refine zr_sub [1, 2, 0] rfl ?_
    refine zl_w2 (fun a6 m7 => zv_V S D cA p l e (zv_rm d 0 0) s mi args below meth c 4 (MQ below (zv_Q S D cA (zq_v SH0 P)) args s 0 0 (zv_fr S)) 0 0 44 [(0, .ref (S.heap.size + o)), (1, .int p1), (2, .int a6)] [] SH0 m7) (fSi_join_l44 o p1) _ (fun P5 hl5 hr5 a6 m7 h => ?_) zFU 0 m4 (zw_b1 h)
    rw [fSi_join_l44] at h
    refine zr_iload_n X dX4_join_44 2 rfl ?_
    refine zr_aload_n X dX4_join_45 0 rfl ?_
    refine zr_getR X dX4_join_46 zd_X4_9 rfl ho (zf_4_0 ho).1 ?_
    refine zr_alen (v := Int32.ofNat (zln (zrf o 0))) X dX4_join_49 (zf_4_0 ho).2 (by decide) rfl ?_
    refine zr_icmp_ge (tgt := 117) X dX4_join_50 (by decide) (fun q => ?_) (fun q => ?_)
    · rw [if_neg q] at h
      have h := hr5 _ h
      exact zr_vret X dX4_join_117 ⟨Nat.le_refl _, Nat.le_refl _⟩ ⟨rfl, rfl, h⟩
    · rw [if_pos q] at h
      refine zr_iconst (v := 0) X dX4_join_53 (by decide) ?_
      refine zr_istore_n (lo' := [(3, .int 0), (0, .ref (S.heap.size + o)), (1, .int p1), (2, .int a6)]) X dX4_join_54 (by decide) rfl ?_
      refine zr_sub [1, 2, 3, 0] rfl ?_
      have hR8 : ∀ (m11 : zv_M), zw (some (.inl (a6 + 1, m11)) : Option ((Int32 × zv_M) ⊕ (zv_M))) P5 → zv_V S D cA p l e (zv_rm d 0 0) s mi args below meth c 4 (MQ below (zv_Q S D cA (zq_v SH0 P)) args s 0 0 (zv_fr S)) 0 0 111 [(0, .ref (S.heap.size + o)), (1, .int p1), (2, .int a6)] [] SH0 m11 := by
        intro m11 h
        refine zr_iinc (v := a6 + 1) (lo' := [(2, .int (a6 + 1)), (0, .ref (S.heap.size + o)), (1, .int p1)]) X dX4_join_111 2 rfl rfl (by decide) rfl ?_
        refine zr_goto (tgt := 44) X dX4_join_114 (by decide) ?_
        have h := hl5 _ h
        exact zr_sub [1, 2, 0] rfl h
      refine zl_w2 (fun a9 m10 => zv_V S D cA p l e (zv_rm d 0 0) s mi args below meth c 4 (MQ below (zv_Q S D cA (zq_v SH0 P)) args s 0 0 (zv_fr S)) 0 0 55 [(0, .ref (S.heap.size + o)), (1, .int p1), (2, .int a6), (3, .int a9)] [] SH0 m10) (fSi_join_l55 o p1 a6) _ (fun P8 hl8 hr8 a9 m10 h => ?_) zFU 0 m7 (zw_b1 h)
      rw [fSi_join_l55] at h
      refine zr_iload_n X dX4_join_55 3 rfl ?_
      refine zr_aload_n X dX4_join_56 0 rfl ?_
      refine zr_getR X dX4_join_57 zd_X4_15 rfl ho (zf_4_1 ho).1 ?_
      refine zr_alen (v := Int32.ofNat (zln (zrf o 1))) X dX4_join_60 (zf_4_1 ho).2 (by decide) rfl ?_
      refine zr_icmp_ge (tgt := 111) X dX4_join_61 (by decide) (fun q => ?_) (fun q => ?_)
      · rw [if_neg q] at h
        have h := hr8 _ h
        exact zr_sub [0, 1, 2] rfl (hR8 m10 h)
      · rw [if_pos q] at h
        refine zr_iload_n X dX4_join_64 1 rfl ?_
        refine zr_iload_n X dX4_join_65 2 rfl ?_
        refine zr_callSN_i (As := [.int p1, .int a6]) (st := []) (d := d - 1) X dX4_join_66 wm_X4_18 ws_X10_isIn my_X10_isIn rfl (Nat.le_of_ble_eq_true rfl) (zRm (by omega)) ⟨Nat.le_refl _, Nat.le_refl _⟩ (x_fN_isIn hG (d - 1) (by omega) p1 a6 m10 _ (zw_b1 h)) (fun r12 m13 q => ?_)
        obtain ⟨rfl, h⟩ := q
        have hJ105 : ∀ (m14 : zv_M), zw (fSi_join_j105 a9 m14) P8 → zv_V S D cA p l e (zv_rm d 0 0) s mi args below meth c 4 (MQ below (zv_Q S D cA (zq_v SH0 P)) args s 0 0 (zv_fr S)) 0 0 105 [(0, .ref (S.heap.size + o)), (1, .int p1), (2, .int a6), (3, .int a9)] [] SH0 m14 := by
          intro m14 h
          rw [fSi_join_j105] at h
          refine zr_iinc (v := a9 + 1) (lo' := [(3, .int (a9 + 1)), (0, .ref (S.heap.size + o)), (1, .int p1), (2, .int a6)]) X dX4_join_105 3 rfl rfl (by decide) rfl ?_
          refine zr_goto (tgt := 55) X dX4_join_108 (by decide) ?_
          have h := hl8 _ h
          exact zr_sub [1, 2, 3, 0] rfl h
        refine zr_if_eq (tgt := 105) X dX4_join_69 (by decide) (fun q => ?_) (fun q => ?_)
        · rw [if_pos q] at h
          exact zr_sub [0, 1, 2, 3] rfl (hJ105 m10 h)
        · rw [if_neg q] at h
          refine zr_iload_n X dX4_join_72 1 rfl ?_
          refine zr_iload_n X dX4_join_73 3 rfl ?_
          refine zr_callSN_i (As := [.int p1, .int a9]) (st := []) (d := d - 1) X dX4_join_74 wm_X4_18 ws_X10_isIn my_X10_isIn rfl (Nat.le_of_ble_eq_true rfl) (zRm (by omega)) ⟨Nat.le_refl _, Nat.le_refl _⟩ (x_fN_isIn hG (d - 1) (by omega) p1 a9 m10 _ (zw_b1 h)) (fun r15 m16 q => ?_)
          obtain ⟨rfl, h⟩ := q
          refine zr_if_eq (tgt := 105) X dX4_join_77 (by decide) (fun q => ?_) (fun q => ?_)
          · rw [if_pos q] at h
            exact zr_sub [0, 1, 2, 3] rfl (hJ105 m10 h)
          · rw [if_neg q] at h
            refine zr_aload_n X dX4_join_80 0 rfl ?_
            refine zr_getR X dX4_join_81 zd_X4_9 rfl ho (zf_4_0 ho).1 ?_
            refine zr_iload_n X dX4_join_84 2 rfl ?_
            obtain ⟨g0, h⟩ := zg_e h
            refine zr_iald X dX4_join_85 (zf_4_0 ho).2 (zI_in g0) ?_
            refine zr_iload_n X dX4_join_86 3 rfl ?_
            refine zr_callSN_i (As := [.int (m10.1 (zrf o 0) a6.toNatClampNeg), .int a9]) (st := []) (d := d - 1) X dX4_join_87 wm_X4_18 ws_X10_isIn my_X10_isIn rfl (Nat.le_of_ble_eq_true rfl) (zRm (by omega)) ⟨Nat.le_refl _, Nat.le_refl _⟩ (x_fN_isIn hG (d - 1) (by omega) (m10.1 (zrf o 0) a6.toNatClampNeg) a9 m10 _ (zw_b1 h)) (fun r17 m18 q => ?_)
            obtain ⟨rfl, h⟩ := q
            refine zr_if_eq (tgt := 105) X dX4_join_90 (by decide) (fun q => ?_) (fun q => ?_)
            · rw [if_pos q] at h
              exact zr_sub [0, 1, 2, 3] rfl (hJ105 m10 h)
            · rw [if_neg q] at h
              refine zr_aload_n X dX4_join_93 0 rfl ?_
              refine zr_getR X dX4_join_94 zd_X4_15 rfl ho (zf_4_1 ho).1 ?_
              refine zr_iload_n X dX4_join_97 3 rfl ?_
              refine zr_dup2 X dX4_join_98 rfl rfl ?_
              obtain ⟨g0, h⟩ := zg_e h
              refine zr_iald X dX4_join_99 (zf_4_1 ho).2 (zI_in g0) ?_
              refine zr_iconst (v := 1) X dX4_join_100 (by decide) ?_
              refine zr_iload_n X dX4_join_101 2 rfl ?_
              refine zr_ishl X dX4_join_102 ?_
              refine zr_ior X dX4_join_103 ?_
              obtain ⟨g0, h⟩ := zg_e h
              refine zr_iast X dX4_join_104 (zf_4_1 ho).2 (zI_in g0) ?_
              exact zr_sub [0, 1, 2, 3] rfl (hJ105 (wI m10 (zrf o 1) a9.toNatClampNeg ((m10.1 (zrf o 1) a9.toNatClampNeg) ||| (1 <<< (a6 &&& 31)))) h)
  refine zl_w2 (fun a2 m3 => zv_V S D cA p l e (zv_rm d 0 0) s mi args below meth c 4 (MQ below (zv_Q S D cA (zq_v SH0 P)) args s 0 0 (zv_fr S)) 0 0 2 [(0, .ref (S.heap.size + o)), (1, .int p1), (2, .int a2)] [] SH0 m3) (fSi_join_l2 o p1) _ (fun P1 hl1 hr1 a2 m3 h => ?_) zFU 0 m (zw_b1 h)
  rw [fSi_join_l2] at h
  refine zr_iload_n X dX4_join_2 2 rfl ?_
  refine zr_aload_n X dX4_join_3 0 rfl ?_
  refine zr_getR X dX4_join_4 zd_X4_15 rfl ho (zf_4_1 ho).1 ?_
  refine zr_alen (v := Int32.ofNat (zln (zrf o 1))) X dX4_join_7 (zf_4_1 ho).2 (by decide) rfl ?_
  refine zr_icmp_ge (tgt := 42) X dX4_join_8 (by decide) (fun q => ?_) (fun q => ?_)
  · rw [if_neg q] at h
    have h := hr1 _ h
    exact zr_sub [0, 1] rfl (hR1 m3 h)
  · rw [if_pos q] at h
    refine zr_aload_n X dX4_join_11 0 rfl ?_
    refine zr_getR X dX4_join_12 zd_X4_15 rfl ho (zf_4_1 ho).1 ?_
    refine zr_iload_n X dX4_join_15 2 rfl ?_
    refine zr_iload_n X dX4_join_16 1 rfl ?_
    refine zr_iload_n X dX4_join_17 2 rfl ?_
    refine zr_callSN_i (As := [.int p1, .int a2]) (st := [.int a2, .ref (S.heap.size + (zrf o 1))]) (d := d - 1) X dX4_join_18 wm_X4_18 ws_X10_isIn my_X10_isIn rfl (Nat.le_of_ble_eq_true rfl) (zRm (by omega)) ⟨Nat.le_refl _, Nat.le_refl _⟩ (x_fN_isIn hG (d - 1) (by omega) p1 a2 m3 _ (zw_b1 h)) (fun r19 m20 q => ?_)
    obtain ⟨rfl, h⟩ := q
    have hJ35 : ∀ (v21 : Int32), zw (fSi_join_j35 o a2 m3 v21) P1 → zv_V S D cA p l e (zv_rm d 0 0) s mi args below meth c 4 (MQ below (zv_Q S D cA (zq_v SH0 P)) args s 0 0 (zv_fr S)) 0 0 35 [(0, .ref (S.heap.size + o)), (1, .int p1), (2, .int a2)] [.int v21, .int a2, .ref (S.heap.size + (zrf o 1))] SH0 m3 := by
      intro v21 h
      rw [fSi_join_j35] at h
      obtain ⟨g0, h⟩ := zg_e h
      refine zr_iast X dX4_join_35 (zf_4_1 ho).2 (zI_in g0) ?_
      refine zr_iinc (v := a2 + 1) (lo' := [(2, .int (a2 + 1)), (0, .ref (S.heap.size + o)), (1, .int p1)]) X dX4_join_36 2 rfl rfl (by decide) rfl ?_
      refine zr_goto (tgt := 2) X dX4_join_39 (by decide) ?_
      have h := hl1 _ h
      exact zr_sub [1, 2, 0] rfl h
    refine zr_if_eq (tgt := 34) X dX4_join_21 (by decide) (fun q => ?_) (fun q => ?_)
    · rw [if_pos q] at h
      refine zr_iconst (v := 0) X dX4_join_34 (by decide) ?_
      exact zr_sub [0, 1, 2] rfl (hJ35 0 h)
    · rw [if_neg q] at h
      refine zr_aload_n X dX4_join_24 0 rfl ?_
      refine zr_iload_n X dX4_join_25 2 rfl ?_
      refine zr_callV_i (As := [.int a2]) (st := [.int a2, .ref (S.heap.size + (zrf o 1))]) (d := d - 1) X dX4_join_26 wm_X4_34 my_X4_viewFrom mv_X4_viewFrom ho rfl (Nat.le_of_ble_eq_true rfl) (zRm (by omega)) ⟨Nat.le_refl _, Nat.le_refl _⟩ (x_fSi_viewFrom hG (d - 1) (by omega) o ho a2 m3 _ (zw_b1 h)) (fun r22 m23 q => ?_)
      obtain ⟨rfl, h⟩ := q
      refine zr_iload_n X dX4_join_29 1 rfl ?_
      refine zr_iand X dX4_join_30 ?_
      refine zr_goto (tgt := 35) X dX4_join_31 (by decide) ?_
      exact zr_sub [0, 1, 2] rfl (hJ35 (r22 &&& p1) h)

set_option maxRecDepth 100000 in
set_option maxHeartbeats 4000000 in
theorem x_fSi_mostJoined {l : Launch} {S : State} {D : va_G} {cA : Nat → ClassId} {tb sx : Nat → Nat} (hG : zv_G S D cA tb sx) (d : Nat) (hd : 2 ≤ d) (o : Nat) (ho : zcl o 4) (m : zv_M) (P : Int32 → Prop) (h : zw (fSi_mostJoined o m) P) : zv_Met l S D cA d 0 0 yX4_mostJoined cX4_mostJoined 4 (some .int) [.ref (S.heap.size + o)] SH0 m (zq_i SH0 (fun v m' => m = m' ∧ P v)) := by
  refine zv_met false hG pf_X4_mostJoined (fun z => by cases z) (Nat.le_of_ble_eq_true rfl) [(0, .ref (S.heap.size + o))] rfl (fun p e s mi args below meth c X => ?_)
  rw [fSi_mostJoined] at h
  refine zr_bipush (v := (-5)) X dX4_mostJoined_0 (by decide) ?_
  refine zr_istore_n (lo' := [(1, .int (-5)), (0, .ref (S.heap.size + o))]) X dX4_mostJoined_2 (by decide) rfl ?_
  refine zr_iconst (v := 0) X dX4_mostJoined_3 (by decide) ?_
  refine zr_istore_n (lo' := [(2, .int 0), (1, .int (-5)), (0, .ref (S.heap.size + o))]) X dX4_mostJoined_4 (by decide) rfl ?_
  refine zr_iconst (v := 0) X dX4_mostJoined_5 (by decide) ?_
  refine zr_istore_n (lo' := [(3, .int 0), (2, .int 0), (1, .int (-5)), (0, .ref (S.heap.size + o))]) X dX4_mostJoined_6 (by decide) rfl ?_
  refine zr_sub [3, 2, 1, 0] rfl ?_
  refine zl_w3 (fun a2 a3 a4 => zv_V S D cA p l e (zv_rm d 0 0) s mi args below meth c 4 (MQ below (zv_Q S D cA (zq_i SH0 (fun v m' => m = m' ∧ P v))) args s 0 0 (zv_fr S)) 0 0 7 [(0, .ref (S.heap.size + o)), (1, .int a2), (2, .int a3), (3, .int a4)] [] SH0 m) (fSi_mostJoined_l7 o m) _ (fun P1 hl1 hr1 a2 a3 a4 h => ?_) zFU (-5) 0 0 (zw_b1 h)
  rw [fSi_mostJoined_l7] at h
  refine zr_iload_n X dX4_mostJoined_7 3 rfl ?_
  refine zr_aload_n X dX4_mostJoined_8 0 rfl ?_
  refine zr_getR X dX4_mostJoined_9 zd_X4_15 rfl ho (zf_4_1 ho).1 ?_
  refine zr_alen (v := Int32.ofNat (zln (zrf o 1))) X dX4_mostJoined_12 (zf_4_1 ho).2 (by decide) rfl ?_
  refine zr_icmp_ge (tgt := 47) X dX4_mostJoined_13 (by decide) (fun q => ?_) (fun q => ?_)
  · rw [if_neg q] at h
    refine zr_iload_n X dX4_mostJoined_47 1 rfl ?_
    have h := hr1 _ h
    exact zr_iret X dX4_mostJoined_48 rfl ⟨Nat.le_refl _, Nat.le_refl _⟩ ⟨rfl, _, rfl, rfl, h⟩
  · rw [if_pos q] at h
    refine zr_aload_n X dX4_mostJoined_16 0 rfl ?_
    refine zr_getR X dX4_mostJoined_17 zd_X4_15 rfl ho (zf_4_1 ho).1 ?_
    refine zr_iload_n X dX4_mostJoined_20 3 rfl ?_
    obtain ⟨g0, h⟩ := zg_e h
    refine zr_iald X dX4_mostJoined_21 (zf_4_1 ho).2 (zI_in g0) ?_
    refine zr_callS_i (As := [.int (m.1 (zrf o 1) a4.toNatClampNeg)]) (st := []) (d := d - 1) X dX4_mostJoined_22 wm_X4_22 ws_J6_bitCount_0f7a4 my_J6_bitCount_0f7a4 rfl (Nat.le_of_ble_eq_true rfl) (zRm (by omega)) ⟨Nat.le_refl _, Nat.le_refl _⟩ (x_fJ_bitCount hG (d - 1) (by omega) (m.1 (zrf o 1) a4.toNatClampNeg) m _ (zw_b1 h)) (fun r5 m6 q => ?_)
    obtain ⟨rfl, h⟩ := q
    refine zr_iload_n X dX4_mostJoined_25 2 rfl ?_
    have hJ41 : ∀ (a7 : Int32) (a8 : Int32), zw (fSi_mostJoined_j41 a4 a7 a8) P1 → zv_V S D cA p l e (zv_rm d 0 0) s mi args below meth c 4 (MQ below (zv_Q S D cA (zq_i SH0 (fun v m' => m = m' ∧ P v))) args s 0 0 (zv_fr S)) 0 0 41 [(0, .ref (S.heap.size + o)), (1, .int a7), (2, .int a8), (3, .int a4)] [] SH0 m := by
      intro a7 a8 h
      rw [fSi_mostJoined_j41] at h
      refine zr_iinc (v := a4 + 1) (lo' := [(3, .int (a4 + 1)), (0, .ref (S.heap.size + o)), (1, .int a7), (2, .int a8)]) X dX4_mostJoined_41 3 rfl rfl (by decide) rfl ?_
      refine zr_goto (tgt := 7) X dX4_mostJoined_44 (by decide) ?_
      have h := hl1 _ h
      exact zr_sub [1, 2, 3, 0] rfl h
    refine zr_icmp_le (tgt := 41) X dX4_mostJoined_26 (by decide) (fun q => ?_) (fun q => ?_)
    · rw [if_neg q] at h
      exact zr_sub [0, 1, 2, 3] rfl (hJ41 a2 a3 h)
    · rw [if_pos q] at h
      refine zr_aload_n X dX4_mostJoined_29 0 rfl ?_
      refine zr_getR X dX4_mostJoined_30 zd_X4_15 rfl ho (zf_4_1 ho).1 ?_
      refine zr_iload_n X dX4_mostJoined_33 3 rfl ?_
      obtain ⟨g0, h⟩ := zg_e h
      refine zr_iald X dX4_mostJoined_34 (zf_4_1 ho).2 (zI_in g0) ?_
      refine zr_callS_i (As := [.int (m.1 (zrf o 1) a4.toNatClampNeg)]) (st := []) (d := d - 1) X dX4_mostJoined_35 wm_X4_22 ws_J6_bitCount_0f7a4 my_J6_bitCount_0f7a4 rfl (Nat.le_of_ble_eq_true rfl) (zRm (by omega)) ⟨Nat.le_refl _, Nat.le_refl _⟩ (x_fJ_bitCount hG (d - 1) (by omega) (m.1 (zrf o 1) a4.toNatClampNeg) m _ (zw_b1 h)) (fun r9 m10 q => ?_)
      obtain ⟨rfl, h⟩ := q
      refine zr_istore_n (lo' := [(2, .int r9), (0, .ref (S.heap.size + o)), (1, .int a2), (3, .int a4)]) X dX4_mostJoined_38 (by decide) rfl ?_
      refine zr_iload_n X dX4_mostJoined_39 3 rfl ?_
      refine zr_istore_n (lo' := [(1, .int a4), (2, .int r9), (0, .ref (S.heap.size + o)), (3, .int a4)]) X dX4_mostJoined_40 (by decide) rfl ?_
      exact zr_sub [2, 0, 1, 3] rfl (hJ41 a4 r9 h)

set_option maxRecDepth 100000 in
set_option maxHeartbeats 4000000 in
theorem x_fSt_manOn {l : Launch} {S : State} {D : va_G} {cA : Nat → ClassId} {tb sx : Nat → Nat} (hG : zv_G S D cA tb sx) (d : Nat) (hd : 1 ≤ d) (o : Nat) (ho : zcl o 5) (p1 : Int32) (m : zv_M) (P : Int32 → Prop) (h : zw (fSt_manOn o p1 m) P) : zv_Met l S D cA d 0 0 yX5_manOn cX5_manOn 2 (some .int) [.ref (S.heap.size + o), .int p1] SH0 m (zq_i SH0 (fun v m' => m = m' ∧ P v)) := by
  refine zv_met false hG pf_X5_manOn (fun z => by cases z) (Nat.le_of_ble_eq_true rfl) [(0, .ref (S.heap.size + o)), (1, .int p1)] rfl (fun p e s mi args below meth c X => ?_)
  rw [fSt_manOn] at h
  refine zr_iload_n X dX5_manOn_0 1 rfl ?_
  refine zr_if_lt (tgt := 13) X dX5_manOn_1 (by decide) (fun q => ?_) (fun q => ?_)
  · rw [if_pos q] at h
    refine zr_iconst (v := (-1)) X dX5_manOn_13 (by decide) ?_
    refine zr_goto (tgt := 23) X dX5_manOn_14 (by decide) ?_
    exact zr_iret X dX5_manOn_23 rfl ⟨Nat.le_refl _, Nat.le_refl _⟩ ⟨rfl, _, rfl, rfl, h⟩
  · rw [if_neg q] at h
    refine zr_iload_n X dX5_manOn_4 1 rfl ?_
    refine zr_aload_n X dX5_manOn_5 0 rfl ?_
    refine zr_getR X dX5_manOn_6 zd_X5_26 rfl ho (zf_5_3 ho).1 ?_
    refine zr_alen (v := Int32.ofNat (zln (zrf o 3))) X dX5_manOn_9 (zf_5_3 ho).2 (by decide) rfl ?_
    refine zr_icmp_lt (tgt := 17) X dX5_manOn_10 (by decide) (fun q => ?_) (fun q => ?_)
    · rw [if_pos q] at h
      refine zr_aload_n X dX5_manOn_17 0 rfl ?_
      refine zr_getR X dX5_manOn_18 zd_X5_26 rfl ho (zf_5_3 ho).1 ?_
      refine zr_iload_n X dX5_manOn_21 1 rfl ?_
      obtain ⟨g0, h⟩ := zg_e h
      refine zr_iald X dX5_manOn_22 (zf_5_3 ho).2 (zI_in g0) ?_
      exact zr_iret X dX5_manOn_23 rfl ⟨Nat.le_refl _, Nat.le_refl _⟩ ⟨rfl, _, rfl, rfl, h⟩
    · rw [if_neg q] at h
      refine zr_iconst (v := (-1)) X dX5_manOn_13 (by decide) ?_
      refine zr_goto (tgt := 23) X dX5_manOn_14 (by decide) ?_
      exact zr_iret X dX5_manOn_23 rfl ⟨Nat.le_refl _, Nat.le_refl _⟩ ⟨rfl, _, rfl, rfl, h⟩

set_option maxRecDepth 100000 in
set_option maxHeartbeats 4000000 in
theorem x_fSt_putMan {l : Launch} {S : State} {D : va_G} {cA : Nat → ClassId} {tb sx : Nat → Nat} (hG : zv_G S D cA tb sx) (d : Nat) (hd : 1 ≤ d) (o : Nat) (ho : zcl o 5) (p1 : Int32) (p2 : Int32) (m : zv_M) (P : zv_M → Prop) (h : zw (fSt_putMan o p1 p2 m) P) : zv_Met l S D cA d 0 0 yX5_putMan cX5_putMan 3 none [.ref (S.heap.size + o), .int p1, .int p2] SH0 m (zq_v SH0 P) := by
  refine zv_met false hG pf_X5_putMan (fun z => by cases z) (Nat.le_of_ble_eq_true rfl) [(0, .ref (S.heap.size + o)), (1, .int p1), (2, .int p2)] rfl (fun p e s mi args below meth c X => ?_)
  rw [fSt_putMan] at h
  refine zr_iload_n X dX5_putMan_0 1 rfl ?_
  refine zr_if_lt (tgt := 20) X dX5_putMan_1 (by decide) (fun q => ?_) (fun q => ?_)
  · rw [if_pos q] at h
    exact zr_vret X dX5_putMan_20 ⟨Nat.le_refl _, Nat.le_refl _⟩ ⟨rfl, rfl, h⟩
  · rw [if_neg q] at h
    refine zr_iload_n X dX5_putMan_4 1 rfl ?_
    refine zr_aload_n X dX5_putMan_5 0 rfl ?_
    refine zr_getR X dX5_putMan_6 zd_X5_26 rfl ho (zf_5_3 ho).1 ?_
    refine zr_alen (v := Int32.ofNat (zln (zrf o 3))) X dX5_putMan_9 (zf_5_3 ho).2 (by decide) rfl ?_
    refine zr_icmp_ge (tgt := 20) X dX5_putMan_10 (by decide) (fun q => ?_) (fun q => ?_)
    · rw [if_neg q] at h
      exact zr_vret X dX5_putMan_20 ⟨Nat.le_refl _, Nat.le_refl _⟩ ⟨rfl, rfl, h⟩
    · rw [if_pos q] at h
      refine zr_aload_n X dX5_putMan_13 0 rfl ?_
      refine zr_getR X dX5_putMan_14 zd_X5_26 rfl ho (zf_5_3 ho).1 ?_
      refine zr_iload_n X dX5_putMan_17 1 rfl ?_
      refine zr_iload_n X dX5_putMan_18 2 rfl ?_
      obtain ⟨g0, h⟩ := zg_e h
      refine zr_iast X dX5_putMan_19 (zf_5_3 ho).2 (zI_in g0) ?_
      exact zr_vret X dX5_putMan_20 ⟨Nat.le_refl _, Nat.le_refl _⟩ ⟨rfl, rfl, h⟩

set_option maxRecDepth 100000 in
set_option maxHeartbeats 4000000 in
theorem x_fJ_fill {l : Launch} {S : State} {D : va_G} {cA : Nat → ClassId} {tb sx : Nat → Nat} (hG : zv_G S D cA tb sx) (d : Nat) (hd : 1 ≤ d) (p1 : Nat) (hp1 : zar p1 0) (p2 : Int32) (m : zv_M) (P : zv_M → Prop) (h : zw (fJ_fill p1 p2 m) P) : zv_Met l S D cA d 0 0 yJ7_fill_53178 cJ7_fill_53178 4 none [.ref (S.heap.size + p1), .int p2] SH0 m (zq_v SH0 P) := by
  refine zv_met false hG pf_J7_fill_53178 (fun z => by cases z) (Nat.le_of_ble_eq_true rfl) [(0, .ref (S.heap.size + p1)), (1, .int p2)] rfl (fun p e s mi args below meth c X => ?_)
  rw [fJ_fill] at h
  refine zr_iconst (v := 0) X dJ7_fill_53178_0 (by decide) ?_
  refine zr_istore_n (lo' := [(2, .int 0), (0, .ref (S.heap.size + p1)), (1, .int p2)]) X dJ7_fill_53178_1 (by decide) rfl ?_
  refine zr_aload_n X dJ7_fill_53178_2 1 rfl ?_
  refine zr_alen (v := Int32.ofNat (zln p1)) X dJ7_fill_53178_3 hp1 (by decide) rfl ?_
  refine zr_istore_n (lo' := [(3, .int (Int32.ofNat (zln p1))), (2, .int 0), (0, .ref (S.heap.size + p1)), (1, .int p2)]) X dJ7_fill_53178_4 (by decide) rfl ?_
  refine zr_sub [2, 3, 1, 0] rfl ?_
  refine zl_w2 (fun a2 m3 => zv_V S D cA p l e (zv_rm d 0 0) s mi args below meth c 4 (MQ below (zv_Q S D cA (zq_v SH0 P)) args s 0 0 (zv_fr S)) 0 0 5 [(0, .ref (S.heap.size + p1)), (1, .int p2), (2, .int a2), (3, .int (Int32.ofNat (zln p1)))] [] SH0 m3) (fJ_fill_l5 p1 p2) _ (fun P1 hl1 hr1 a2 m3 h => ?_) zFU 0 m (zw_b1 h)
  rw [fJ_fill_l5] at h
  refine zr_iload_n X dJ7_fill_53178_5 2 rfl ?_
  refine zr_iload_n X dJ7_fill_53178_6 3 rfl ?_
  refine zr_icmp_ge (tgt := 20) X dJ7_fill_53178_7 (by decide) (fun q => ?_) (fun q => ?_)
  · rw [if_neg q] at h
    have h := hr1 _ h
    exact zr_vret X dJ7_fill_53178_20 ⟨Nat.le_refl _, Nat.le_refl _⟩ ⟨rfl, rfl, h⟩
  · rw [if_pos q] at h
    refine zr_aload_n X dJ7_fill_53178_10 0 rfl ?_
    refine zr_iload_n X dJ7_fill_53178_11 2 rfl ?_
    refine zr_iload_n X dJ7_fill_53178_12 1 rfl ?_
    obtain ⟨g0, h⟩ := zg_e h
    refine zr_iast X dJ7_fill_53178_13 hp1 (zI_in g0) ?_
    refine zr_iinc (v := a2 + 1) (lo' := [(2, .int (a2 + 1)), (0, .ref (S.heap.size + p1)), (1, .int p2), (3, .int (Int32.ofNat (zln p1)))]) X dJ7_fill_53178_14 2 rfl rfl (by decide) rfl ?_
    refine zr_goto (tgt := 5) X dJ7_fill_53178_17 (by decide) ?_
    have h := hl1 _ h
    exact zr_sub [1, 2, 0, 3] rfl h

set_option maxRecDepth 100000 in
set_option maxHeartbeats 4000000 in
theorem x_fSt_takeAllMen {l : Launch} {S : State} {D : va_G} {cA : Nat → ClassId} {tb sx : Nat → Nat} (hG : zv_G S D cA tb sx) (d : Nat) (hd : 2 ≤ d) (o : Nat) (ho : zcl o 5) (m : zv_M) (P : zv_M → Prop) (h : zw (fSt_takeAllMen o m) P) : zv_Met l S D cA d 0 0 yX5_takeAllMen cX5_takeAllMen 1 none [.ref (S.heap.size + o)] SH0 m (zq_v SH0 P) := by
  refine zv_met false hG pf_X5_takeAllMen (fun z => by cases z) (Nat.le_of_ble_eq_true rfl) [(0, .ref (S.heap.size + o))] rfl (fun p e s mi args below meth c X => ?_)
  rw [fSt_takeAllMen] at h
  refine zr_aload_n X dX5_takeAllMen_0 0 rfl ?_
  refine zr_getR X dX5_takeAllMen_1 zd_X5_26 rfl ho (zf_5_3 ho).1 ?_
  refine zr_iconst (v := (-1)) X dX5_takeAllMen_4 (by decide) ?_
  refine zr_callS_v (As := [.ref (S.heap.size + (zrf o 3)), .int (-1)]) (st := []) (d := d - 1) X dX5_takeAllMen_5 wm_X5_46 ws_J7_fill_53178 my_J7_fill_53178 rfl (Nat.le_of_ble_eq_true rfl) (zRm (by omega)) ⟨Nat.le_refl _, Nat.le_refl _⟩ (x_fJ_fill hG (d - 1) (by omega) (zrf o 3) ((zf_5_3 ho).2) (-1) m _ (zw_b1 h)) (fun m1 q => ?_)
  replace h := q
  exact zr_vret X dX5_takeAllMen_8 ⟨Nat.le_refl _, Nat.le_refl _⟩ ⟨rfl, rfl, h⟩

set_option maxRecDepth 100000 in
set_option maxHeartbeats 4000000 in
theorem x_fSt_menBits {l : Launch} {S : State} {D : va_G} {cA : Nat → ClassId} {tb sx : Nat → Nat} (hG : zv_G S D cA tb sx) (d : Nat) (hd : 1 ≤ d) (o : Nat) (ho : zcl o 5) (m : zv_M) (P : Int32 → Prop) (h : zw (fSt_menBits o m) P) : zv_Met l S D cA d 0 0 yX5_menBits cX5_menBits 3 (some .int) [.ref (S.heap.size + o)] SH0 m (zq_i SH0 (fun v m' => m = m' ∧ P v)) := by
  refine zv_met false hG pf_X5_menBits (fun z => by cases z) (Nat.le_of_ble_eq_true rfl) [(0, .ref (S.heap.size + o))] rfl (fun p e s mi args below meth c X => ?_)
  rw [fSt_menBits] at h
  refine zr_iconst (v := 0) X dX5_menBits_0 (by decide) ?_
  refine zr_istore_n (lo' := [(1, .int 0), (0, .ref (S.heap.size + o))]) X dX5_menBits_1 (by decide) rfl ?_
  refine zr_iconst (v := 0) X dX5_menBits_2 (by decide) ?_
  refine zr_istore_n (lo' := [(2, .int 0), (1, .int 0), (0, .ref (S.heap.size + o))]) X dX5_menBits_3 (by decide) rfl ?_
  refine zr_sub [2, 1, 0] rfl ?_
  refine zl_w2 (fun a2 a3 => zv_V S D cA p l e (zv_rm d 0 0) s mi args below meth c 3 (MQ below (zv_Q S D cA (zq_i SH0 (fun v m' => m = m' ∧ P v))) args s 0 0 (zv_fr S)) 0 0 4 [(0, .ref (S.heap.size + o)), (1, .int a2), (2, .int a3)] [] SH0 m) (fSt_menBits_l4 o m) _ (fun P1 hl1 hr1 a2 a3 h => ?_) zFU 0 0 (zw_b1 h)
  rw [fSt_menBits_l4] at h
  refine zr_iload_n X dX5_menBits_4 2 rfl ?_
  refine zr_aload_n X dX5_menBits_5 0 rfl ?_
  refine zr_getR X dX5_menBits_6 zd_X5_26 rfl ho (zf_5_3 ho).1 ?_
  refine zr_alen (v := Int32.ofNat (zln (zrf o 3))) X dX5_menBits_9 (zf_5_3 ho).2 (by decide) rfl ?_
  refine zr_icmp_ge (tgt := 35) X dX5_menBits_10 (by decide) (fun q => ?_) (fun q => ?_)
  · rw [if_neg q] at h
    refine zr_iload_n X dX5_menBits_35 1 rfl ?_
    have h := hr1 _ h
    exact zr_iret X dX5_menBits_36 rfl ⟨Nat.le_refl _, Nat.le_refl _⟩ ⟨rfl, _, rfl, rfl, h⟩
  · rw [if_pos q] at h
    refine zr_aload_n X dX5_menBits_13 0 rfl ?_
    refine zr_getR X dX5_menBits_14 zd_X5_26 rfl ho (zf_5_3 ho).1 ?_
    refine zr_iload_n X dX5_menBits_17 2 rfl ?_
    obtain ⟨g0, h⟩ := zg_e h
    refine zr_iald X dX5_menBits_18 (zf_5_3 ho).2 (zI_in g0) ?_
    refine zr_iconst (v := (-1)) X dX5_menBits_19 (by decide) ?_
    have hJ29 : ∀ (a4 : Int32), zw (fSt_menBits_j29 a3 a4) P1 → zv_V S D cA p l e (zv_rm d 0 0) s mi args below meth c 3 (MQ below (zv_Q S D cA (zq_i SH0 (fun v m' => m = m' ∧ P v))) args s 0 0 (zv_fr S)) 0 0 29 [(0, .ref (S.heap.size + o)), (1, .int a4), (2, .int a3)] [] SH0 m := by
      intro a4 h
      rw [fSt_menBits_j29] at h
      refine zr_iinc (v := a3 + 1) (lo' := [(2, .int (a3 + 1)), (0, .ref (S.heap.size + o)), (1, .int a4)]) X dX5_menBits_29 2 rfl rfl (by decide) rfl ?_
      refine zr_goto (tgt := 4) X dX5_menBits_32 (by decide) ?_
      have h := hl1 _ h
      exact zr_sub [1, 2, 0] rfl h
    refine zr_icmp_eq (tgt := 29) X dX5_menBits_20 (by decide) (fun q => ?_) (fun q => ?_)
    · rw [if_pos q] at h
      exact zr_sub [0, 1, 2] rfl (hJ29 a2 h)
    · rw [if_neg q] at h
      refine zr_iload_n X dX5_menBits_23 1 rfl ?_
      refine zr_iconst (v := 1) X dX5_menBits_24 (by decide) ?_
      refine zr_iload_n X dX5_menBits_25 2 rfl ?_
      refine zr_ishl X dX5_menBits_26 ?_
      refine zr_ior X dX5_menBits_27 ?_
      refine zr_istore_n (lo' := [(1, .int (a2 ||| (1 <<< (a3 &&& 31)))), (0, .ref (S.heap.size + o)), (2, .int a3)]) X dX5_menBits_28 (by decide) rfl ?_
      exact zr_sub [1, 0, 2] rfl (hJ29 (a2 ||| (1 <<< (a3 &&& 31))) h)

set_option maxRecDepth 100000 in
set_option maxHeartbeats 4000000 in
theorem x_fSt_menOf {l : Launch} {S : State} {D : va_G} {cA : Nat → ClassId} {tb sx : Nat → Nat} (hG : zv_G S D cA tb sx) (d : Nat) (hd : 1 ≤ d) (o : Nat) (ho : zcl o 5) (p1 : Int32) (m : zv_M) (P : Int32 → Prop) (h : zw (fSt_menOf o p1 m) P) : zv_Met l S D cA d 0 0 yX5_menOf cX5_menOf 4 (some .int) [.ref (S.heap.size + o), .int p1] SH0 m (zq_i SH0 (fun v m' => m = m' ∧ P v)) := by
  refine zv_met false hG pf_X5_menOf (fun z => by cases z) (Nat.le_of_ble_eq_true rfl) [(0, .ref (S.heap.size + o)), (1, .int p1)] rfl (fun p e s mi args below meth c X => ?_)
  rw [fSt_menOf] at h
  refine zr_iconst (v := 0) X dX5_menOf_0 (by decide) ?_
  refine zr_istore_n (lo' := [(2, .int 0), (0, .ref (S.heap.size + o)), (1, .int p1)]) X dX5_menOf_1 (by decide) rfl ?_
  refine zr_iconst (v := 0) X dX5_menOf_2 (by decide) ?_
  refine zr_istore_n (lo' := [(3, .int 0), (2, .int 0), (0, .ref (S.heap.size + o)), (1, .int p1)]) X dX5_menOf_3 (by decide) rfl ?_
  refine zr_sub [2, 3, 1, 0] rfl ?_
  refine zl_w2 (fun a2 a3 => zv_V S D cA p l e (zv_rm d 0 0) s mi args below meth c 4 (MQ below (zv_Q S D cA (zq_i SH0 (fun v m' => m = m' ∧ P v))) args s 0 0 (zv_fr S)) 0 0 4 [(0, .ref (S.heap.size + o)), (1, .int p1), (2, .int a2), (3, .int a3)] [] SH0 m) (fSt_menOf_l4 o p1 m) _ (fun P1 hl1 hr1 a2 a3 h => ?_) zFU 0 0 (zw_b1 h)
  rw [fSt_menOf_l4] at h
  refine zr_iload_n X dX5_menOf_4 3 rfl ?_
  refine zr_aload_n X dX5_menOf_5 0 rfl ?_
  refine zr_getR X dX5_menOf_6 zd_X5_26 rfl ho (zf_5_3 ho).1 ?_
  refine zr_alen (v := Int32.ofNat (zln (zrf o 3))) X dX5_menOf_9 (zf_5_3 ho).2 (by decide) rfl ?_
  refine zr_icmp_ge (tgt := 32) X dX5_menOf_10 (by decide) (fun q => ?_) (fun q => ?_)
  · rw [if_neg q] at h
    refine zr_iload_n X dX5_menOf_32 2 rfl ?_
    have h := hr1 _ h
    exact zr_iret X dX5_menOf_33 rfl ⟨Nat.le_refl _, Nat.le_refl _⟩ ⟨rfl, _, rfl, rfl, h⟩
  · rw [if_pos q] at h
    refine zr_aload_n X dX5_menOf_13 0 rfl ?_
    refine zr_getR X dX5_menOf_14 zd_X5_26 rfl ho (zf_5_3 ho).1 ?_
    refine zr_iload_n X dX5_menOf_17 3 rfl ?_
    obtain ⟨g0, h⟩ := zg_e h
    refine zr_iald X dX5_menOf_18 (zf_5_3 ho).2 (zI_in g0) ?_
    refine zr_iload_n X dX5_menOf_19 1 rfl ?_
    have hJ26 : ∀ (a4 : Int32), zw (fSt_menOf_j26 a3 a4) P1 → zv_V S D cA p l e (zv_rm d 0 0) s mi args below meth c 4 (MQ below (zv_Q S D cA (zq_i SH0 (fun v m' => m = m' ∧ P v))) args s 0 0 (zv_fr S)) 0 0 26 [(0, .ref (S.heap.size + o)), (1, .int p1), (2, .int a4), (3, .int a3)] [] SH0 m := by
      intro a4 h
      rw [fSt_menOf_j26] at h
      refine zr_iinc (v := a3 + 1) (lo' := [(3, .int (a3 + 1)), (0, .ref (S.heap.size + o)), (1, .int p1), (2, .int a4)]) X dX5_menOf_26 3 rfl rfl (by decide) rfl ?_
      refine zr_goto (tgt := 4) X dX5_menOf_29 (by decide) ?_
      have h := hl1 _ h
      exact zr_sub [1, 2, 3, 0] rfl h
    refine zr_icmp_ne (tgt := 26) X dX5_menOf_20 (by decide) (fun q => ?_) (fun q => ?_)
    · rw [if_neg q] at h
      exact zr_sub [0, 1, 2, 3] rfl (hJ26 a2 h)
    · rw [if_pos q] at h
      refine zr_iinc (v := a2 + 1) (lo' := [(2, .int (a2 + 1)), (0, .ref (S.heap.size + o)), (1, .int p1), (3, .int a3)]) X dX5_menOf_23 2 rfl rfl (by decide) rfl ?_
      exact zr_sub [1, 2, 0, 3] rfl (hJ26 (a2 + 1) h)

set_option maxRecDepth 100000 in
set_option maxHeartbeats 4000000 in
theorem x_fSt_dropSeen {l : Launch} {S : State} {D : va_G} {cA : Nat → ClassId} {tb sx : Nat → Nat} (hG : zv_G S D cA tb sx) (d : Nat) (hd : 2 ≤ d) (o : Nat) (ho : zcl o 5) (m : zv_M) (P : zv_M → Prop) (h : zw (fSt_dropSeen o m) P) : zv_Met l S D cA d 0 0 yX5_dropSeen cX5_dropSeen 1 none [.ref (S.heap.size + o)] SH0 m (zq_v SH0 P) := by
  refine zv_met false hG pf_X5_dropSeen (fun z => by cases z) (Nat.le_of_ble_eq_true rfl) [(0, .ref (S.heap.size + o))] rfl (fun p e s mi args below meth c X => ?_)
  rw [fSt_dropSeen] at h
  refine zr_aload_n X dX5_dropSeen_0 0 rfl ?_
  refine zr_getR X dX5_dropSeen_1 zd_X5_33 rfl ho (zf_5_5 ho).1 ?_
  refine zr_callV_v (As := []) (st := []) (d := d - 1) X dX5_dropSeen_4 wm_X5_52 my_X2_drop mv_X2_drop ((zf_5_5 ho).2) rfl (Nat.le_of_ble_eq_true rfl) (zRm (by omega)) ⟨Nat.le_refl _, Nat.le_refl _⟩ (x_fPi_drop hG (d - 1) (by omega) (zrf o 5) ((zf_5_5 ho).2) m _ (zw_b1 h)) (fun m1 q => ?_)
  replace h := q
  refine zr_aload_n X dX5_dropSeen_7 0 rfl ?_
  refine zr_getR X dX5_dropSeen_8 zd_X5_36 rfl ho (zf_5_6 ho).1 ?_
  refine zr_callV_v (As := []) (st := []) (d := d - 1) X dX5_dropSeen_11 wm_X5_52 my_X2_drop mv_X2_drop ((zf_5_6 ho).2) rfl (Nat.le_of_ble_eq_true rfl) (zRm (by omega)) ⟨Nat.le_refl _, Nat.le_refl _⟩ (x_fPi_drop hG (d - 1) (by omega) (zrf o 6) ((zf_5_6 ho).2) m1 _ (zw_b1 h)) (fun m2 q => ?_)
  replace h := q
  exact zr_vret X dX5_dropSeen_14 ⟨Nat.le_refl _, Nat.le_refl _⟩ ⟨rfl, rfl, h⟩

set_option maxRecDepth 100000 in
set_option maxHeartbeats 4000000 in
theorem x_fSt_leaveBoard {l : Launch} {S : State} {D : va_G} {cA : Nat → ClassId} {tb sx : Nat → Nat} (hG : zv_G S D cA tb sx) (d : Nat) (hd : 3 ≤ d) (o : Nat) (ho : zcl o 5) (m : zv_M) (P : zv_M → Prop) (h : zw (fSt_leaveBoard o m) P) : zv_Met l S D cA d 0 0 yX5_leaveBoard cX5_leaveBoard 1 none [.ref (S.heap.size + o)] SH0 m (zq_v SH0 P) := by
  refine zv_met false hG pf_X5_leaveBoard (fun z => by cases z) (Nat.le_of_ble_eq_true rfl) [(0, .ref (S.heap.size + o))] rfl (fun p e s mi args below meth c X => ?_)
  rw [fSt_leaveBoard] at h
  refine zr_aload_n X dX5_leaveBoard_0 0 rfl ?_
  refine zr_callV_v (As := []) (st := []) (d := d - 1) X dX5_leaveBoard_1 wm_X5_55 my_X5_takeAllMen mv_X5_takeAllMen ho rfl (Nat.le_of_ble_eq_true rfl) (zRm (by omega)) ⟨Nat.le_refl _, Nat.le_refl _⟩ (x_fSt_takeAllMen hG (d - 1) (by omega) o ho m _ (zw_b1 h)) (fun m1 q => ?_)
  replace h := q
  refine zr_aload_n X dX5_leaveBoard_4 0 rfl ?_
  refine zr_getR X dX5_leaveBoard_5 zd_X5_30 rfl ho (zf_5_4 ho).1 ?_
  refine zr_callV_v (As := []) (st := []) (d := d - 1) X dX5_leaveBoard_8 wm_X5_52 my_X2_drop mv_X2_drop ((zf_5_4 ho).2) rfl (Nat.le_of_ble_eq_true rfl) (zRm (by omega)) ⟨Nat.le_refl _, Nat.le_refl _⟩ (x_fPi_drop hG (d - 1) (by omega) (zrf o 4) ((zf_5_4 ho).2) m1 _ (zw_b1 h)) (fun m2 q => ?_)
  replace h := q
  refine zr_aload_n X dX5_leaveBoard_11 0 rfl ?_
  refine zr_callV_v (As := []) (st := []) (d := d - 1) X dX5_leaveBoard_12 wm_X5_58 my_X5_dropSeen mv_X5_dropSeen ho rfl (Nat.le_of_ble_eq_true rfl) (zRm (by omega)) ⟨Nat.le_refl _, Nat.le_refl _⟩ (x_fSt_dropSeen hG (d - 1) (by omega) o ho m2 _ (zw_b1 h)) (fun m3 q => ?_)
  replace h := q
  refine zr_aload_n X dX5_leaveBoard_15 0 rfl ?_
  refine zr_getR X dX5_leaveBoard_16 zd_X5_39 rfl ho (zf_5_7 ho).1 ?_
  refine zr_callV_v (As := []) (st := []) (d := d - 1) X dX5_leaveBoard_19 wm_X5_52 my_X2_drop mv_X2_drop ((zf_5_7 ho).2) rfl (Nat.le_of_ble_eq_true rfl) (zRm (by omega)) ⟨Nat.le_refl _, Nat.le_refl _⟩ (x_fPi_drop hG (d - 1) (by omega) (zrf o 7) ((zf_5_7 ho).2) m3 _ (zw_b1 h)) (fun m4 q => ?_)
  replace h := q
  exact zr_vret X dX5_leaveBoard_22 ⟨Nat.le_refl _, Nat.le_refl _⟩ ⟨rfl, rfl, h⟩

set_option maxRecDepth 100000 in
set_option maxHeartbeats 4000000 in
theorem x_fSt_becomes {l : Launch} {S : State} {D : va_G} {cA : Nat → ClassId} {tb sx : Nat → Nat} (hG : zv_G S D cA tb sx) (d : Nat) (hd : 3 ≤ d) (o : Nat) (ho : zcl o 5) (p1 : Nat) (hp1 : zcl p1 5) (m : zv_M) (P : zv_M → Prop) (h : zw (fSt_becomes o p1 m) P) : zv_Met l S D cA d 0 0 yX5_becomes cX5_becomes 3 none [.ref (S.heap.size + o), .ref (S.heap.size + p1)] SH0 m (zq_v SH0 P) := by
  refine zv_met false hG pf_X5_becomes (fun z => by cases z) (Nat.le_of_ble_eq_true rfl) [(0, .ref (S.heap.size + o)), (1, .ref (S.heap.size + p1))] rfl (fun p e s mi args below meth c X => ?_)
  rw [fSt_becomes] at h
  refine zr_aload_n X dX5_becomes_0 0 rfl ?_
  refine zr_getR X dX5_becomes_1 zd_X5_14 rfl ho (zf_5_0 ho).1 ?_
  refine zr_aload_n X dX5_becomes_4 1 rfl ?_
  refine zr_getR X dX5_becomes_5 zd_X5_14 rfl hp1 (zf_5_0 hp1).1 ?_
  refine zr_callV_v (As := [.ref (S.heap.size + (zrf p1 0))]) (st := []) (d := d - 1) X dX5_becomes_8 wm_X5_61 my_X2_becomes mv_X2_becomes ((zf_5_0 ho).2) rfl (Nat.le_of_ble_eq_true rfl) (zRm (by omega)) ⟨Nat.le_refl _, Nat.le_refl _⟩ (x_fPi_becomes hG (d - 1) (by omega) (zrf o 0) ((zf_5_0 ho).2) (zrf p1 0) ((zf_5_0 hp1).2) m _ (zw_b1 h)) (fun m1 q => ?_)
  replace h := q
  refine zr_aload_n X dX5_becomes_11 0 rfl ?_
  refine zr_getR X dX5_becomes_12 zd_X5_20 rfl ho (zf_5_1 ho).1 ?_
  refine zr_aload_n X dX5_becomes_15 1 rfl ?_
  refine zr_getR X dX5_becomes_16 zd_X5_20 rfl hp1 (zf_5_1 hp1).1 ?_
  refine zr_callV_v (As := [.ref (S.heap.size + (zrf p1 1))]) (st := []) (d := d - 1) X dX5_becomes_19 wm_X5_61 my_X2_becomes mv_X2_becomes ((zf_5_1 ho).2) rfl (Nat.le_of_ble_eq_true rfl) (zRm (by omega)) ⟨Nat.le_refl _, Nat.le_refl _⟩ (x_fPi_becomes hG (d - 1) (by omega) (zrf o 1) ((zf_5_1 ho).2) (zrf p1 1) ((zf_5_1 hp1).2) m1 _ (zw_b1 h)) (fun m2 q => ?_)
  replace h := q
  refine zr_aload_n X dX5_becomes_22 0 rfl ?_
  refine zr_getR X dX5_becomes_23 zd_X5_23 rfl ho (zf_5_2 ho).1 ?_
  refine zr_aload_n X dX5_becomes_26 1 rfl ?_
  refine zr_getR X dX5_becomes_27 zd_X5_23 rfl hp1 (zf_5_2 hp1).1 ?_
  refine zr_callV_v (As := [.ref (S.heap.size + (zrf p1 2))]) (st := []) (d := d - 1) X dX5_becomes_30 wm_X5_61 my_X2_becomes mv_X2_becomes ((zf_5_2 ho).2) rfl (Nat.le_of_ble_eq_true rfl) (zRm (by omega)) ⟨Nat.le_refl _, Nat.le_refl _⟩ (x_fPi_becomes hG (d - 1) (by omega) (zrf o 2) ((zf_5_2 ho).2) (zrf p1 2) ((zf_5_2 hp1).2) m2 _ (zw_b1 h)) (fun m3 q => ?_)
  replace h := q
  refine zr_iconst (v := 0) X dX5_becomes_33 (by decide) ?_
  refine zr_istore_n (lo' := [(2, .int 0), (0, .ref (S.heap.size + o)), (1, .ref (S.heap.size + p1))]) X dX5_becomes_34 (by decide) rfl ?_
  refine zr_sub [1, 2, 0] rfl ?_
  have hR4 : ∀ (m7 : zv_M), zw (zb1 (fPi_becomes (zrf o 4) (zrf p1 4) m7) (fun m8 => zb1 (fPi_becomes (zrf o 5) (zrf p1 5) m8) (fun m9 => zb1 (fPi_becomes (zrf o 6) (zrf p1 6) m9) (fun m10 => zb1 (fPi_becomes (zrf o 7) (zrf p1 7) m10) (fun m11 => some (wI m11 o 8 (m11.1 p1 8)))))) : Option (zv_M)) P → zv_V S D cA p l e (zv_rm d 0 0) s mi args below meth c 3 (MQ below (zv_Q S D cA (zq_v SH0 P)) args s 0 0 (zv_fr S)) 0 0 61 [(0, .ref (S.heap.size + o)), (1, .ref (S.heap.size + p1))] [] SH0 m7 := by
    intro m7 h
    refine zr_aload_n X dX5_becomes_61 0 rfl ?_
    refine zr_getR X dX5_becomes_62 zd_X5_30 rfl ho (zf_5_4 ho).1 ?_
    refine zr_aload_n X dX5_becomes_65 1 rfl ?_
    refine zr_getR X dX5_becomes_66 zd_X5_30 rfl hp1 (zf_5_4 hp1).1 ?_
    refine zr_callV_v (As := [.ref (S.heap.size + (zrf p1 4))]) (st := []) (d := d - 1) X dX5_becomes_69 wm_X5_61 my_X2_becomes mv_X2_becomes ((zf_5_4 ho).2) rfl (Nat.le_of_ble_eq_true rfl) (zRm (by omega)) ⟨Nat.le_refl _, Nat.le_refl _⟩ (x_fPi_becomes hG (d - 1) (by omega) (zrf o 4) ((zf_5_4 ho).2) (zrf p1 4) ((zf_5_4 hp1).2) m7 _ (zw_b1 h)) (fun m8 q => ?_)
    replace h := q
    refine zr_aload_n X dX5_becomes_72 0 rfl ?_
    refine zr_getR X dX5_becomes_73 zd_X5_33 rfl ho (zf_5_5 ho).1 ?_
    refine zr_aload_n X dX5_becomes_76 1 rfl ?_
    refine zr_getR X dX5_becomes_77 zd_X5_33 rfl hp1 (zf_5_5 hp1).1 ?_
    refine zr_callV_v (As := [.ref (S.heap.size + (zrf p1 5))]) (st := []) (d := d - 1) X dX5_becomes_80 wm_X5_61 my_X2_becomes mv_X2_becomes ((zf_5_5 ho).2) rfl (Nat.le_of_ble_eq_true rfl) (zRm (by omega)) ⟨Nat.le_refl _, Nat.le_refl _⟩ (x_fPi_becomes hG (d - 1) (by omega) (zrf o 5) ((zf_5_5 ho).2) (zrf p1 5) ((zf_5_5 hp1).2) m8 _ (zw_b1 h)) (fun m9 q => ?_)
    replace h := q
    refine zr_aload_n X dX5_becomes_83 0 rfl ?_
    refine zr_getR X dX5_becomes_84 zd_X5_36 rfl ho (zf_5_6 ho).1 ?_
    refine zr_aload_n X dX5_becomes_87 1 rfl ?_
    refine zr_getR X dX5_becomes_88 zd_X5_36 rfl hp1 (zf_5_6 hp1).1 ?_
    refine zr_callV_v (As := [.ref (S.heap.size + (zrf p1 6))]) (st := []) (d := d - 1) X dX5_becomes_91 wm_X5_61 my_X2_becomes mv_X2_becomes ((zf_5_6 ho).2) rfl (Nat.le_of_ble_eq_true rfl) (zRm (by omega)) ⟨Nat.le_refl _, Nat.le_refl _⟩ (x_fPi_becomes hG (d - 1) (by omega) (zrf o 6) ((zf_5_6 ho).2) (zrf p1 6) ((zf_5_6 hp1).2) m9 _ (zw_b1 h)) (fun m10 q => ?_)
    replace h := q
    refine zr_aload_n X dX5_becomes_94 0 rfl ?_
    refine zr_getR X dX5_becomes_95 zd_X5_39 rfl ho (zf_5_7 ho).1 ?_
    refine zr_aload_n X dX5_becomes_98 1 rfl ?_
    refine zr_getR X dX5_becomes_99 zd_X5_39 rfl hp1 (zf_5_7 hp1).1 ?_
    refine zr_callV_v (As := [.ref (S.heap.size + (zrf p1 7))]) (st := []) (d := d - 1) X dX5_becomes_102 wm_X5_61 my_X2_becomes mv_X2_becomes ((zf_5_7 ho).2) rfl (Nat.le_of_ble_eq_true rfl) (zRm (by omega)) ⟨Nat.le_refl _, Nat.le_refl _⟩ (x_fPi_becomes hG (d - 1) (by omega) (zrf o 7) ((zf_5_7 ho).2) (zrf p1 7) ((zf_5_7 hp1).2) m10 _ (zw_b1 h)) (fun m11 q => ?_)
    replace h := q
    refine zr_aload_n X dX5_becomes_105 0 rfl ?_
    refine zr_aload_n X dX5_becomes_106 1 rfl ?_
    refine zr_getI X dX5_becomes_107 zd_X5_42 rfl hp1 (by rw [zk_5 hp1]; decide) ?_
    refine zr_put X dX5_becomes_110 zd_X5_42 rfl rfl rfl ho (by rw [zk_5 ho]; decide) ?_
    exact zr_vret X dX5_becomes_113 ⟨Nat.le_refl _, Nat.le_refl _⟩ ⟨rfl, rfl, h⟩
  refine zl_w2 (fun a5 m6 => zv_V S D cA p l e (zv_rm d 0 0) s mi args below meth c 3 (MQ below (zv_Q S D cA (zq_v SH0 P)) args s 0 0 (zv_fr S)) 0 0 35 [(0, .ref (S.heap.size + o)), (1, .ref (S.heap.size + p1)), (2, .int a5)] [] SH0 m6) (fSt_becomes_l35 o p1) _ (fun P4 hl4 hr4 a5 m6 h => ?_) zFU 0 m3 (zw_b1 h)
  rw [fSt_becomes_l35] at h
  refine zr_iload_n X dX5_becomes_35 2 rfl ?_
  refine zr_aload_n X dX5_becomes_36 0 rfl ?_
  refine zr_getR X dX5_becomes_37 zd_X5_26 rfl ho (zf_5_3 ho).1 ?_
  refine zr_alen (v := Int32.ofNat (zln (zrf o 3))) X dX5_becomes_40 (zf_5_3 ho).2 (by decide) rfl ?_
  refine zr_icmp_ge (tgt := 61) X dX5_becomes_41 (by decide) (fun q => ?_) (fun q => ?_)
  · rw [if_neg q] at h
    have h := hr4 _ h
    exact zr_sub [0, 1] rfl (hR4 m6 h)
  · rw [if_pos q] at h
    refine zr_aload_n X dX5_becomes_44 0 rfl ?_
    refine zr_getR X dX5_becomes_45 zd_X5_26 rfl ho (zf_5_3 ho).1 ?_
    refine zr_iload_n X dX5_becomes_48 2 rfl ?_
    refine zr_aload_n X dX5_becomes_49 1 rfl ?_
    refine zr_iload_n X dX5_becomes_50 2 rfl ?_
    refine zr_callV_i (As := [.int a5]) (st := [.int a5, .ref (S.heap.size + (zrf o 3))]) (d := d - 1) X dX5_becomes_51 wm_X5_65 my_X5_manOn mv_X5_manOn hp1 rfl (Nat.le_of_ble_eq_true rfl) (zRm (by omega)) ⟨Nat.le_refl _, Nat.le_refl _⟩ (x_fSt_manOn hG (d - 1) (by omega) p1 hp1 a5 m6 _ (zw_b1 h)) (fun r12 m13 q => ?_)
    obtain ⟨rfl, h⟩ := q
    obtain ⟨g0, h⟩ := zg_e h
    refine zr_iast X dX5_becomes_54 (zf_5_3 ho).2 (zI_in g0) ?_
    refine zr_iinc (v := a5 + 1) (lo' := [(2, .int (a5 + 1)), (0, .ref (S.heap.size + o)), (1, .ref (S.heap.size + p1))]) X dX5_becomes_55 2 rfl rfl (by decide) rfl ?_
    refine zr_goto (tgt := 35) X dX5_becomes_58 (by decide) ?_
    have h := hl4 _ h
    exact zr_sub [1, 2, 0] rfl h

set_option maxRecDepth 100000 in
set_option maxHeartbeats 4000000 in
theorem x_fTa_isTape {l : Launch} {S : State} {D : va_G} {cA : Nat → ClassId} {tb sx : Nat → Nat} (hG : zv_G S D cA tb sx) (d : Nat) (hd : 1 ≤ d) (p1 : Int32) (m : zv_M) (P : Int32 → Prop) (h : zw (fTa_isTape p1) P) : zv_Met l S D cA d 0 0 yX6_isTape cX6_isTape 2 (some .boolean) [.ref (S.heap.size + 64), .int p1] SH0 m (zq_i SH0 (fun v m' => m = m' ∧ P v)) := by
  refine zv_met false hG pf_X6_isTape (fun z => by cases z) (Nat.le_of_ble_eq_true rfl) [(0, .ref (S.heap.size + 64)), (1, .int p1)] rfl (fun p e s mi args below meth c X => ?_)
  rw [fTa_isTape] at h
  refine zr_iload_n X dX6_isTape_0 1 rfl ?_
  refine zr_if_lt (tgt := 14) X dX6_isTape_1 (by decide) (fun q => ?_) (fun q => ?_)
  · rw [if_pos q] at h
    refine zr_iconst (v := 0) X dX6_isTape_14 (by decide) ?_
    exact zr_iret X dX6_isTape_15 rfl ⟨Nat.le_refl _, Nat.le_refl _⟩ ⟨rfl, _, rfl, rfl, h⟩
  · rw [if_neg q] at h
    refine zr_iload_n X dX6_isTape_4 1 rfl ?_
    refine zr_bipush (v := 6) X dX6_isTape_5 (by decide) ?_
    refine zr_icmp_ge (tgt := 14) X dX6_isTape_7 (by decide) (fun q => ?_) (fun q => ?_)
    · rw [if_neg q] at h
      refine zr_iconst (v := 0) X dX6_isTape_14 (by decide) ?_
      exact zr_iret X dX6_isTape_15 rfl ⟨Nat.le_refl _, Nat.le_refl _⟩ ⟨rfl, _, rfl, rfl, h⟩
    · rw [if_pos q] at h
      refine zr_iconst (v := 1) X dX6_isTape_10 (by decide) ?_
      refine zr_goto (tgt := 15) X dX6_isTape_11 (by decide) ?_
      exact zr_iret X dX6_isTape_15 rfl ⟨Nat.le_refl _, Nat.le_refl _⟩ ⟨rfl, _, rfl, rfl, h⟩

set_option maxRecDepth 100000 in
set_option maxHeartbeats 4000000 in
theorem x_fTa_sortOf {l : Launch} {S : State} {D : va_G} {cA : Nat → ClassId} {tb sx : Nat → Nat} (hG : zv_G S D cA tb sx) (d : Nat) (hd : 1 ≤ d) (p1 : Int32) (m : zv_M) (P : Int32 → Prop) (h : zw (fTa_sortOf p1 m) P) : zv_Met l S D cA d 0 0 yX6_sortOf cX6_sortOf 2 (some .int) [.ref (S.heap.size + 64), .int p1] SH0 m (zq_i SH0 (fun v m' => m = m' ∧ P v)) := by
  refine zv_met false hG pf_X6_sortOf (fun z => by cases z) (Nat.le_of_ble_eq_true rfl) [(0, .ref (S.heap.size + 64)), (1, .int p1)] rfl (fun p e s mi args below meth c X => ?_)
  rw [fTa_sortOf] at h
  refine zr_iload_n X dX6_sortOf_0 1 rfl ?_
  refine zr_if_lt (tgt := 13) X dX6_sortOf_1 (by decide) (fun q => ?_) (fun q => ?_)
  · rw [if_pos q] at h
    refine zr_iconst (v := (-1)) X dX6_sortOf_13 (by decide) ?_
    refine zr_goto (tgt := 23) X dX6_sortOf_14 (by decide) ?_
    exact zr_iret X dX6_sortOf_23 rfl ⟨Nat.le_refl _, Nat.le_refl _⟩ ⟨rfl, _, rfl, rfl, h⟩
  · rw [if_neg q] at h
    refine zr_iload_n X dX6_sortOf_4 1 rfl ?_
    refine zr_aload_n X dX6_sortOf_5 0 rfl ?_
    refine zr_getR X dX6_sortOf_6 zd_X6_9 rfl zo_64 zl_64_0 ?_
    refine zr_alen (v := 6) X dX6_sortOf_9 za_65 (by decide) rfl ?_
    refine zr_icmp_lt (tgt := 17) X dX6_sortOf_10 (by decide) (fun q => ?_) (fun q => ?_)
    · rw [if_pos q] at h
      refine zr_aload_n X dX6_sortOf_17 0 rfl ?_
      refine zr_getR X dX6_sortOf_18 zd_X6_9 rfl zo_64 zl_64_0 ?_
      refine zr_iload_n X dX6_sortOf_21 1 rfl ?_
      obtain ⟨g0, h⟩ := zg_e h
      refine zr_iald X dX6_sortOf_22 za_65 (zI_in g0) ?_
      exact zr_iret X dX6_sortOf_23 rfl ⟨Nat.le_refl _, Nat.le_refl _⟩ ⟨rfl, _, rfl, rfl, h⟩
    · rw [if_neg q] at h
      refine zr_iconst (v := (-1)) X dX6_sortOf_13 (by decide) ?_
      refine zr_goto (tgt := 23) X dX6_sortOf_14 (by decide) ?_
      exact zr_iret X dX6_sortOf_23 rfl ⟨Nat.le_refl _, Nat.le_refl _⟩ ⟨rfl, _, rfl, rfl, h⟩

set_option maxRecDepth 100000 in
set_option maxHeartbeats 4000000 in
theorem x_fTa_holdsNothing {l : Launch} {S : State} {D : va_G} {cA : Nat → ClassId} {tb sx : Nat → Nat} (hG : zv_G S D cA tb sx) (d : Nat) (hd : 2 ≤ d) (p1 : Int32) (m : zv_M) (P : Int32 → Prop) (h : zw (fTa_holdsNothing p1 m) P) : zv_Met l S D cA d 0 0 yX6_holdsNothing cX6_holdsNothing 2 (some .boolean) [.ref (S.heap.size + 64), .int p1] SH0 m (zq_i SH0 (fun v m' => m = m' ∧ P v)) := by
  refine zv_met false hG pf_X6_holdsNothing (fun z => by cases z) (Nat.le_of_ble_eq_true rfl) [(0, .ref (S.heap.size + 64)), (1, .int p1)] rfl (fun p e s mi args below meth c X => ?_)
  rw [fTa_holdsNothing] at h
  refine zr_aload_n X dX6_holdsNothing_0 0 rfl ?_
  refine zr_iload_n X dX6_holdsNothing_1 1 rfl ?_
  refine zr_callV_i (As := [.int p1]) (st := []) (d := d - 1) X dX6_holdsNothing_2 wm_X6_26 my_X6_sortOf mv_X6_sortOf zo_64 rfl (Nat.le_of_ble_eq_true rfl) (zRm (by omega)) ⟨Nat.le_refl _, Nat.le_refl _⟩ (x_fTa_sortOf hG (d - 1) (by omega) p1 m _ (zw_b1 h)) (fun r1 m2 q => ?_)
  obtain ⟨rfl, h⟩ := q
  refine zr_iconst (v := (-1)) X dX6_holdsNothing_5 (by decide) ?_
  refine zr_icmp_ne (tgt := 13) X dX6_holdsNothing_6 (by decide) (fun q => ?_) (fun q => ?_)
  · rw [if_neg q] at h
    refine zr_iconst (v := 0) X dX6_holdsNothing_13 (by decide) ?_
    exact zr_iret X dX6_holdsNothing_14 rfl ⟨Nat.le_refl _, Nat.le_refl _⟩ ⟨rfl, _, rfl, rfl, h⟩
  · rw [if_pos q] at h
    refine zr_iconst (v := 1) X dX6_holdsNothing_9 (by decide) ?_
    refine zr_goto (tgt := 14) X dX6_holdsNothing_10 (by decide) ?_
    exact zr_iret X dX6_holdsNothing_14 rfl ⟨Nat.le_refl _, Nat.le_refl _⟩ ⟨rfl, _, rfl, rfl, h⟩

set_option maxRecDepth 100000 in
set_option maxHeartbeats 4000000 in
theorem x_fTa_sizeOf {l : Launch} {S : State} {D : va_G} {cA : Nat → ClassId} {tb sx : Nat → Nat} (hG : zv_G S D cA tb sx) (d : Nat) (hd : 1 ≤ d) (p1 : Int32) (m : zv_M) (P : Int32 → Prop) (h : zw (fTa_sizeOf p1 m) P) : zv_Met l S D cA d 0 0 yX6_sizeOf cX6_sizeOf 2 (some .int) [.ref (S.heap.size + 64), .int p1] SH0 m (zq_i SH0 (fun v m' => m = m' ∧ P v)) := by
  refine zv_met false hG pf_X6_sizeOf (fun z => by cases z) (Nat.le_of_ble_eq_true rfl) [(0, .ref (S.heap.size + 64)), (1, .int p1)] rfl (fun p e s mi args below meth c X => ?_)
  rw [fTa_sizeOf] at h
  refine zr_iload_n X dX6_sizeOf_0 1 rfl ?_
  refine zr_if_lt (tgt := 13) X dX6_sizeOf_1 (by decide) (fun q => ?_) (fun q => ?_)
  · rw [if_pos q] at h
    refine zr_iconst (v := 0) X dX6_sizeOf_13 (by decide) ?_
    refine zr_goto (tgt := 23) X dX6_sizeOf_14 (by decide) ?_
    exact zr_iret X dX6_sizeOf_23 rfl ⟨Nat.le_refl _, Nat.le_refl _⟩ ⟨rfl, _, rfl, rfl, h⟩
  · rw [if_neg q] at h
    refine zr_iload_n X dX6_sizeOf_4 1 rfl ?_
    refine zr_aload_n X dX6_sizeOf_5 0 rfl ?_
    refine zr_getR X dX6_sizeOf_6 zd_X6_13 rfl zo_64 zl_64_1 ?_
    refine zr_alen (v := 6) X dX6_sizeOf_9 za_66 (by decide) rfl ?_
    refine zr_icmp_lt (tgt := 17) X dX6_sizeOf_10 (by decide) (fun q => ?_) (fun q => ?_)
    · rw [if_pos q] at h
      refine zr_aload_n X dX6_sizeOf_17 0 rfl ?_
      refine zr_getR X dX6_sizeOf_18 zd_X6_13 rfl zo_64 zl_64_1 ?_
      refine zr_iload_n X dX6_sizeOf_21 1 rfl ?_
      obtain ⟨g0, h⟩ := zg_e h
      refine zr_iald X dX6_sizeOf_22 za_66 (zI_in g0) ?_
      exact zr_iret X dX6_sizeOf_23 rfl ⟨Nat.le_refl _, Nat.le_refl _⟩ ⟨rfl, _, rfl, rfl, h⟩
    · rw [if_neg q] at h
      refine zr_iconst (v := 0) X dX6_sizeOf_13 (by decide) ?_
      refine zr_goto (tgt := 23) X dX6_sizeOf_14 (by decide) ?_
      exact zr_iret X dX6_sizeOf_23 rfl ⟨Nat.le_refl _, Nat.le_refl _⟩ ⟨rfl, _, rfl, rfl, h⟩

set_option maxRecDepth 100000 in
set_option maxHeartbeats 4000000 in
theorem x_fTa_isPlace {l : Launch} {S : State} {D : va_G} {cA : Nat → ClassId} {tb sx : Nat → Nat} (hG : zv_G S D cA tb sx) (d : Nat) (hd : 2 ≤ d) (p1 : Int32) (p2 : Int32) (m : zv_M) (P : Int32 → Prop) (h : zw (fTa_isPlace p1 p2 m) P) : zv_Met l S D cA d 0 0 yX6_isPlace cX6_isPlace 3 (some .boolean) [.ref (S.heap.size + 64), .int p1, .int p2] SH0 m (zq_i SH0 (fun v m' => m = m' ∧ P v)) := by
  refine zv_met false hG pf_X6_isPlace (fun z => by cases z) (Nat.le_of_ble_eq_true rfl) [(0, .ref (S.heap.size + 64)), (1, .int p1), (2, .int p2)] rfl (fun p e s mi args below meth c X => ?_)
  rw [fTa_isPlace] at h
  refine zr_iload_n X dX6_isPlace_0 2 rfl ?_
  refine zr_if_lt (tgt := 17) X dX6_isPlace_1 (by decide) (fun q => ?_) (fun q => ?_)
  · rw [if_pos q] at h
    refine zr_iconst (v := 0) X dX6_isPlace_17 (by decide) ?_
    exact zr_iret X dX6_isPlace_18 rfl ⟨Nat.le_refl _, Nat.le_refl _⟩ ⟨rfl, _, rfl, rfl, h⟩
  · rw [if_neg q] at h
    refine zr_iload_n X dX6_isPlace_4 2 rfl ?_
    refine zr_aload_n X dX6_isPlace_5 0 rfl ?_
    refine zr_iload_n X dX6_isPlace_6 1 rfl ?_
    refine zr_callV_i (As := [.int p1]) (st := [.int p2]) (d := d - 1) X dX6_isPlace_7 wm_X6_30 my_X6_sizeOf mv_X6_sizeOf zo_64 rfl (Nat.le_of_ble_eq_true rfl) (zRm (by omega)) ⟨Nat.le_refl _, Nat.le_refl _⟩ (x_fTa_sizeOf hG (d - 1) (by omega) p1 m _ (zw_b1 h)) (fun r1 m2 q => ?_)
    obtain ⟨rfl, h⟩ := q
    refine zr_icmp_ge (tgt := 17) X dX6_isPlace_10 (by decide) (fun q => ?_) (fun q => ?_)
    · rw [if_neg q] at h
      refine zr_iconst (v := 0) X dX6_isPlace_17 (by decide) ?_
      exact zr_iret X dX6_isPlace_18 rfl ⟨Nat.le_refl _, Nat.le_refl _⟩ ⟨rfl, _, rfl, rfl, h⟩
    · rw [if_pos q] at h
      refine zr_iconst (v := 1) X dX6_isPlace_13 (by decide) ?_
      refine zr_goto (tgt := 18) X dX6_isPlace_14 (by decide) ?_
      exact zr_iret X dX6_isPlace_18 rfl ⟨Nat.le_refl _, Nat.le_refl _⟩ ⟨rfl, _, rfl, rfl, h⟩

set_option maxRecDepth 100000 in
set_option maxHeartbeats 4000000 in
theorem x_fTa_hasRun {l : Launch} {S : State} {D : va_G} {cA : Nat → ClassId} {tb sx : Nat → Nat} (hG : zv_G S D cA tb sx) (d : Nat) (hd : 2 ≤ d) (p1 : Int32) (p2 : Int32) (p3 : Int32) (m : zv_M) (P : Int32 → Prop) (h : zw (fTa_hasRun p1 p2 p3 m) P) : zv_Met l S D cA d 0 0 yX6_hasRun cX6_hasRun 4 (some .boolean) [.ref (S.heap.size + 64), .int p1, .int p2, .int p3] SH0 m (zq_i SH0 (fun v m' => m = m' ∧ P v)) := by
  refine zv_met false hG pf_X6_hasRun (fun z => by cases z) (Nat.le_of_ble_eq_true rfl) [(0, .ref (S.heap.size + 64)), (1, .int p1), (2, .int p2), (3, .int p3)] rfl (fun p e s mi args below meth c X => ?_)
  rw [fTa_hasRun] at h
  refine zr_iload_n X dX6_hasRun_0 3 rfl ?_
  refine zr_if_lt (tgt := 32) X dX6_hasRun_1 (by decide) (fun q => ?_) (fun q => ?_)
  · rw [if_pos q] at h
    refine zr_iconst (v := 0) X dX6_hasRun_32 (by decide) ?_
    exact zr_iret X dX6_hasRun_33 rfl ⟨Nat.le_refl _, Nat.le_refl _⟩ ⟨rfl, _, rfl, rfl, h⟩
  · rw [if_neg q] at h
    refine zr_iload_n X dX6_hasRun_4 2 rfl ?_
    refine zr_if_lt (tgt := 32) X dX6_hasRun_5 (by decide) (fun q => ?_) (fun q => ?_)
    · rw [if_pos q] at h
      refine zr_iconst (v := 0) X dX6_hasRun_32 (by decide) ?_
      exact zr_iret X dX6_hasRun_33 rfl ⟨Nat.le_refl _, Nat.le_refl _⟩ ⟨rfl, _, rfl, rfl, h⟩
    · rw [if_neg q] at h
      refine zr_iload_n X dX6_hasRun_8 3 rfl ?_
      refine zr_aload_n X dX6_hasRun_9 0 rfl ?_
      refine zr_iload_n X dX6_hasRun_10 1 rfl ?_
      refine zr_callV_i (As := [.int p1]) (st := [.int p3]) (d := d - 1) X dX6_hasRun_11 wm_X6_30 my_X6_sizeOf mv_X6_sizeOf zo_64 rfl (Nat.le_of_ble_eq_true rfl) (zRm (by omega)) ⟨Nat.le_refl _, Nat.le_refl _⟩ (x_fTa_sizeOf hG (d - 1) (by omega) p1 m _ (zw_b1 h)) (fun r1 m2 q => ?_)
      obtain ⟨rfl, h⟩ := q
      refine zr_icmp_gt (tgt := 32) X dX6_hasRun_14 (by decide) (fun q => ?_) (fun q => ?_)
      · rw [if_pos q] at h
        refine zr_iconst (v := 0) X dX6_hasRun_32 (by decide) ?_
        exact zr_iret X dX6_hasRun_33 rfl ⟨Nat.le_refl _, Nat.le_refl _⟩ ⟨rfl, _, rfl, rfl, h⟩
      · rw [if_neg q] at h
        refine zr_iload_n X dX6_hasRun_17 2 rfl ?_
        refine zr_aload_n X dX6_hasRun_18 0 rfl ?_
        refine zr_iload_n X dX6_hasRun_19 1 rfl ?_
        refine zr_callV_i (As := [.int p1]) (st := [.int p2]) (d := d - 1) X dX6_hasRun_20 wm_X6_30 my_X6_sizeOf mv_X6_sizeOf zo_64 rfl (Nat.le_of_ble_eq_true rfl) (zRm (by omega)) ⟨Nat.le_refl _, Nat.le_refl _⟩ (x_fTa_sizeOf hG (d - 1) (by omega) p1 m _ (zw_b1 h)) (fun r3 m4 q => ?_)
        obtain ⟨rfl, h⟩ := q
        refine zr_iload_n X dX6_hasRun_23 3 rfl ?_
        refine zr_isub X dX6_hasRun_24 ?_
        refine zr_icmp_gt (tgt := 32) X dX6_hasRun_25 (by decide) (fun q => ?_) (fun q => ?_)
        · rw [if_pos q] at h
          refine zr_iconst (v := 0) X dX6_hasRun_32 (by decide) ?_
          exact zr_iret X dX6_hasRun_33 rfl ⟨Nat.le_refl _, Nat.le_refl _⟩ ⟨rfl, _, rfl, rfl, h⟩
        · rw [if_neg q] at h
          refine zr_iconst (v := 1) X dX6_hasRun_28 (by decide) ?_
          refine zr_goto (tgt := 33) X dX6_hasRun_29 (by decide) ?_
          exact zr_iret X dX6_hasRun_33 rfl ⟨Nat.le_refl _, Nat.le_refl _⟩ ⟨rfl, _, rfl, rfl, h⟩

set_option maxRecDepth 100000 in
set_option maxHeartbeats 4000000 in
theorem x_fTa_become {l : Launch} {S : State} {D : va_G} {cA : Nat → ClassId} {tb sx : Nat → Nat} (hG : zv_G S D cA tb sx) (d : Nat) (hd : 2 ≤ d) (p1 : Int32) (p2 : Int32) (p3 : Int32) (m : zv_M) (P : zv_M → Prop) (h : zw (fTa_become p1 p2 p3 m) P) : zv_Met l S D cA d 0 0 yX6_become cX6_become 5 none [.ref (S.heap.size + 64), .int p1, .int p2, .int p3] SH0 m (zq_v SH0 P) := by
  refine zv_met false hG pf_X6_become (fun z => by cases z) (Nat.le_of_ble_eq_true rfl) [(0, .ref (S.heap.size + 64)), (1, .int p1), (2, .int p2), (3, .int p3)] rfl (fun p e s mi args below meth c X => ?_)
  rw [fTa_become] at h
  refine zr_iload_n X dX6_become_0 1 rfl ?_
  refine zr_if_lt (tgt := 22) X dX6_become_1 (by decide) (fun q => ?_) (fun q => ?_)
  · rw [if_pos q] at h
    exact zr_vret X dX6_become_22 ⟨Nat.le_refl _, Nat.le_refl _⟩ ⟨rfl, rfl, h⟩
  · rw [if_neg q] at h
    refine zr_iload_n X dX6_become_4 1 rfl ?_
    refine zr_aload_n X dX6_become_5 0 rfl ?_
    refine zr_getR X dX6_become_6 zd_X6_9 rfl zo_64 zl_64_0 ?_
    refine zr_alen (v := 6) X dX6_become_9 za_65 (by decide) rfl ?_
    refine zr_icmp_ge (tgt := 22) X dX6_become_10 (by decide) (fun q => ?_) (fun q => ?_)
    · rw [if_neg q] at h
      exact zr_vret X dX6_become_22 ⟨Nat.le_refl _, Nat.le_refl _⟩ ⟨rfl, rfl, h⟩
    · rw [if_pos q] at h
      refine zr_iload_n X dX6_become_13 1 rfl ?_
      refine zr_aload_n X dX6_become_14 0 rfl ?_
      refine zr_getR X dX6_become_15 zd_X6_13 rfl zo_64 zl_64_1 ?_
      refine zr_alen (v := 6) X dX6_become_18 za_66 (by decide) rfl ?_
      refine zr_icmp_lt (tgt := 23) X dX6_become_19 (by decide) (fun q => ?_) (fun q => ?_)
      · rw [if_pos q] at h
        refine zr_aload_n X dX6_become_23 0 rfl ?_
        refine zr_getR X dX6_become_24 zd_X6_9 rfl zo_64 zl_64_0 ?_
        refine zr_iload_n X dX6_become_27 1 rfl ?_
        refine zr_iload_n X dX6_become_28 2 rfl ?_
        obtain ⟨g0, h⟩ := zg_e h
        refine zr_iast X dX6_become_29 za_65 (zI_in g0) ?_
        refine zr_aload_n X dX6_become_30 0 rfl ?_
        refine zr_getR X dX6_become_31 zd_X6_13 rfl zo_64 zl_64_1 ?_
        refine zr_iload_n X dX6_become_34 1 rfl ?_
        refine zr_iload_n X dX6_become_35 3 rfl ?_
        refine zr_iconst (v := 0) X dX6_become_36 (by decide) ?_
        refine zr_callS_i (As := [.int p3, .int 0]) (st := [.int p1, .ref (S.heap.size + 66)]) (d := d - 1) X dX6_become_37 wm_X6_33 ws_J9_max_7cf53 my_J9_max_7cf53 rfl (Nat.le_of_ble_eq_true rfl) (zRm (by omega)) ⟨Nat.le_refl _, Nat.le_refl _⟩ (x_fJ_max hG (d - 1) (by omega) p3 0 (wI m 65 p1.toNatClampNeg p2) _ (zw_b1 h)) (fun r1 m2 q => ?_)
        obtain ⟨rfl, h⟩ := q
        refine zr_bipush (v := 60) X dX6_become_40 (by decide) ?_
        refine zr_callS_i (As := [.int r1, .int 60]) (st := [.int p1, .ref (S.heap.size + 66)]) (d := d - 1) X dX6_become_42 wm_X6_39 ws_J9_min_7cf53 my_J9_min_7cf53 rfl (Nat.le_of_ble_eq_true rfl) (zRm (by omega)) ⟨Nat.le_refl _, Nat.le_refl _⟩ (x_fJ_min hG (d - 1) (by omega) r1 60 (wI m 65 p1.toNatClampNeg p2) _ (zw_b1 h)) (fun r3 m4 q => ?_)
        obtain ⟨rfl, h⟩ := q
        obtain ⟨g0, h⟩ := zg_e h
        refine zr_iast X dX6_become_45 za_66 (zI_in g0) ?_
        refine zr_iconst (v := 0) X dX6_become_46 (by decide) ?_
        refine zr_istore (lo' := [(4, .int 0), (0, .ref (S.heap.size + 64)), (1, .int p1), (2, .int p2), (3, .int p3)]) X dX6_become_47 (by decide) rfl ?_
        refine zr_sub [1, 2, 0] rfl ?_
        refine zl_w2 (fun a6 m7 => zv_V S D cA p l e (zv_rm d 0 0) s mi args below meth c 5 (MQ below (zv_Q S D cA (zq_v SH0 P)) args s 0 0 (zv_fr S)) 0 0 49 [(0, .ref (S.heap.size + 64)), (1, .int p1), (4, .int a6)] [] SH0 m7) (fTa_become_l49 p1) _ (fun P5 hl5 hr5 a6 m7 h => ?_) zFU 0 (wI (wI m 65 p1.toNatClampNeg p2) 66 p1.toNatClampNeg r3) (zw_b1 h)
        rw [fTa_become_l49] at h
        refine zr_iload X dX6_become_49 2 rfl ?_
        refine zr_bipush (v := 60) X dX6_become_51 (by decide) ?_
        refine zr_icmp_ge (tgt := 75) X dX6_become_53 (by decide) (fun q => ?_) (fun q => ?_)
        · rw [if_neg q] at h
          have h := hr5 _ h
          exact zr_vret X dX6_become_75 ⟨Nat.le_refl _, Nat.le_refl _⟩ ⟨rfl, rfl, h⟩
        · rw [if_pos q] at h
          refine zr_aload_n X dX6_become_56 0 rfl ?_
          refine zr_getR X dX6_become_57 zd_X6_16 rfl zo_64 zl_64_2 ?_
          refine zr_iload_n X dX6_become_60 1 rfl ?_
          refine zr_bipush (v := 60) X dX6_become_61 (by decide) ?_
          refine zr_imul X dX6_become_63 ?_
          refine zr_iload X dX6_become_64 2 rfl ?_
          refine zr_iadd X dX6_become_66 ?_
          refine zr_lconst (v := 0) X dX6_become_67 (by decide) ?_
          obtain ⟨g0, h⟩ := zg_e h
          refine zr_last X dX6_become_68 za_67 (zI_in g0) ?_
          refine zr_iinc (v := a6 + 1) (lo' := [(4, .int (a6 + 1)), (0, .ref (S.heap.size + 64)), (1, .int p1)]) X dX6_become_69 2 rfl rfl (by decide) rfl ?_
          refine zr_goto (tgt := 49) X dX6_become_72 (by decide) ?_
          have h := hl5 _ h
          exact zr_sub [1, 2, 0] rfl h
      · rw [if_neg q] at h
        exact zr_vret X dX6_become_22 ⟨Nat.le_refl _, Nat.le_refl _⟩ ⟨rfl, rfl, h⟩

set_option maxRecDepth 100000 in
set_option maxHeartbeats 4000000 in
theorem x_fTa_fitted {l : Launch} {S : State} {D : va_G} {cA : Nat → ClassId} {tb sx : Nat → Nat} (hG : zv_G S D cA tb sx) (d : Nat) (hd : 1 ≤ d) (p1 : Int32) (p2 : Int64) (m : zv_M) (P : Int64 → Prop) (h : zw (fTa_fitted p1 p2) P) : zv_Met l S D cA d 0 0 yX6_fitted cX6_fitted 3 (some .long) [.int p1, .long p2] SH0 m (zq_l SH0 (fun v m' => m = m' ∧ P v)) := by
  refine zv_met false hG pf_X6_fitted (fun z => by cases z) (Nat.le_of_ble_eq_true rfl) [(0, .int p1), (1, .long p2)] rfl (fun p e s mi args below meth c X => ?_)
  rw [fTa_fitted] at h
  refine zr_iload_n X dX6_fitted_0 0 rfl ?_
  by_cases e0 : p1 = 0
  · rw [if_pos e0] at h
    refine zr_tableIn (tgt := 36) X dX6_fitted_1 0 (by rw [e0]; decide) (by decide) (by decide) rfl (by decide) ?_
    refine zr_lload_n X dX6_fitted_36 1 rfl ?_
    refine zr_l2i X dX6_fitted_37 ?_
    refine zr_i2b X dX6_fitted_38 ?_
    refine zr_i2l X dX6_fitted_39 ?_
    exact zr_lret X dX6_fitted_40 ⟨Nat.le_refl _, Nat.le_refl _⟩ ⟨rfl, _, rfl, rfl, h⟩
  rw [if_neg e0] at h
  by_cases e1 : p1 = 1
  · rw [if_pos e1] at h
    refine zr_tableIn (tgt := 41) X dX6_fitted_1 1 (by rw [e1]; decide) (by decide) (by decide) rfl (by decide) ?_
    refine zr_lload_n X dX6_fitted_41 1 rfl ?_
    refine zr_l2i X dX6_fitted_42 ?_
    refine zr_i2s X dX6_fitted_43 ?_
    refine zr_i2l X dX6_fitted_44 ?_
    exact zr_lret X dX6_fitted_45 ⟨Nat.le_refl _, Nat.le_refl _⟩ ⟨rfl, _, rfl, rfl, h⟩
  rw [if_neg e1] at h
  by_cases e2 : p1 = 2
  · rw [if_pos e2] at h
    refine zr_tableIn (tgt := 46) X dX6_fitted_1 2 (by rw [e2]; decide) (by decide) (by decide) rfl (by decide) ?_
    refine zr_lload_n X dX6_fitted_46 1 rfl ?_
    refine zr_l2i X dX6_fitted_47 ?_
    refine zr_i2l X dX6_fitted_48 ?_
    exact zr_lret X dX6_fitted_49 ⟨Nat.le_refl _, Nat.le_refl _⟩ ⟨rfl, _, rfl, rfl, h⟩
  rw [if_neg e2] at h
  by_cases e3 : p1 = 3
  · rw [if_pos e3] at h
    refine zr_tableIn (tgt := 62) X dX6_fitted_1 3 (by rw [e3]; decide) (by decide) (by decide) rfl (by decide) ?_
    refine zr_lload_n X dX6_fitted_62 1 rfl ?_
    exact zr_lret X dX6_fitted_63 ⟨Nat.le_refl _, Nat.le_refl _⟩ ⟨rfl, _, rfl, rfl, h⟩
  rw [if_neg e3] at h
  by_cases e4 : p1 = 4
  · rw [if_pos e4] at h
    refine zr_tableIn (tgt := 50) X dX6_fitted_1 4 (by rw [e4]; decide) (by decide) (by decide) rfl (by decide) ?_
    refine zr_lload_n X dX6_fitted_50 1 rfl ?_
    refine zr_lconst (v := 0) X dX6_fitted_51 (by decide) ?_
    refine zr_lcmp X dX6_fitted_52 ?_
    refine zr_if_eq (tgt := 60) X dX6_fitted_53 (by decide) (fun q => ?_) (fun q => ?_)
    · rw [if_pos q] at h
      refine zr_lconst (v := 0) X dX6_fitted_60 (by decide) ?_
      exact zr_lret X dX6_fitted_61 ⟨Nat.le_refl _, Nat.le_refl _⟩ ⟨rfl, _, rfl, rfl, h⟩
    · rw [if_neg q] at h
      refine zr_lconst (v := 1) X dX6_fitted_56 (by decide) ?_
      refine zr_goto (tgt := 61) X dX6_fitted_57 (by decide) ?_
      exact zr_lret X dX6_fitted_61 ⟨Nat.le_refl _, Nat.le_refl _⟩ ⟨rfl, _, rfl, rfl, h⟩
  rw [if_neg e4] at h
  refine zr_tableOut (tgt := 62) X dX6_fitted_1 (by have ze0 := lv_neT e0 (by decide : (0 : Int32).toInt = 0); have ze1 := lv_neT e1 (by decide : (1 : Int32).toInt = 1); have ze2 := lv_neT e2 (by decide : (2 : Int32).toInt = 2); have ze3 := lv_neT e3 (by decide : (3 : Int32).toInt = 3); have ze4 := lv_neT e4 (by decide : (4 : Int32).toInt = 4); omega) (by decide) ?_
  refine zr_lload_n X dX6_fitted_62 1 rfl ?_
  exact zr_lret X dX6_fitted_63 ⟨Nat.le_refl _, Nat.le_refl _⟩ ⟨rfl, _, rfl, rfl, h⟩

set_option maxRecDepth 100000 in
set_option maxHeartbeats 4000000 in
theorem x_fTa_put {l : Launch} {S : State} {D : va_G} {cA : Nat → ClassId} {tb sx : Nat → Nat} (hG : zv_G S D cA tb sx) (d : Nat) (hd : 3 ≤ d) (p1 : Int32) (p2 : Int32) (p3 : Int64) (m : zv_M) (P : zv_M → Prop) (h : zw (fTa_put p1 p2 p3 m) P) : zv_Met l S D cA d 0 0 yX6_put cX6_put 5 none [.ref (S.heap.size + 64), .int p1, .int p2, .long p3] SH0 m (zq_v SH0 P) := by
  refine zv_met false hG pf_X6_put (fun z => by cases z) (Nat.le_of_ble_eq_true rfl) [(0, .ref (S.heap.size + 64)), (1, .int p1), (2, .int p2), (3, .long p3)] rfl (fun p e s mi args below meth c X => ?_)
  rw [fTa_put] at h
  refine zr_aload_n X dX6_put_0 0 rfl ?_
  refine zr_iload_n X dX6_put_1 1 rfl ?_
  refine zr_callV_i (As := [.int p1]) (st := []) (d := d - 1) X dX6_put_2 wm_X6_42 my_X6_isTape mv_X6_isTape zo_64 rfl (Nat.le_of_ble_eq_true rfl) (zRm (by omega)) ⟨Nat.le_refl _, Nat.le_refl _⟩ (x_fTa_isTape hG (d - 1) (by omega) p1 m _ (zw_b1 h)) (fun r1 m2 q => ?_)
  obtain ⟨rfl, h⟩ := q
  refine zr_if_eq (tgt := 37) X dX6_put_5 (by decide) (fun q => ?_) (fun q => ?_)
  · rw [if_pos q] at h
    exact zr_vret X dX6_put_37 ⟨Nat.le_refl _, Nat.le_refl _⟩ ⟨rfl, rfl, h⟩
  · rw [if_neg q] at h
    refine zr_aload_n X dX6_put_8 0 rfl ?_
    refine zr_iload_n X dX6_put_9 1 rfl ?_
    refine zr_iload_n X dX6_put_10 2 rfl ?_
    refine zr_callV_i (As := [.int p1, .int p2]) (st := []) (d := d - 1) X dX6_put_11 wm_X6_46 my_X6_isPlace mv_X6_isPlace zo_64 rfl (Nat.le_of_ble_eq_true rfl) (zRm (by omega)) ⟨Nat.le_refl _, Nat.le_refl _⟩ (x_fTa_isPlace hG (d - 1) (by omega) p1 p2 m _ (zw_b1 h)) (fun r3 m4 q => ?_)
    obtain ⟨rfl, h⟩ := q
    refine zr_if_eq (tgt := 37) X dX6_put_14 (by decide) (fun q => ?_) (fun q => ?_)
    · rw [if_pos q] at h
      exact zr_vret X dX6_put_37 ⟨Nat.le_refl _, Nat.le_refl _⟩ ⟨rfl, rfl, h⟩
    · rw [if_neg q] at h
      refine zr_aload_n X dX6_put_17 0 rfl ?_
      refine zr_getR X dX6_put_18 zd_X6_16 rfl zo_64 zl_64_2 ?_
      refine zr_iload_n X dX6_put_21 1 rfl ?_
      refine zr_bipush (v := 60) X dX6_put_22 (by decide) ?_
      refine zr_imul X dX6_put_24 ?_
      refine zr_iload_n X dX6_put_25 2 rfl ?_
      refine zr_iadd X dX6_put_26 ?_
      refine zr_aload_n X dX6_put_27 0 rfl ?_
      refine zr_iload_n X dX6_put_28 1 rfl ?_
      refine zr_callV_i (As := [.int p1]) (st := [.int ((p1 * 60) + p2), .ref (S.heap.size + 67)]) (d := d - 1) X dX6_put_29 wm_X6_26 my_X6_sortOf mv_X6_sortOf zo_64 rfl (Nat.le_of_ble_eq_true rfl) (zRm (by omega)) ⟨Nat.le_refl _, Nat.le_refl _⟩ (x_fTa_sortOf hG (d - 1) (by omega) p1 m _ (zw_b1 h)) (fun r5 m6 q => ?_)
      obtain ⟨rfl, h⟩ := q
      refine zr_lload_n X dX6_put_32 3 rfl ?_
      refine zr_callS_l (As := [.int r5, .long p3]) (st := [.int ((p1 * 60) + p2), .ref (S.heap.size + 67)]) (d := d - 1) X dX6_put_33 wm_X6_50 ws_X6_fitted my_X6_fitted rfl (Nat.le_of_ble_eq_true rfl) (zRm (by omega)) ⟨Nat.le_refl _, Nat.le_refl _⟩ (x_fTa_fitted hG (d - 1) (by omega) r5 p3 m _ (zw_b1 h)) (fun r7 m8 q => ?_)
      obtain ⟨rfl, h⟩ := q
      obtain ⟨g0, h⟩ := zg_e h
      refine zr_last X dX6_put_36 za_67 (zI_in g0) ?_
      exact zr_vret X dX6_put_37 ⟨Nat.le_refl _, Nat.le_refl _⟩ ⟨rfl, rfl, h⟩

set_option maxRecDepth 100000 in
set_option maxHeartbeats 4000000 in
theorem x_fTa_get {l : Launch} {S : State} {D : va_G} {cA : Nat → ClassId} {tb sx : Nat → Nat} (hG : zv_G S D cA tb sx) (d : Nat) (hd : 3 ≤ d) (p1 : Int32) (p2 : Int32) (m : zv_M) (P : Int64 → Prop) (h : zw (fTa_get p1 p2 m) P) : zv_Met l S D cA d 0 0 yX6_get cX6_get 3 (some .long) [.ref (S.heap.size + 64), .int p1, .int p2] SH0 m (zq_l SH0 (fun v m' => m = m' ∧ P v)) := by
  refine zv_met false hG pf_X6_get (fun z => by cases z) (Nat.le_of_ble_eq_true rfl) [(0, .ref (S.heap.size + 64)), (1, .int p1), (2, .int p2)] rfl (fun p e s mi args below meth c X => ?_)
  rw [fTa_get] at h
  refine zr_aload_n X dX6_get_0 0 rfl ?_
  refine zr_iload_n X dX6_get_1 1 rfl ?_
  refine zr_callV_i (As := [.int p1]) (st := []) (d := d - 1) X dX6_get_2 wm_X6_42 my_X6_isTape mv_X6_isTape zo_64 rfl (Nat.le_of_ble_eq_true rfl) (zRm (by omega)) ⟨Nat.le_refl _, Nat.le_refl _⟩ (x_fTa_isTape hG (d - 1) (by omega) p1 m _ (zw_b1 h)) (fun r1 m2 q => ?_)
  obtain ⟨rfl, h⟩ := q
  refine zr_if_eq (tgt := 31) X dX6_get_5 (by decide) (fun q => ?_) (fun q => ?_)
  · rw [if_pos q] at h
    refine zr_lconst (v := 0) X dX6_get_31 (by decide) ?_
    exact zr_lret X dX6_get_32 ⟨Nat.le_refl _, Nat.le_refl _⟩ ⟨rfl, _, rfl, rfl, h⟩
  · rw [if_neg q] at h
    refine zr_aload_n X dX6_get_8 0 rfl ?_
    refine zr_iload_n X dX6_get_9 1 rfl ?_
    refine zr_iload_n X dX6_get_10 2 rfl ?_
    refine zr_callV_i (As := [.int p1, .int p2]) (st := []) (d := d - 1) X dX6_get_11 wm_X6_46 my_X6_isPlace mv_X6_isPlace zo_64 rfl (Nat.le_of_ble_eq_true rfl) (zRm (by omega)) ⟨Nat.le_refl _, Nat.le_refl _⟩ (x_fTa_isPlace hG (d - 1) (by omega) p1 p2 m _ (zw_b1 h)) (fun r3 m4 q => ?_)
    obtain ⟨rfl, h⟩ := q
    refine zr_if_eq (tgt := 31) X dX6_get_14 (by decide) (fun q => ?_) (fun q => ?_)
    · rw [if_pos q] at h
      refine zr_lconst (v := 0) X dX6_get_31 (by decide) ?_
      exact zr_lret X dX6_get_32 ⟨Nat.le_refl _, Nat.le_refl _⟩ ⟨rfl, _, rfl, rfl, h⟩
    · rw [if_neg q] at h
      refine zr_aload_n X dX6_get_17 0 rfl ?_
      refine zr_getR X dX6_get_18 zd_X6_16 rfl zo_64 zl_64_2 ?_
      refine zr_iload_n X dX6_get_21 1 rfl ?_
      refine zr_bipush (v := 60) X dX6_get_22 (by decide) ?_
      refine zr_imul X dX6_get_24 ?_
      refine zr_iload_n X dX6_get_25 2 rfl ?_
      refine zr_iadd X dX6_get_26 ?_
      obtain ⟨g0, h⟩ := zg_e h
      refine zr_lald X dX6_get_27 za_67 (zI_in g0) ?_
      refine zr_goto (tgt := 32) X dX6_get_28 (by decide) ?_
      exact zr_lret X dX6_get_32 ⟨Nat.le_refl _, Nat.le_refl _⟩ ⟨rfl, _, rfl, rfl, h⟩

set_option maxRecDepth 100000 in
set_option maxHeartbeats 4000000 in
theorem x_fTa_move {l : Launch} {S : State} {D : va_G} {cA : Nat → ClassId} {tb sx : Nat → Nat} (hG : zv_G S D cA tb sx) (d : Nat) (hd : 3 ≤ d) (p1 : Int32) (p2 : Int32) (p3 : Int32) (p4 : Int32) (p5 : Int32) (m : zv_M) (P : zv_M → Prop) (h : zw (fTa_move p1 p2 p3 p4 p5 m) P) : zv_Met l S D cA d 0 0 yX6_move cX6_move 6 none [.ref (S.heap.size + 64), .int p1, .int p2, .int p3, .int p4, .int p5] SH0 m (zq_v SH0 P) := by
  refine zv_met false hG pf_X6_move (fun z => by cases z) (Nat.le_of_ble_eq_true rfl) [(0, .ref (S.heap.size + 64)), (1, .int p1), (2, .int p2), (3, .int p3), (4, .int p4), (5, .int p5)] rfl (fun p e s mi args below meth c X => ?_)
  rw [fTa_move] at h
  refine zr_aload_n X dX6_move_0 0 rfl ?_
  refine zr_iload_n X dX6_move_1 1 rfl ?_
  refine zr_callV_i (As := [.int p1]) (st := []) (d := d - 1) X dX6_move_2 wm_X6_42 my_X6_isTape mv_X6_isTape zo_64 rfl (Nat.le_of_ble_eq_true rfl) (zRm (by omega)) ⟨Nat.le_refl _, Nat.le_refl _⟩ (x_fTa_isTape hG (d - 1) (by omega) p1 m _ (zw_b1 h)) (fun r1 m2 q => ?_)
  obtain ⟨rfl, h⟩ := q
  refine zr_if_eq (tgt := 65) X dX6_move_5 (by decide) (fun q => ?_) (fun q => ?_)
  · rw [if_pos q] at h
    exact zr_vret X dX6_move_65 ⟨Nat.le_refl _, Nat.le_refl _⟩ ⟨rfl, rfl, h⟩
  · rw [if_neg q] at h
    refine zr_aload_n X dX6_move_8 0 rfl ?_
    refine zr_iload_n X dX6_move_9 3 rfl ?_
    refine zr_callV_i (As := [.int p3]) (st := []) (d := d - 1) X dX6_move_10 wm_X6_42 my_X6_isTape mv_X6_isTape zo_64 rfl (Nat.le_of_ble_eq_true rfl) (zRm (by omega)) ⟨Nat.le_refl _, Nat.le_refl _⟩ (x_fTa_isTape hG (d - 1) (by omega) p3 m _ (zw_b1 h)) (fun r3 m4 q => ?_)
    obtain ⟨rfl, h⟩ := q
    refine zr_if_eq (tgt := 65) X dX6_move_13 (by decide) (fun q => ?_) (fun q => ?_)
    · rw [if_pos q] at h
      exact zr_vret X dX6_move_65 ⟨Nat.le_refl _, Nat.le_refl _⟩ ⟨rfl, rfl, h⟩
    · rw [if_neg q] at h
      refine zr_aload_n X dX6_move_16 0 rfl ?_
      refine zr_iload_n X dX6_move_17 1 rfl ?_
      refine zr_iload_n X dX6_move_18 2 rfl ?_
      refine zr_iload X dX6_move_19 5 rfl ?_
      refine zr_callV_i (As := [.int p1, .int p2, .int p5]) (st := []) (d := d - 1) X dX6_move_21 wm_X6_54 my_X6_hasRun mv_X6_hasRun zo_64 rfl (Nat.le_of_ble_eq_true rfl) (zRm (by omega)) ⟨Nat.le_refl _, Nat.le_refl _⟩ (x_fTa_hasRun hG (d - 1) (by omega) p1 p2 p5 m _ (zw_b1 h)) (fun r5 m6 q => ?_)
      obtain ⟨rfl, h⟩ := q
      refine zr_if_eq (tgt := 65) X dX6_move_24 (by decide) (fun q => ?_) (fun q => ?_)
      · rw [if_pos q] at h
        exact zr_vret X dX6_move_65 ⟨Nat.le_refl _, Nat.le_refl _⟩ ⟨rfl, rfl, h⟩
      · rw [if_neg q] at h
        refine zr_aload_n X dX6_move_27 0 rfl ?_
        refine zr_iload_n X dX6_move_28 3 rfl ?_
        refine zr_iload X dX6_move_29 4 rfl ?_
        refine zr_iload X dX6_move_31 5 rfl ?_
        refine zr_callV_i (As := [.int p3, .int p4, .int p5]) (st := []) (d := d - 1) X dX6_move_33 wm_X6_54 my_X6_hasRun mv_X6_hasRun zo_64 rfl (Nat.le_of_ble_eq_true rfl) (zRm (by omega)) ⟨Nat.le_refl _, Nat.le_refl _⟩ (x_fTa_hasRun hG (d - 1) (by omega) p3 p4 p5 m _ (zw_b1 h)) (fun r7 m8 q => ?_)
        obtain ⟨rfl, h⟩ := q
        refine zr_if_eq (tgt := 65) X dX6_move_36 (by decide) (fun q => ?_) (fun q => ?_)
        · rw [if_pos q] at h
          exact zr_vret X dX6_move_65 ⟨Nat.le_refl _, Nat.le_refl _⟩ ⟨rfl, rfl, h⟩
        · rw [if_neg q] at h
          refine zr_aload_n X dX6_move_39 0 rfl ?_
          refine zr_getR X dX6_move_40 zd_X6_16 rfl zo_64 zl_64_2 ?_
          refine zr_iload_n X dX6_move_43 1 rfl ?_
          refine zr_bipush (v := 60) X dX6_move_44 (by decide) ?_
          refine zr_imul X dX6_move_46 ?_
          refine zr_iload_n X dX6_move_47 2 rfl ?_
          refine zr_iadd X dX6_move_48 ?_
          refine zr_aload_n X dX6_move_49 0 rfl ?_
          refine zr_getR X dX6_move_50 zd_X6_16 rfl zo_64 zl_64_2 ?_
          refine zr_iload_n X dX6_move_53 3 rfl ?_
          refine zr_bipush (v := 60) X dX6_move_54 (by decide) ?_
          refine zr_imul X dX6_move_56 ?_
          refine zr_iload X dX6_move_57 4 rfl ?_
          refine zr_iadd X dX6_move_59 ?_
          refine zr_iload X dX6_move_60 5 rfl ?_
          obtain ⟨g0, h⟩ := zg_e h
          refine zr_copyl X dX6_move_62 X.2.2.1 wm_X6_58 zsy_n zsy_s zsy_i za_67 za_67 (zKc_1 g0) (zKc_2 g0) (zKc_3 g0) (zKc_4 g0) (zKc_5 g0) (by show 1 ≤ d; omega) (zRm2 (by omega)) ?_
          exact zr_vret X dX6_move_65 ⟨Nat.le_refl _, Nat.le_refl _⟩ ⟨rfl, rfl, h⟩

set_option maxRecDepth 100000 in
set_option maxHeartbeats 4000000 in
theorem x_fN_allSquares {l : Launch} {S : State} {D : va_G} {cA : Nat → ClassId} {tb sx : Nat → Nat} (hG : zv_G S D cA tb sx) (d : Nat) (hd : 1 ≤ d) (p1 : Int32) (m : zv_M) (P : Int32 → Prop) (h : zw (fN_allSquares p1) P) : zv_Met l S D cA d 0 0 yX10_allSquares cX10_allSquares 1 (some .int) [.int p1] SH0 m (zq_i SH0 (fun v m' => m = m' ∧ P v)) := by
  refine zv_met false hG pf_X10_allSquares (fun z => by cases z) (Nat.le_of_ble_eq_true rfl) [(0, .int p1)] rfl (fun p e s mi args below meth c X => ?_)
  rw [fN_allSquares] at h
  refine zr_iload_n X dX10_allSquares_0 0 rfl ?_
  refine zr_if_lt (tgt := 9) X dX10_allSquares_1 (by decide) (fun q => ?_) (fun q => ?_)
  · rw [if_pos q] at h
    refine zr_iconst (v := 0) X dX10_allSquares_9 (by decide) ?_
    refine zr_goto (tgt := 20) X dX10_allSquares_10 (by decide) ?_
    exact zr_iret X dX10_allSquares_20 rfl ⟨Nat.le_refl _, Nat.le_refl _⟩ ⟨rfl, _, rfl, rfl, h⟩
  · rw [if_neg q] at h
    refine zr_iload_n X dX10_allSquares_4 0 rfl ?_
    refine zr_iconst (v := 5) X dX10_allSquares_5 (by decide) ?_
    refine zr_icmp_le (tgt := 13) X dX10_allSquares_6 (by decide) (fun q => ?_) (fun q => ?_)
    · rw [if_neg q] at h
      refine zr_iconst (v := 1) X dX10_allSquares_13 (by decide) ?_
      refine zr_iload_n X dX10_allSquares_14 0 rfl ?_
      refine zr_iload_n X dX10_allSquares_15 0 rfl ?_
      refine zr_imul X dX10_allSquares_16 ?_
      refine zr_ishl X dX10_allSquares_17 ?_
      refine zr_iconst (v := 1) X dX10_allSquares_18 (by decide) ?_
      refine zr_isub X dX10_allSquares_19 ?_
      exact zr_iret X dX10_allSquares_20 rfl ⟨Nat.le_refl _, Nat.le_refl _⟩ ⟨rfl, _, rfl, rfl, h⟩
    · rw [if_pos q] at h
      refine zr_iconst (v := 0) X dX10_allSquares_9 (by decide) ?_
      refine zr_goto (tgt := 20) X dX10_allSquares_10 (by decide) ?_
      exact zr_iret X dX10_allSquares_20 rfl ⟨Nat.le_refl _, Nat.le_refl _⟩ ⟨rfl, _, rfl, rfl, h⟩

