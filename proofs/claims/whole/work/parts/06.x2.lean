set_option maxRecDepth 100000 in
set_option maxHeartbeats 4000000 in
theorem x_fN_fitting {l : Launch} {S : State} {D : va_G} {cA : Nat → ClassId} {tb sx : Nat → Nat} (hG : zv_G S D cA tb sx) (d : Nat) (hd : 7 ≤ d) (p1 : Int32) (m : zv_M) (P : Int32 → zv_M → Prop) (h : zw2 (fN_fitting p1 m) P) : zv_Met l S D cA d 0 0 yX10_fitting cX10_fitting 6 (some .int) [.ref (S.heap.size + 0), .int p1] SH0 m (zq_i SH0 P) := by
  refine zv_met false hG pf_X10_fitting (fun z => by cases z) (Nat.le_of_ble_eq_true rfl) [(0, .ref (S.heap.size + 0)), (1, .int p1)] rfl (fun p e s mi args below meth c X => ?_)
  rw [fN_fitting] at h
  refine zr_aload_n X dX10_fitting_0 0 rfl ?_
  refine zr_callV_v (As := []) (st := []) (d := d - 1) X dX10_fitting_1 wm_X10_202 my_X10_lookByMen mv_X10_lookByMen zo_0 rfl (Nat.le_of_ble_eq_true rfl) (zRm (by omega)) ⟨Nat.le_refl _, Nat.le_refl _⟩ (x_fN_lookByMen hG (d - 1) (by omega) m _ (zw_b12 h)) (fun m1 q => ?_)
  replace h := q
  refine zr_aload_n X dX10_fitting_4 0 rfl ?_
  refine zr_iload_n X dX10_fitting_5 1 rfl ?_
  refine zr_callV_v (As := [.int p1]) (st := []) (d := d - 1) X dX10_fitting_6 wm_X10_236 my_X10_lookByPlan mv_X10_lookByPlan zo_0 rfl (Nat.le_of_ble_eq_true rfl) (zRm (by omega)) ⟨Nat.le_refl _, Nat.le_refl _⟩ (x_fN_lookByPlan hG (d - 1) (by omega) p1 m1 _ (zw_b12 h)) (fun m2 q => ?_)
  replace h := q
  refine zr_aload_n X dX10_fitting_9 0 rfl ?_
  refine zr_getR X dX10_fitting_10 zd_X10_12 rfl zo_0 zl_0_0 ?_
  refine zr_callV_i (As := []) (st := []) (d := d - 1) X dX10_fitting_13 wm_X10_162 my_X5_menBits mv_X5_menBits zo_1 rfl (Nat.le_of_ble_eq_true rfl) (zRm (by omega)) ⟨Nat.le_refl _, Nat.le_refl _⟩ (x_fSt_menBits hG (d - 1) (by omega) 1 zo_1 m2 _ (zw_b12 h)) (fun r3 m4 q => ?_)
  obtain ⟨rfl, h⟩ := q
  refine zr_istore_n (lo' := [(2, .int r3), (0, .ref (S.heap.size + 0)), (1, .int p1)]) X dX10_fitting_16 (by decide) rfl ?_
  refine zr_aload_n X dX10_fitting_17 1 rfl ?_
  refine zr_callV_i (As := []) (st := []) (d := d - 1) X dX10_fitting_18 wm_X10_186 my_X10_openSquares mv_X10_openSquares zo_0 rfl (Nat.le_of_ble_eq_true rfl) (zRm (by omega)) ⟨Nat.le_refl _, Nat.le_refl _⟩ (x_fN_openSquares hG (d - 1) (by omega) m2 _ (zw_b12 h)) (fun r5 m6 q => ?_)
  obtain ⟨rfl, h⟩ := q
  refine zr_aload_n X dX10_fitting_21 1 rfl ?_
  refine zr_getR X dX10_fitting_22 zd_X10_50 rfl zo_0 zl_0_7 ?_
  refine zr_callV_i (As := []) (st := [.int r5]) (d := d - 1) X dX10_fitting_25 wm_X10_377 my_X4_together mv_X4_together zo_43 rfl (Nat.le_of_ble_eq_true rfl) (zRm (by omega)) ⟨Nat.le_refl _, Nat.le_refl _⟩ (x_fSi_together hG (d - 1) (by omega) 43 zo_43 m2 _ (zw_b12 h)) (fun r7 m8 q => ?_)
  obtain ⟨rfl, h⟩ := q
  refine zr_iconst (v := (-1)) X dX10_fitting_28 (by decide) ?_
  refine zr_ixor X dX10_fitting_29 ?_
  refine zr_iand X dX10_fitting_30 ?_
  refine zr_istore_n (lo' := [(3, .int (r5 &&& (r7 ^^^ (-1)))), (2, .int r3), (0, .ref (S.heap.size + 0)), (1, .int p1)]) X dX10_fitting_31 (by decide) rfl ?_
  refine zr_iconst (v := 0) X dX10_fitting_32 (by decide) ?_
  refine zr_istore (lo' := [(4, .int 0), (3, .int (r5 &&& (r7 ^^^ (-1)))), (2, .int r3), (0, .ref (S.heap.size + 0)), (1, .int p1)]) X dX10_fitting_33 (by decide) rfl ?_
  refine zr_iconst (v := 0) X dX10_fitting_35 (by decide) ?_
  refine zr_istore (lo' := [(5, .int 0), (4, .int 0), (3, .int (r5 &&& (r7 ^^^ (-1)))), (2, .int r3), (0, .ref (S.heap.size + 0)), (1, .int p1)]) X dX10_fitting_36 (by decide) rfl ?_
  refine zr_sub [4, 3, 2, 1, 0] rfl ?_
  refine zl_w2 (fun a10 a11 => zv_V S D cA p l e (zv_rm d 0 0) s mi args below meth c 6 (MQ below (zv_Q S D cA (zq_i SH0 P)) args s 0 0 (zv_fr S)) 0 0 38 [(0, .ref (S.heap.size + 0)), (2, .int r3), (3, .int (r5 &&& (r7 ^^^ (-1)))), (4, .int a10), (5, .int a11)] [] SH0 m2) (fN_fitting_l38 m2 r3 r5 r7) _ (fun P9 hl9 hr9 a10 a11 h => ?_) zFU 0 0 (zw_b12 h)
  rw [fN_fitting_l38] at h
  refine zr_iload X dX10_fitting_38 4 rfl ?_
  refine zr_bipush (v := 25) X dX10_fitting_40 (by decide) ?_
  refine zr_icmp_ge (tgt := 83) X dX10_fitting_42 (by decide) (fun q => ?_) (fun q => ?_)
  · rw [if_neg q] at h
    refine zr_iload X dX10_fitting_83 3 rfl ?_
    have h := hr9 _ h
    exact zr_iret X dX10_fitting_85 rfl ⟨Nat.le_refl _, Nat.le_refl _⟩ ⟨rfl, _, rfl, h⟩
  · rw [if_pos q] at h
    refine zr_iload_n X dX10_fitting_45 2 rfl ?_
    refine zr_iload X dX10_fitting_46 4 rfl ?_
    refine zr_callS_i (As := [.int (r5 &&& (r7 ^^^ (-1))), .int a11]) (st := []) (d := d - 1) X dX10_fitting_48 wm_X10_189 ws_X10_isIn my_X10_isIn rfl (Nat.le_of_ble_eq_true rfl) (zRm (by omega)) ⟨Nat.le_refl _, Nat.le_refl _⟩ (x_fN_isIn hG (d - 1) (by omega) (r5 &&& (r7 ^^^ (-1))) a11 m2 _ (zw_b1 h)) (fun r12 m13 q => ?_)
    obtain ⟨rfl, h⟩ := q
    have hJ77 : ∀ (a14 : Int32), zw (fN_fitting_j77 a11 a14) P9 → zv_V S D cA p l e (zv_rm d 0 0) s mi args below meth c 6 (MQ below (zv_Q S D cA (zq_i SH0 P)) args s 0 0 (zv_fr S)) 0 0 77 [(0, .ref (S.heap.size + 0)), (2, .int r3), (3, .int (r5 &&& (r7 ^^^ (-1)))), (4, .int a14), (5, .int a11)] [] SH0 m2 := by
      intro a14 h
      rw [fN_fitting_j77] at h
      refine zr_iinc (v := a11 + 1) (lo' := [(5, .int (a11 + 1)), (0, .ref (S.heap.size + 0)), (2, .int r3), (3, .int (r5 &&& (r7 ^^^ (-1)))), (4, .int a14)]) X dX10_fitting_77 4 rfl rfl (by decide) rfl ?_
      refine zr_goto (tgt := 38) X dX10_fitting_80 (by decide) ?_
      have h := hl9 _ h
      exact zr_sub [1, 2, 3, 4, 0] rfl h
    refine zr_if_eq (tgt := 77) X dX10_fitting_51 (by decide) (fun q => ?_) (fun q => ?_)
    · rw [if_pos q] at h
      exact zr_sub [0, 1, 2, 3, 4] rfl (hJ77 a10 h)
    · rw [if_neg q] at h
      refine zr_aload_n X dX10_fitting_54 0 rfl ?_
      refine zr_getR X dX10_fitting_55 zd_X10_54 rfl zo_0 zl_0_8 ?_
      refine zr_iload X dX10_fitting_58 4 rfl ?_
      refine zr_callV_i (As := [.int a11]) (st := []) (d := d - 1) X dX10_fitting_60 wm_X10_298 my_X4_viewFrom mv_X4_viewFrom zo_46 rfl (Nat.le_of_ble_eq_true rfl) (zRm (by omega)) ⟨Nat.le_refl _, Nat.le_refl _⟩ (x_fSi_viewFrom hG (d - 1) (by omega) 46 zo_46 a11 m2 _ (zw_b1 h)) (fun r15 m16 q => ?_)
      obtain ⟨rfl, h⟩ := q
      refine zr_iload_n X dX10_fitting_63 1 rfl ?_
      refine zr_iand X dX10_fitting_64 ?_
      refine zr_if_ne (tgt := 77) X dX10_fitting_65 (by decide) (fun q => ?_) (fun q => ?_)
      · rw [if_neg q] at h
        exact zr_sub [0, 1, 2, 3, 4] rfl (hJ77 a10 h)
      · rw [if_pos q] at h
        refine zr_iload X dX10_fitting_68 3 rfl ?_
        refine zr_iconst (v := 1) X dX10_fitting_70 (by decide) ?_
        refine zr_iload X dX10_fitting_71 4 rfl ?_
        refine zr_ishl X dX10_fitting_73 ?_
        refine zr_ior X dX10_fitting_74 ?_
        refine zr_istore (lo' := [(4, .int (a10 ||| (1 <<< (a11 &&& 31)))), (0, .ref (S.heap.size + 0)), (2, .int r3), (3, .int (r5 &&& (r7 ^^^ (-1)))), (5, .int a11)]) X dX10_fitting_75 (by decide) rfl ?_
        exact zr_sub [1, 2, 3, 0, 4] rfl (hJ77 (a10 ||| (1 <<< (a11 &&& 31))) h)

set_option maxRecDepth 100000 in
set_option maxHeartbeats 4000000 in
theorem x_fN_set {l : Launch} {S : State} {D : va_G} {cA : Nat → ClassId} {tb sx : Nat → Nat} (hG : zv_G S D cA tb sx) (d : Nat) (hd : 8 ≤ d) (p1 : Int32) (p2 : Int32) (m : zv_M) (P : Int32 → zv_M → Prop) (h : zw2 (fN_set p1 p2 m) P) : zv_Met l S D cA d 0 0 yX10_set cX10_set 4 (some .int) [.ref (S.heap.size + 0), .int p1, .int p2] SH0 m (zq_i SH0 P) := by
  refine zv_met false hG pf_X10_set (fun z => by cases z) (Nat.le_of_ble_eq_true rfl) [(0, .ref (S.heap.size + 0)), (1, .int p1), (2, .int p2)] rfl (fun p e s mi args below meth c X => ?_)
  rw [fN_set] at h
  refine zr_aload_n X dX10_set_0 0 rfl ?_
  refine zr_iload_n X dX10_set_1 1 rfl ?_
  refine zr_callV_i (As := [.int p1]) (st := []) (d := d - 1) X dX10_set_2 wm_X10_119 my_X10_isPlan mv_X10_isPlan zo_0 rfl (Nat.le_of_ble_eq_true rfl) (zRm (by omega)) ⟨Nat.le_refl _, Nat.le_refl _⟩ (x_fN_isPlan hG (d - 1) (by omega) p1 m _ (zw_b12 h)) (fun r1 m2 q => ?_)
  obtain ⟨rfl, h⟩ := q
  refine zr_if_eq (tgt := 16) X dX10_set_5 (by decide) (fun q => ?_) (fun q => ?_)
  · rw [if_pos q] at h
    refine zr_iconst (v := (-1)) X dX10_set_16 (by decide) ?_
    exact zr_iret X dX10_set_17 rfl ⟨Nat.le_refl _, Nat.le_refl _⟩ ⟨rfl, _, rfl, h⟩
  · rw [if_neg q] at h
    refine zr_aload_n X dX10_set_8 0 rfl ?_
    refine zr_iload_n X dX10_set_9 2 rfl ?_
    refine zr_callV_i (As := [.int p2]) (st := []) (d := d - 1) X dX10_set_10 wm_X10_183 my_X10_isSquare mv_X10_isSquare zo_0 rfl (Nat.le_of_ble_eq_true rfl) (zRm (by omega)) ⟨Nat.le_refl _, Nat.le_refl _⟩ (x_fN_isSquare hG (d - 1) (by omega) p2 m _ (zw_b12 h)) (fun r3 m4 q => ?_)
    obtain ⟨rfl, h⟩ := q
    refine zr_if_ne (tgt := 18) X dX10_set_13 (by decide) (fun q => ?_) (fun q => ?_)
    · rw [if_neg q] at h
      refine zr_aload_n X dX10_set_18 0 rfl ?_
      refine zr_callV_i (As := []) (st := []) (d := d - 1) X dX10_set_19 wm_X10_186 my_X10_openSquares mv_X10_openSquares zo_0 rfl (Nat.le_of_ble_eq_true rfl) (zRm (by omega)) ⟨Nat.le_refl _, Nat.le_refl _⟩ (x_fN_openSquares hG (d - 1) (by omega) m _ (zw_b12 h)) (fun r5 m6 q => ?_)
      obtain ⟨rfl, h⟩ := q
      refine zr_iload_n X dX10_set_22 2 rfl ?_
      refine zr_callS_i (As := [.int r5, .int p2]) (st := []) (d := d - 1) X dX10_set_23 wm_X10_189 ws_X10_isIn my_X10_isIn rfl (Nat.le_of_ble_eq_true rfl) (zRm (by omega)) ⟨Nat.le_refl _, Nat.le_refl _⟩ (x_fN_isIn hG (d - 1) (by omega) r5 p2 m _ (zw_b12 h)) (fun r7 m8 q => ?_)
      obtain ⟨rfl, h⟩ := q
      refine zr_if_ne (tgt := 32) X dX10_set_26 (by decide) (fun q => ?_) (fun q => ?_)
      · rw [if_neg q] at h
        refine zr_aload_n X dX10_set_32 0 rfl ?_
        refine zr_iload_n X dX10_set_33 1 rfl ?_
        refine zr_callV_i (As := [.int p1]) (st := []) (d := d - 1) X dX10_set_34 wm_X10_193 my_X10_fitting mv_X10_fitting zo_0 rfl (Nat.le_of_ble_eq_true rfl) (zRm (by omega)) ⟨Nat.le_refl _, Nat.le_refl _⟩ (x_fN_fitting hG (d - 1) (by omega) p1 m _ (zw_b22 h)) (fun r9 m10 q => ?_)
        replace h := q
        refine zr_iload_n X dX10_set_37 2 rfl ?_
        refine zr_callS_i (As := [.int r9, .int p2]) (st := []) (d := d - 1) X dX10_set_38 wm_X10_189 ws_X10_isIn my_X10_isIn rfl (Nat.le_of_ble_eq_true rfl) (zRm (by omega)) ⟨Nat.le_refl _, Nat.le_refl _⟩ (x_fN_isIn hG (d - 1) (by omega) r9 p2 m10 _ (zw_b12 h)) (fun r11 m12 q => ?_)
        obtain ⟨rfl, h⟩ := q
        refine zr_istore_n (lo' := [(3, .int r11), (0, .ref (S.heap.size + 0)), (1, .int p1), (2, .int p2)]) X dX10_set_41 (by decide) rfl ?_
        refine zr_aload_n X dX10_set_42 1 rfl ?_
        refine zr_getR X dX10_set_43 zd_X10_12 rfl zo_0 zl_0_0 ?_
        refine zr_iload_n X dX10_set_46 3 rfl ?_
        refine zr_iload_n X dX10_set_47 2 rfl ?_
        refine zr_callV_v (As := [.int p2, .int p1]) (st := []) (d := d - 1) X dX10_set_48 wm_X10_196 my_X5_putMan mv_X5_putMan zo_1 rfl (Nat.le_of_ble_eq_true rfl) (zRm (by omega)) ⟨Nat.le_refl _, Nat.le_refl _⟩ (x_fSt_putMan hG (d - 1) (by omega) 1 zo_1 p2 p1 m10 _ (zw_b12 h)) (fun m13 q => ?_)
        replace h := q
        refine zr_iload_n X dX10_set_51 0 rfl ?_
        refine zr_if_eq (tgt := 59) X dX10_set_52 (by decide) (fun q => ?_) (fun q => ?_)
        · rw [if_pos q] at h
          refine zr_iconst (v := 0) X dX10_set_59 (by decide) ?_
          exact zr_iret X dX10_set_60 rfl ⟨Nat.le_refl _, Nat.le_refl _⟩ ⟨rfl, _, rfl, h⟩
        · rw [if_neg q] at h
          refine zr_iconst (v := 1) X dX10_set_55 (by decide) ?_
          refine zr_goto (tgt := 60) X dX10_set_56 (by decide) ?_
          exact zr_iret X dX10_set_60 rfl ⟨Nat.le_refl _, Nat.le_refl _⟩ ⟨rfl, _, rfl, h⟩
      · rw [if_pos q] at h
        refine zr_bipush (v := (-3)) X dX10_set_29 (by decide) ?_
        exact zr_iret X dX10_set_31 rfl ⟨Nat.le_refl _, Nat.le_refl _⟩ ⟨rfl, _, rfl, h⟩
    · rw [if_pos q] at h
      refine zr_iconst (v := (-1)) X dX10_set_16 (by decide) ?_
      exact zr_iret X dX10_set_17 rfl ⟨Nat.le_refl _, Nat.le_refl _⟩ ⟨rfl, _, rfl, h⟩

set_option maxRecDepth 100000 in
set_option maxHeartbeats 4000000 in
theorem x_fN_take {l : Launch} {S : State} {D : va_G} {cA : Nat → ClassId} {tb sx : Nat → Nat} (hG : zv_G S D cA tb sx) (d : Nat) (hd : 3 ≤ d) (p1 : Int32) (m : zv_M) (P : Int32 → zv_M → Prop) (h : zw2 (fN_take p1 m) P) : zv_Met l S D cA d 0 0 yX10_take cX10_take 3 (some .int) [.ref (S.heap.size + 0), .int p1] SH0 m (zq_i SH0 P) := by
  refine zv_met false hG pf_X10_take (fun z => by cases z) (Nat.le_of_ble_eq_true rfl) [(0, .ref (S.heap.size + 0)), (1, .int p1)] rfl (fun p e s mi args below meth c X => ?_)
  rw [fN_take] at h
  refine zr_aload_n X dX10_take_0 0 rfl ?_
  refine zr_iload_n X dX10_take_1 1 rfl ?_
  refine zr_callV_i (As := [.int p1]) (st := []) (d := d - 1) X dX10_take_2 wm_X10_183 my_X10_isSquare mv_X10_isSquare zo_0 rfl (Nat.le_of_ble_eq_true rfl) (zRm (by omega)) ⟨Nat.le_refl _, Nat.le_refl _⟩ (x_fN_isSquare hG (d - 1) (by omega) p1 m _ (zw_b12 h)) (fun r1 m2 q => ?_)
  obtain ⟨rfl, h⟩ := q
  refine zr_if_ne (tgt := 10) X dX10_take_5 (by decide) (fun q => ?_) (fun q => ?_)
  · rw [if_neg q] at h
    refine zr_aload_n X dX10_take_10 0 rfl ?_
    refine zr_getR X dX10_take_11 zd_X10_12 rfl zo_0 zl_0_0 ?_
    refine zr_iload_n X dX10_take_14 1 rfl ?_
    refine zr_callV_i (As := [.int p1]) (st := []) (d := d - 1) X dX10_take_15 wm_X10_199 my_X5_manOn mv_X5_manOn zo_1 rfl (Nat.le_of_ble_eq_true rfl) (zRm (by omega)) ⟨Nat.le_refl _, Nat.le_refl _⟩ (x_fSt_manOn hG (d - 1) (by omega) 1 zo_1 p1 m _ (zw_b12 h)) (fun r3 m4 q => ?_)
    obtain ⟨rfl, h⟩ := q
    refine zr_istore_n (lo' := [(2, .int r3), (0, .ref (S.heap.size + 0)), (1, .int p1)]) X dX10_take_18 (by decide) rfl ?_
    refine zr_iload_n X dX10_take_19 0 rfl ?_
    refine zr_if_ge (tgt := 26) X dX10_take_20 (by decide) (fun q => ?_) (fun q => ?_)
    · rw [if_neg q] at h
      refine zr_aload_n X dX10_take_26 1 rfl ?_
      refine zr_getR X dX10_take_27 zd_X10_12 rfl zo_0 zl_0_0 ?_
      refine zr_iload_n X dX10_take_30 2 rfl ?_
      refine zr_iconst (v := (-1)) X dX10_take_31 (by decide) ?_
      refine zr_callV_v (As := [.int p1, .int (-1)]) (st := []) (d := d - 1) X dX10_take_32 wm_X10_196 my_X5_putMan mv_X5_putMan zo_1 rfl (Nat.le_of_ble_eq_true rfl) (zRm (by omega)) ⟨Nat.le_refl _, Nat.le_refl _⟩ (x_fSt_putMan hG (d - 1) (by omega) 1 zo_1 p1 (-1) m _ (zw_b12 h)) (fun m5 q => ?_)
      replace h := q
      refine zr_iload_n X dX10_take_35 0 rfl ?_
      exact zr_iret X dX10_take_36 rfl ⟨Nat.le_refl _, Nat.le_refl _⟩ ⟨rfl, _, rfl, h⟩
    · rw [if_pos q] at h
      refine zr_bipush (v := (-3)) X dX10_take_23 (by decide) ?_
      exact zr_iret X dX10_take_25 rfl ⟨Nat.le_refl _, Nat.le_refl _⟩ ⟨rfl, _, rfl, h⟩
  · rw [if_pos q] at h
    refine zr_iconst (v := (-1)) X dX10_take_8 (by decide) ?_
    exact zr_iret X dX10_take_9 rfl ⟨Nat.le_refl _, Nat.le_refl _⟩ ⟨rfl, _, rfl, h⟩

set_option maxRecDepth 100000 in
set_option maxHeartbeats 4000000 in
theorem x_fN_at {l : Launch} {S : State} {D : va_G} {cA : Nat → ClassId} {tb sx : Nat → Nat} (hG : zv_G S D cA tb sx) (d : Nat) (hd : 7 ≤ d) (p1 : Int32) (p2 : Int32) (m : zv_M) (P : Int32 → zv_M → Prop) (h : zw2 (fN_at p1 p2 m) P) : zv_Met l S D cA d 0 0 yX10_at cX10_at 4 (some .int) [.ref (S.heap.size + 0), .int p1, .int p2] SH0 m (zq_i SH0 P) := by
  refine zv_met false hG pf_X10_at (fun z => by cases z) (Nat.le_of_ble_eq_true rfl) [(0, .ref (S.heap.size + 0)), (1, .int p1), (2, .int p2)] rfl (fun p e s mi args below meth c X => ?_)
  rw [fN_at] at h
  refine zr_aload_n X dX10_at_0 0 rfl ?_
  refine zr_iload_n X dX10_at_1 1 rfl ?_
  refine zr_callV_i (As := [.int p1]) (st := []) (d := d - 1) X dX10_at_2 wm_X10_183 my_X10_isSquare mv_X10_isSquare zo_0 rfl (Nat.le_of_ble_eq_true rfl) (zRm (by omega)) ⟨Nat.le_refl _, Nat.le_refl _⟩ (x_fN_isSquare hG (d - 1) (by omega) p1 m _ (zw_b12 h)) (fun r1 m2 q => ?_)
  obtain ⟨rfl, h⟩ := q
  refine zr_if_eq (tgt := 17) X dX10_at_5 (by decide) (fun q => ?_) (fun q => ?_)
  · rw [if_pos q] at h
    refine zr_iconst (v := (-1)) X dX10_at_17 (by decide) ?_
    exact zr_iret X dX10_at_18 rfl ⟨Nat.le_refl _, Nat.le_refl _⟩ ⟨rfl, _, rfl, h⟩
  · rw [if_neg q] at h
    refine zr_iload_n X dX10_at_8 2 rfl ?_
    refine zr_if_lt (tgt := 17) X dX10_at_9 (by decide) (fun q => ?_) (fun q => ?_)
    · rw [if_pos q] at h
      refine zr_iconst (v := (-1)) X dX10_at_17 (by decide) ?_
      exact zr_iret X dX10_at_18 rfl ⟨Nat.le_refl _, Nat.le_refl _⟩ ⟨rfl, _, rfl, h⟩
    · rw [if_neg q] at h
      refine zr_iload_n X dX10_at_12 2 rfl ?_
      refine zr_iconst (v := 2) X dX10_at_13 (by decide) ?_
      refine zr_icmp_le (tgt := 19) X dX10_at_14 (by decide) (fun q => ?_) (fun q => ?_)
      · rw [if_neg q] at h
        refine zr_iload_n X dX10_at_19 2 rfl ?_
        refine zr_iconst (v := 1) X dX10_at_20 (by decide) ?_
        refine zr_icmp_ne (tgt := 37) X dX10_at_21 (by decide) (fun q => ?_) (fun q => ?_)
        · rw [if_neg q] at h
          refine zr_aload_n X dX10_at_37 0 rfl ?_
          refine zr_getR X dX10_at_38 zd_X10_12 rfl zo_0 zl_0_0 ?_
          refine zr_iload_n X dX10_at_41 1 rfl ?_
          refine zr_callV_i (As := [.int p1]) (st := []) (d := d - 1) X dX10_at_42 wm_X10_199 my_X5_manOn mv_X5_manOn zo_1 rfl (Nat.le_of_ble_eq_true rfl) (zRm (by omega)) ⟨Nat.le_refl _, Nat.le_refl _⟩ (x_fSt_manOn hG (d - 1) (by omega) 1 zo_1 p1 m _ (zw_b12 h)) (fun r3 m4 q => ?_)
          obtain ⟨rfl, h⟩ := q
          refine zr_istore_n (lo' := [(3, .int r3), (0, .ref (S.heap.size + 0)), (1, .int p1), (2, .int p2)]) X dX10_at_45 (by decide) rfl ?_
          refine zr_iload_n X dX10_at_46 0 rfl ?_
          refine zr_if_ge (tgt := 53) X dX10_at_47 (by decide) (fun q => ?_) (fun q => ?_)
          · rw [if_neg q] at h
            refine zr_iload_n X dX10_at_53 3 rfl ?_
            refine zr_if_ne (tgt := 61) X dX10_at_54 (by decide) (fun q => ?_) (fun q => ?_)
            · rw [if_neg q] at h
              refine zr_aload_n X dX10_at_61 1 rfl ?_
              refine zr_iload_n X dX10_at_62 0 rfl ?_
              refine zr_iload_n X dX10_at_63 2 rfl ?_
              refine zr_callV_i (As := [.int r3, .int p1]) (st := []) (d := d - 1) X dX10_at_64 wm_X10_208 my_X10_viewOf mv_X10_viewOf zo_0 rfl (Nat.le_of_ble_eq_true rfl) (zRm (by omega)) ⟨Nat.le_refl _, Nat.le_refl _⟩ (x_fN_viewOf hG (d - 1) (by omega) r3 p1 m _ (zw_b12 h)) (fun r5 m6 q => ?_)
              obtain ⟨rfl, h⟩ := q
              exact zr_iret X dX10_at_67 rfl ⟨Nat.le_refl _, Nat.le_refl _⟩ ⟨rfl, _, rfl, h⟩
            · rw [if_pos q] at h
              refine zr_iload_n X dX10_at_57 0 rfl ?_
              refine zr_goto (tgt := 67) X dX10_at_58 (by decide) ?_
              exact zr_iret X dX10_at_67 rfl ⟨Nat.le_refl _, Nat.le_refl _⟩ ⟨rfl, _, rfl, h⟩
          · rw [if_pos q] at h
            refine zr_bipush (v := (-5)) X dX10_at_50 (by decide) ?_
            exact zr_iret X dX10_at_52 rfl ⟨Nat.le_refl _, Nat.le_refl _⟩ ⟨rfl, _, rfl, h⟩
        · rw [if_pos q] at h
          refine zr_aload_n X dX10_at_24 0 rfl ?_
          refine zr_callV_v (As := []) (st := []) (d := d - 1) X dX10_at_25 wm_X10_202 my_X10_lookByMen mv_X10_lookByMen zo_0 rfl (Nat.le_of_ble_eq_true rfl) (zRm (by omega)) ⟨Nat.le_refl _, Nat.le_refl _⟩ (x_fN_lookByMen hG (d - 1) (by omega) m _ (zw_b12 h)) (fun m7 q => ?_)
          replace h := q
          refine zr_aload_n X dX10_at_28 0 rfl ?_
          refine zr_getR X dX10_at_29 zd_X10_50 rfl zo_0 zl_0_7 ?_
          refine zr_iload_n X dX10_at_32 1 rfl ?_
          refine zr_callV_i (As := [.int p1]) (st := []) (d := d - 1) X dX10_at_33 wm_X10_205 my_X4_seersOf mv_X4_seersOf zo_43 rfl (Nat.le_of_ble_eq_true rfl) (zRm (by omega)) ⟨Nat.le_refl _, Nat.le_refl _⟩ (x_fSi_seersOf hG (d - 1) (by omega) 43 zo_43 p1 m7 _ (zw_b12 h)) (fun r8 m9 q => ?_)
          obtain ⟨rfl, h⟩ := q
          exact zr_iret X dX10_at_36 rfl ⟨Nat.le_refl _, Nat.le_refl _⟩ ⟨rfl, _, rfl, h⟩
      · rw [if_pos q] at h
        refine zr_iconst (v := (-1)) X dX10_at_17 (by decide) ?_
        exact zr_iret X dX10_at_18 rfl ⟨Nat.le_refl _, Nat.le_refl _⟩ ⟨rfl, _, rfl, h⟩

set_option maxRecDepth 100000 in
set_option maxHeartbeats 4000000 in
theorem x_fN_sees {l : Launch} {S : State} {D : va_G} {cA : Nat → ClassId} {tb sx : Nat → Nat} (hG : zv_G S D cA tb sx) (d : Nat) (hd : 6 ≤ d) (p1 : Int32) (p2 : Int32) (m : zv_M) (P : Int32 → Prop) (h : zw (fN_sees p1 p2 m) P) : zv_Met l S D cA d 0 0 yX10_sees cX10_sees 3 (some .int) [.ref (S.heap.size + 0), .int p1, .int p2] SH0 m (zq_i SH0 (fun v m' => m = m' ∧ P v)) := by
  refine zv_met false hG pf_X10_sees (fun z => by cases z) (Nat.le_of_ble_eq_true rfl) [(0, .ref (S.heap.size + 0)), (1, .int p1), (2, .int p2)] rfl (fun p e s mi args below meth c X => ?_)
  rw [fN_sees] at h
  refine zr_aload_n X dX10_sees_0 0 rfl ?_
  refine zr_iload_n X dX10_sees_1 1 rfl ?_
  refine zr_callV_i (As := [.int p1]) (st := []) (d := d - 1) X dX10_sees_2 wm_X10_119 my_X10_isPlan mv_X10_isPlan zo_0 rfl (Nat.le_of_ble_eq_true rfl) (zRm (by omega)) ⟨Nat.le_refl _, Nat.le_refl _⟩ (x_fN_isPlan hG (d - 1) (by omega) p1 m _ (zw_b1 h)) (fun r1 m2 q => ?_)
  obtain ⟨rfl, h⟩ := q
  refine zr_if_eq (tgt := 16) X dX10_sees_5 (by decide) (fun q => ?_) (fun q => ?_)
  · rw [if_pos q] at h
    refine zr_iconst (v := (-1)) X dX10_sees_16 (by decide) ?_
    exact zr_iret X dX10_sees_17 rfl ⟨Nat.le_refl _, Nat.le_refl _⟩ ⟨rfl, _, rfl, rfl, h⟩
  · rw [if_neg q] at h
    refine zr_aload_n X dX10_sees_8 0 rfl ?_
    refine zr_iload_n X dX10_sees_9 2 rfl ?_
    refine zr_callV_i (As := [.int p2]) (st := []) (d := d - 1) X dX10_sees_10 wm_X10_183 my_X10_isSquare mv_X10_isSquare zo_0 rfl (Nat.le_of_ble_eq_true rfl) (zRm (by omega)) ⟨Nat.le_refl _, Nat.le_refl _⟩ (x_fN_isSquare hG (d - 1) (by omega) p2 m _ (zw_b1 h)) (fun r3 m4 q => ?_)
    obtain ⟨rfl, h⟩ := q
    refine zr_if_ne (tgt := 18) X dX10_sees_13 (by decide) (fun q => ?_) (fun q => ?_)
    · rw [if_neg q] at h
      refine zr_aload_n X dX10_sees_18 0 rfl ?_
      refine zr_iload_n X dX10_sees_19 1 rfl ?_
      refine zr_iload_n X dX10_sees_20 2 rfl ?_
      refine zr_callV_i (As := [.int p1, .int p2]) (st := []) (d := d - 1) X dX10_sees_21 wm_X10_208 my_X10_viewOf mv_X10_viewOf zo_0 rfl (Nat.le_of_ble_eq_true rfl) (zRm (by omega)) ⟨Nat.le_refl _, Nat.le_refl _⟩ (x_fN_viewOf hG (d - 1) (by omega) p1 p2 m _ (zw_b1 h)) (fun r5 m6 q => ?_)
      obtain ⟨rfl, h⟩ := q
      exact zr_iret X dX10_sees_24 rfl ⟨Nat.le_refl _, Nat.le_refl _⟩ ⟨rfl, _, rfl, rfl, h⟩
    · rw [if_pos q] at h
      refine zr_iconst (v := (-1)) X dX10_sees_16 (by decide) ?_
      exact zr_iret X dX10_sees_17 rfl ⟨Nat.le_refl _, Nat.le_refl _⟩ ⟨rfl, _, rfl, rfl, h⟩

set_option maxRecDepth 100000 in
set_option maxHeartbeats 4000000 in
theorem x_fN_clear {l : Launch} {S : State} {D : va_G} {cA : Nat → ClassId} {tb sx : Nat → Nat} (hG : zv_G S D cA tb sx) (d : Nat) (hd : 3 ≤ d) (m : zv_M) (P : Int32 → zv_M → Prop) (h : zw2 (fN_clear m) P) : zv_Met l S D cA d 0 0 yX10_clear cX10_clear 2 (some .int) [.ref (S.heap.size + 0)] SH0 m (zq_i SH0 P) := by
  refine zv_met false hG pf_X10_clear (fun z => by cases z) (Nat.le_of_ble_eq_true rfl) [(0, .ref (S.heap.size + 0))] rfl (fun p e s mi args below meth c X => ?_)
  rw [fN_clear] at h
  refine zr_aload_n X dX10_clear_0 0 rfl ?_
  refine zr_getR X dX10_clear_1 zd_X10_12 rfl zo_0 zl_0_0 ?_
  refine zr_callV_i (As := []) (st := []) (d := d - 1) X dX10_clear_4 wm_X10_162 my_X5_menBits mv_X5_menBits zo_1 rfl (Nat.le_of_ble_eq_true rfl) (zRm (by omega)) ⟨Nat.le_refl _, Nat.le_refl _⟩ (x_fSt_menBits hG (d - 1) (by omega) 1 zo_1 m _ (zw_b12 h)) (fun r1 m2 q => ?_)
  obtain ⟨rfl, h⟩ := q
  refine zr_callS_i (As := [.int r1]) (st := []) (d := d - 1) X dX10_clear_7 wm_X10_166 ws_J6_bitCount_0f7a4 my_J6_bitCount_0f7a4 rfl (Nat.le_of_ble_eq_true rfl) (zRm (by omega)) ⟨Nat.le_refl _, Nat.le_refl _⟩ (x_fJ_bitCount hG (d - 1) (by omega) r1 m _ (zw_b12 h)) (fun r3 m4 q => ?_)
  obtain ⟨rfl, h⟩ := q
  refine zr_istore_n (lo' := [(1, .int r3), (0, .ref (S.heap.size + 0))]) X dX10_clear_10 (by decide) rfl ?_
  refine zr_aload_n X dX10_clear_11 1 rfl ?_
  refine zr_getR X dX10_clear_12 zd_X10_12 rfl zo_0 zl_0_0 ?_
  refine zr_callV_v (As := []) (st := []) (d := d - 1) X dX10_clear_15 wm_X10_212 my_X5_takeAllMen mv_X5_takeAllMen zo_1 rfl (Nat.le_of_ble_eq_true rfl) (zRm (by omega)) ⟨Nat.le_refl _, Nat.le_refl _⟩ (x_fSt_takeAllMen hG (d - 1) (by omega) 1 zo_1 m _ (zw_b12 h)) (fun m5 q => ?_)
  replace h := q
  refine zr_iload_n X dX10_clear_18 0 rfl ?_
  exact zr_iret X dX10_clear_19 rfl ⟨Nat.le_refl _, Nat.le_refl _⟩ ⟨rfl, _, rfl, h⟩

set_option maxRecDepth 100000 in
set_option maxHeartbeats 4000000 in
theorem x_fN_worst {l : Launch} {S : State} {D : va_G} {cA : Nat → ClassId} {tb sx : Nat → Nat} (hG : zv_G S D cA tb sx) (d : Nat) (hd : 8 ≤ d) (m : zv_M) (P : Int32 → zv_M → Prop) (h : zw2 (fN_worst m) P) : zv_Met l S D cA d 0 0 yX10_worst cX10_worst 1 (some .int) [.ref (S.heap.size + 0)] SH0 m (zq_i SH0 P) := by
  refine zv_met false hG pf_X10_worst (fun z => by cases z) (Nat.le_of_ble_eq_true rfl) [(0, .ref (S.heap.size + 0))] rfl (fun p e s mi args below meth c X => ?_)
  rw [fN_worst] at h
  refine zr_aload_n X dX10_worst_0 0 rfl ?_
  refine zr_callV_v (As := []) (st := []) (d := d - 1) X dX10_worst_1 wm_X10_177 my_X10_joinMen mv_X10_joinMen zo_0 rfl (Nat.le_of_ble_eq_true rfl) (zRm (by omega)) ⟨Nat.le_refl _, Nat.le_refl _⟩ (x_fN_joinMen hG (d - 1) (by omega) m _ (zw_b12 h)) (fun m1 q => ?_)
  replace h := q
  refine zr_aload_n X dX10_worst_4 0 rfl ?_
  refine zr_getR X dX10_worst_5 zd_X10_50 rfl zo_0 zl_0_7 ?_
  refine zr_callV_i (As := []) (st := []) (d := d - 1) X dX10_worst_8 wm_X10_180 my_X4_mostJoined mv_X4_mostJoined zo_43 rfl (Nat.le_of_ble_eq_true rfl) (zRm (by omega)) ⟨Nat.le_refl _, Nat.le_refl _⟩ (x_fSi_mostJoined hG (d - 1) (by omega) 43 zo_43 m1 _ (zw_b12 h)) (fun r2 m3 q => ?_)
  obtain ⟨rfl, h⟩ := q
  exact zr_iret X dX10_worst_11 rfl ⟨Nat.le_refl _, Nat.le_refl _⟩ ⟨rfl, _, rfl, h⟩

set_option maxRecDepth 100000 in
set_option maxHeartbeats 4000000 in
theorem x_fN_prepareRowSearch {l : Launch} {S : State} {D : va_G} {cA : Nat → ClassId} {tb sx : Nat → Nat} (hG : zv_G S D cA tb sx) (d : Nat) (hd : 7 ≤ d) (p1 : Int32) (m : zv_M) (P : zv_M → Prop) (h : zw (fN_prepareRowSearch p1 m) P) : zv_Met l S D cA d 0 0 yX10_prepareRowSearch cX10_prepareRowSearch 3 none [.ref (S.heap.size + 0), .int p1] SH0 m (zq_v SH0 P) := by
  refine zv_met false hG pf_X10_prepareRowSearch (fun z => by cases z) (Nat.le_of_ble_eq_true rfl) [(0, .ref (S.heap.size + 0)), (1, .int p1)] rfl (fun p e s mi args below meth c X => ?_)
  rw [fN_prepareRowSearch] at h
  refine zr_aload_n X dX10_prepareRowSearch_0 0 rfl ?_
  refine zr_callV_a (As := []) (st := []) (d := d - 1) X dX10_prepareRowSearch_1 wm_X10_154 my_X10_ground mv_X10_ground zo_0 rfl (Nat.le_of_ble_eq_true rfl) (zRm (by omega)) ⟨Nat.le_refl _, Nat.le_refl _⟩ (x_fN_ground hG (d - 1) (by omega) m _ (zw_b1 h)) (fun r1 m2 q => ?_)
  obtain ⟨rfl, hc3, h⟩ := q
  refine zr_astore_n (lo' := [(2, .ref (S.heap.size + r1)), (0, .ref (S.heap.size + 0)), (1, .int p1)]) X dX10_prepareRowSearch_4 (by decide) rfl ?_
  refine zr_aload_n X dX10_prepareRowSearch_5 1 rfl ?_
  refine zr_iload_n X dX10_prepareRowSearch_6 2 rfl ?_
  refine zr_callV_v (As := [.int p1]) (st := []) (d := d - 1) X dX10_prepareRowSearch_7 wm_X10_236 my_X10_lookByPlan mv_X10_lookByPlan zo_0 rfl (Nat.le_of_ble_eq_true rfl) (zRm (by omega)) ⟨Nat.le_refl _, Nat.le_refl _⟩ (x_fN_lookByPlan hG (d - 1) (by omega) p1 m _ (zw_b1 h)) (fun m4 q => ?_)
  replace h := q
  refine zr_aload_n X dX10_prepareRowSearch_10 1 rfl ?_
  refine zr_getR X dX10_prepareRowSearch_11 zd_X10_54 rfl zo_0 zl_0_8 ?_
  refine zr_aload_n X dX10_prepareRowSearch_14 0 rfl ?_
  refine zr_callV_i (As := []) (st := [.ref (S.heap.size + 46)]) (d := d - 1) X dX10_prepareRowSearch_15 wm_X10_233 my_X8_free mv_X8_free hc3 rfl (Nat.le_of_ble_eq_true rfl) (zRm (by omega)) ⟨Nat.le_refl _, Nat.le_refl _⟩ (x_fYa_free hG (d - 1) (by omega) r1 hc3 m4 _ (zw_b1 h)) (fun r5 m6 q => ?_)
  obtain ⟨rfl, h⟩ := q
  refine zr_callV_v (As := [.int r5]) (st := []) (d := d - 1) X dX10_prepareRowSearch_18 wm_X10_239 my_X4_join mv_X4_join zo_46 rfl (Nat.le_of_ble_eq_true rfl) (zRm (by omega)) ⟨Nat.le_refl _, Nat.le_refl _⟩ (x_fSi_join hG (d - 1) (by omega) 46 zo_46 r5 m4 _ (zw_b1 h)) (fun m7 q => ?_)
  replace h := q
  refine zr_aload_n X dX10_prepareRowSearch_21 1 rfl ?_
  refine zr_getR X dX10_prepareRowSearch_22 zd_X10_60 rfl zo_0 zl_0_9 ?_
  refine zr_aload_n X dX10_prepareRowSearch_25 0 rfl ?_
  refine zr_getI X dX10_prepareRowSearch_26 zd_X10_158 rfl hc3 (by rw [zk_8 hc3]; decide) ?_
  refine zr_aload_n X dX10_prepareRowSearch_29 0 rfl ?_
  refine zr_callV_i (As := []) (st := [.int (m7.1 r1 0), .ref (S.heap.size + 49)]) (d := d - 1) X dX10_prepareRowSearch_30 wm_X10_233 my_X8_free mv_X8_free hc3 rfl (Nat.le_of_ble_eq_true rfl) (zRm (by omega)) ⟨Nat.le_refl _, Nat.le_refl _⟩ (x_fYa_free hG (d - 1) (by omega) r1 hc3 m7 _ (zw_b1 h)) (fun r8 m9 q => ?_)
  obtain ⟨rfl, h⟩ := q
  refine zr_aload_n X dX10_prepareRowSearch_33 1 rfl ?_
  refine zr_getR X dX10_prepareRowSearch_34 zd_X10_54 rfl zo_0 zl_0_8 ?_
  refine zr_getR X dX10_prepareRowSearch_37 zd_X10_242 rfl zo_46 zl_46_1 ?_
  refine zr_callV_v (As := [.int (m7.1 r1 0), .int r8, .ref (S.heap.size + 48)]) (st := []) (d := d - 1) X dX10_prepareRowSearch_40 wm_X10_380 my_X3_prepare mv_X3_prepare zo_49 rfl (Nat.le_of_ble_eq_true rfl) (zRm (by omega)) ⟨Nat.le_refl _, Nat.le_refl _⟩ (x_fRo_prepare hG (d - 1) (by omega) (m7.1 r1 0) r8 48 za_48 m7 _ (zw_b1 h)) (fun m10 q => ?_)
  replace h := q
  exact zr_vret X dX10_prepareRowSearch_43 ⟨Nat.le_refl _, Nat.le_refl _⟩ ⟨rfl, rfl, h⟩

set_option maxRecDepth 100000 in
set_option maxHeartbeats 4000000 in
theorem x_fN_ways {l : Launch} {S : State} {D : va_G} {cA : Nat → ClassId} {tb sx : Nat → Nat} (hG : zv_G S D cA tb sx) (d : Nat) (hd : 20 ≤ d) (p1 : Int32) (p2 : Int32) (m : zv_M) (P : Int32 → zv_M → Prop) (h : zw2 (fN_ways p1 p2 m) P) : zv_Met l S D cA d 0 0 yX10_ways cX10_ways 3 (some .int) [.ref (S.heap.size + 0), .int p1, .int p2] SH0 m (zq_i SH0 P) := by
  refine zv_met false hG pf_X10_ways (fun z => by cases z) (Nat.le_of_ble_eq_true rfl) [(0, .ref (S.heap.size + 0)), (1, .int p1), (2, .int p2)] rfl (fun p e s mi args below meth c X => ?_)
  rw [fN_ways] at h
  refine zr_aload_n X dX10_ways_0 0 rfl ?_
  refine zr_iload_n X dX10_ways_1 1 rfl ?_
  refine zr_callV_i (As := [.int p1]) (st := []) (d := d - 1) X dX10_ways_2 wm_X10_119 my_X10_isPlan mv_X10_isPlan zo_0 rfl (Nat.le_of_ble_eq_true rfl) (zRm (by omega)) ⟨Nat.le_refl _, Nat.le_refl _⟩ (x_fN_isPlan hG (d - 1) (by omega) p1 m _ (zw_b12 h)) (fun r1 m2 q => ?_)
  obtain ⟨rfl, h⟩ := q
  refine zr_if_eq (tgt := 24) X dX10_ways_5 (by decide) (fun q => ?_) (fun q => ?_)
  · rw [if_pos q] at h
    refine zr_iconst (v := (-1)) X dX10_ways_24 (by decide) ?_
    exact zr_iret X dX10_ways_25 rfl ⟨Nat.le_refl _, Nat.le_refl _⟩ ⟨rfl, _, rfl, h⟩
  · rw [if_neg q] at h
    refine zr_iload_n X dX10_ways_8 2 rfl ?_
    refine zr_iconst (v := (-1)) X dX10_ways_9 (by decide) ?_
    refine zr_icmp_lt (tgt := 24) X dX10_ways_10 (by decide) (fun q => ?_) (fun q => ?_)
    · rw [if_pos q] at h
      refine zr_iconst (v := (-1)) X dX10_ways_24 (by decide) ?_
      exact zr_iret X dX10_ways_25 rfl ⟨Nat.le_refl _, Nat.le_refl _⟩ ⟨rfl, _, rfl, h⟩
    · rw [if_neg q] at h
      refine zr_iload_n X dX10_ways_13 2 rfl ?_
      refine zr_aload_n X dX10_ways_14 0 rfl ?_
      refine zr_callV_a (As := []) (st := [.int p2]) (d := d - 1) X dX10_ways_15 wm_X10_154 my_X10_ground mv_X10_ground zo_0 rfl (Nat.le_of_ble_eq_true rfl) (zRm (by omega)) ⟨Nat.le_refl _, Nat.le_refl _⟩ (x_fN_ground hG (d - 1) (by omega) m _ (zw_b12 h)) (fun r3 m4 q => ?_)
      obtain ⟨rfl, hc5, h⟩ := q
      refine zr_getI X dX10_ways_18 zd_X10_158 rfl hc5 (by rw [zk_8 hc5]; decide) ?_
      refine zr_icmp_lt (tgt := 26) X dX10_ways_21 (by decide) (fun q => ?_) (fun q => ?_)
      · rw [if_pos q] at h
        refine zr_aload_n X dX10_ways_26 0 rfl ?_
        refine zr_iload_n X dX10_ways_27 1 rfl ?_
        refine zr_callV_v (As := [.int p1]) (st := []) (d := d - 1) X dX10_ways_28 wm_X10_215 my_X10_prepareRowSearch mv_X10_prepareRowSearch zo_0 rfl (Nat.le_of_ble_eq_true rfl) (zRm (by omega)) ⟨Nat.le_refl _, Nat.le_refl _⟩ (x_fN_prepareRowSearch hG (d - 1) (by omega) p1 m _ (zw_b12 h)) (fun m6 q => ?_)
        replace h := q
        refine zr_aload_n X dX10_ways_31 0 rfl ?_
        refine zr_getR X dX10_ways_32 zd_X10_60 rfl zo_0 zl_0_9 ?_
        refine zr_callV_v (As := []) (st := []) (d := d - 1) X dX10_ways_35 wm_X10_218 my_X3_countAll mv_X3_countAll zo_49 rfl (Nat.le_of_ble_eq_true rfl) (zRm (by omega)) ⟨Nat.le_refl _, Nat.le_refl _⟩ (x_fRo_countAll hG (d - 1) (by omega) m6 _ (zw_b12 h)) (fun m7 q => ?_)
        replace h := q
        refine zr_iload_n X dX10_ways_38 2 rfl ?_
        refine zr_iconst (v := (-1)) X dX10_ways_39 (by decide) ?_
        refine zr_icmp_ne (tgt := 53) X dX10_ways_40 (by decide) (fun q => ?_) (fun q => ?_)
        · rw [if_neg q] at h
          refine zr_aload_n X dX10_ways_53 0 rfl ?_
          refine zr_getR X dX10_ways_54 zd_X10_60 rfl zo_0 zl_0_9 ?_
          refine zr_iload_n X dX10_ways_57 2 rfl ?_
          refine zr_callV_i (As := [.int p2]) (st := []) (d := d - 1) X dX10_ways_58 wm_X10_224 my_X3_firstAt mv_X3_firstAt zo_49 rfl (Nat.le_of_ble_eq_true rfl) (zRm (by omega)) ⟨Nat.le_refl _, Nat.le_refl _⟩ (x_fRo_firstAt hG (d - 1) (by omega) p2 m7 _ (zw_b12 h)) (fun r8 m9 q => ?_)
          obtain ⟨rfl, h⟩ := q
          exact zr_iret X dX10_ways_61 rfl ⟨Nat.le_refl _, Nat.le_refl _⟩ ⟨rfl, _, rfl, h⟩
        · rw [if_pos q] at h
          refine zr_aload_n X dX10_ways_43 0 rfl ?_
          refine zr_getR X dX10_ways_44 zd_X10_60 rfl zo_0 zl_0_9 ?_
          refine zr_getI X dX10_ways_47 zd_X10_221 rfl zo_49 (by rw [zk_3 zo_49]; decide) ?_
          refine zr_goto (tgt := 61) X dX10_ways_50 (by decide) ?_
          exact zr_iret X dX10_ways_61 rfl ⟨Nat.le_refl _, Nat.le_refl _⟩ ⟨rfl, _, rfl, h⟩
      · rw [if_neg q] at h
        refine zr_iconst (v := (-1)) X dX10_ways_24 (by decide) ?_
        exact zr_iret X dX10_ways_25 rfl ⟨Nat.le_refl _, Nat.le_refl _⟩ ⟨rfl, _, rfl, h⟩

set_option maxRecDepth 100000 in
set_option maxHeartbeats 4000000 in
theorem x_fN_after {l : Launch} {S : State} {D : va_G} {cA : Nat → ClassId} {tb sx : Nat → Nat} (hG : zv_G S D cA tb sx) (d : Nat) (hd : 20 ≤ d) (p1 : Int32) (p2 : Int32) (m : zv_M) (P : Int32 → zv_M → Prop) (h : zw2 (fN_after p1 p2 m) P) : zv_Met l S D cA d 0 0 yX10_after cX10_after 3 (some .int) [.ref (S.heap.size + 0), .int p1, .int p2] SH0 m (zq_i SH0 P) := by
  refine zv_met false hG pf_X10_after (fun z => by cases z) (Nat.le_of_ble_eq_true rfl) [(0, .ref (S.heap.size + 0)), (1, .int p1), (2, .int p2)] rfl (fun p e s mi args below meth c X => ?_)
  rw [fN_after] at h
  refine zr_aload_n X dX10_after_0 0 rfl ?_
  refine zr_iload_n X dX10_after_1 1 rfl ?_
  refine zr_callV_i (As := [.int p1]) (st := []) (d := d - 1) X dX10_after_2 wm_X10_119 my_X10_isPlan mv_X10_isPlan zo_0 rfl (Nat.le_of_ble_eq_true rfl) (zRm (by omega)) ⟨Nat.le_refl _, Nat.le_refl _⟩ (x_fN_isPlan hG (d - 1) (by omega) p1 m _ (zw_b12 h)) (fun r1 m2 q => ?_)
  obtain ⟨rfl, h⟩ := q
  refine zr_if_eq (tgt := 23) X dX10_after_5 (by decide) (fun q => ?_) (fun q => ?_)
  · rw [if_pos q] at h
    refine zr_iconst (v := (-1)) X dX10_after_23 (by decide) ?_
    exact zr_iret X dX10_after_24 rfl ⟨Nat.le_refl _, Nat.le_refl _⟩ ⟨rfl, _, rfl, h⟩
  · rw [if_neg q] at h
    refine zr_iload_n X dX10_after_8 2 rfl ?_
    refine zr_if_lt (tgt := 23) X dX10_after_9 (by decide) (fun q => ?_) (fun q => ?_)
    · rw [if_pos q] at h
      refine zr_iconst (v := (-1)) X dX10_after_23 (by decide) ?_
      exact zr_iret X dX10_after_24 rfl ⟨Nat.le_refl _, Nat.le_refl _⟩ ⟨rfl, _, rfl, h⟩
    · rw [if_neg q] at h
      refine zr_iload_n X dX10_after_12 2 rfl ?_
      refine zr_aload_n X dX10_after_13 0 rfl ?_
      refine zr_callV_a (As := []) (st := [.int p2]) (d := d - 1) X dX10_after_14 wm_X10_154 my_X10_ground mv_X10_ground zo_0 rfl (Nat.le_of_ble_eq_true rfl) (zRm (by omega)) ⟨Nat.le_refl _, Nat.le_refl _⟩ (x_fN_ground hG (d - 1) (by omega) m _ (zw_b12 h)) (fun r3 m4 q => ?_)
      obtain ⟨rfl, hc5, h⟩ := q
      refine zr_getI X dX10_after_17 zd_X10_158 rfl hc5 (by rw [zk_8 hc5]; decide) ?_
      refine zr_icmp_lt (tgt := 25) X dX10_after_20 (by decide) (fun q => ?_) (fun q => ?_)
      · rw [if_pos q] at h
        refine zr_aload_n X dX10_after_25 0 rfl ?_
        refine zr_iload_n X dX10_after_26 1 rfl ?_
        refine zr_callV_v (As := [.int p1]) (st := []) (d := d - 1) X dX10_after_27 wm_X10_215 my_X10_prepareRowSearch mv_X10_prepareRowSearch zo_0 rfl (Nat.le_of_ble_eq_true rfl) (zRm (by omega)) ⟨Nat.le_refl _, Nat.le_refl _⟩ (x_fN_prepareRowSearch hG (d - 1) (by omega) p1 m _ (zw_b12 h)) (fun m6 q => ?_)
        replace h := q
        refine zr_aload_n X dX10_after_30 0 rfl ?_
        refine zr_getR X dX10_after_31 zd_X10_60 rfl zo_0 zl_0_9 ?_
        refine zr_aload_n X dX10_after_34 0 rfl ?_
        refine zr_getR X dX10_after_35 zd_X10_12 rfl zo_0 zl_0_0 ?_
        refine zr_callV_i (As := []) (st := [.ref (S.heap.size + 49)]) (d := d - 1) X dX10_after_38 wm_X10_162 my_X5_menBits mv_X5_menBits zo_1 rfl (Nat.le_of_ble_eq_true rfl) (zRm (by omega)) ⟨Nat.le_refl _, Nat.le_refl _⟩ (x_fSt_menBits hG (d - 1) (by omega) 1 zo_1 m6 _ (zw_b12 h)) (fun r7 m8 q => ?_)
        obtain ⟨rfl, h⟩ := q
        refine zr_callV_i (As := [.int r7]) (st := []) (d := d - 1) X dX10_after_41 wm_X10_227 my_X3_startBehind mv_X3_startBehind zo_49 rfl (Nat.le_of_ble_eq_true rfl) (zRm (by omega)) ⟨Nat.le_refl _, Nat.le_refl _⟩ (x_fRo_startBehind hG (d - 1) (by omega) r7 m6 _ (zw_b22 h)) (fun r9 m10 q => ?_)
        replace h := q
        refine zr_if_ne (tgt := 50) X dX10_after_44 (by decide) (fun q => ?_) (fun q => ?_)
        · rw [if_neg q] at h
          refine zr_aload_n X dX10_after_50 0 rfl ?_
          refine zr_getR X dX10_after_51 zd_X10_60 rfl zo_0 zl_0_9 ?_
          refine zr_callV_v (As := []) (st := []) (d := d - 1) X dX10_after_54 wm_X10_230 my_X3_findNext mv_X3_findNext zo_49 rfl (Nat.le_of_ble_eq_true rfl) (zRm (by omega)) ⟨Nat.le_refl _, Nat.le_refl _⟩ (x_fRo_findNext hG (d - 1) (by omega) m10 _ (zw_b12 h)) (fun m11 q => ?_)
          replace h := q
          refine zr_aload_n X dX10_after_57 0 rfl ?_
          refine zr_getR X dX10_after_58 zd_X10_60 rfl zo_0 zl_0_9 ?_
          refine zr_iload_n X dX10_after_61 2 rfl ?_
          refine zr_callV_i (As := [.int p2]) (st := []) (d := d - 1) X dX10_after_62 wm_X10_224 my_X3_firstAt mv_X3_firstAt zo_49 rfl (Nat.le_of_ble_eq_true rfl) (zRm (by omega)) ⟨Nat.le_refl _, Nat.le_refl _⟩ (x_fRo_firstAt hG (d - 1) (by omega) p2 m11 _ (zw_b12 h)) (fun r12 m13 q => ?_)
          obtain ⟨rfl, h⟩ := q
          exact zr_iret X dX10_after_65 rfl ⟨Nat.le_refl _, Nat.le_refl _⟩ ⟨rfl, _, rfl, h⟩
        · rw [if_pos q] at h
          refine zr_bipush (v := (-9)) X dX10_after_47 (by decide) ?_
          exact zr_iret X dX10_after_49 rfl ⟨Nat.le_refl _, Nat.le_refl _⟩ ⟨rfl, _, rfl, h⟩
      · rw [if_neg q] at h
        refine zr_iconst (v := (-1)) X dX10_after_23 (by decide) ?_
        exact zr_iret X dX10_after_24 rfl ⟨Nat.le_refl _, Nat.le_refl _⟩ ⟨rfl, _, rfl, h⟩

set_option maxRecDepth 100000 in
set_option maxHeartbeats 4000000 in
theorem x_fN_leastLinked {l : Launch} {S : State} {D : va_G} {cA : Nat → ClassId} {tb sx : Nat → Nat} (hG : zv_G S D cA tb sx) (d : Nat) (hd : 2 ≤ d) (p1 : Nat) (hp1 : zar p1 0) (p2 : Int32) (m : zv_M) (P : Int32 → Prop) (h : zw (fN_leastLinked p1 p2 m) P) : zv_Met l S D cA d 0 0 yX10_leastLinked cX10_leastLinked 5 (some .int) [.ref (S.heap.size + p1), .int p2] SH0 m (zq_i SH0 (fun v m' => m = m' ∧ P v)) := by
  refine zv_met false hG pf_X10_leastLinked (fun z => by cases z) (Nat.le_of_ble_eq_true rfl) [(0, .ref (S.heap.size + p1)), (1, .int p2)] rfl (fun p e s mi args below meth c X => ?_)
  rw [fN_leastLinked] at h
  refine zr_iconst (v := (-1)) X dX10_leastLinked_0 (by decide) ?_
  refine zr_istore_n (lo' := [(2, .int (-1)), (0, .ref (S.heap.size + p1)), (1, .int p2)]) X dX10_leastLinked_1 (by decide) rfl ?_
  refine zr_bipush (v := 26) X dX10_leastLinked_2 (by decide) ?_
  refine zr_istore_n (lo' := [(3, .int 26), (2, .int (-1)), (0, .ref (S.heap.size + p1)), (1, .int p2)]) X dX10_leastLinked_4 (by decide) rfl ?_
  refine zr_iconst (v := 0) X dX10_leastLinked_5 (by decide) ?_
  refine zr_istore (lo' := [(4, .int 0), (3, .int 26), (2, .int (-1)), (0, .ref (S.heap.size + p1)), (1, .int p2)]) X dX10_leastLinked_6 (by decide) rfl ?_
  refine zr_sub [3, 4, 2, 1, 0] rfl ?_
  refine zl_w3 (fun a2 a3 a4 => zv_V S D cA p l e (zv_rm d 0 0) s mi args below meth c 5 (MQ below (zv_Q S D cA (zq_i SH0 (fun v m' => m = m' ∧ P v))) args s 0 0 (zv_fr S)) 0 0 8 [(0, .ref (S.heap.size + p1)), (1, .int p2), (2, .int a2), (3, .int a3), (4, .int a4)] [] SH0 m) (fN_leastLinked_l8 p1 p2 m) _ (fun P1 hl1 hr1 a2 a3 a4 h => ?_) zFU (-1) 26 0 (zw_b1 h)
  rw [fN_leastLinked_l8] at h
  refine zr_iload X dX10_leastLinked_8 4 rfl ?_
  refine zr_aload_n X dX10_leastLinked_10 0 rfl ?_
  refine zr_alen (v := Int32.ofNat (zln p1)) X dX10_leastLinked_11 hp1 (by decide) rfl ?_
  refine zr_icmp_ge (tgt := 56) X dX10_leastLinked_12 (by decide) (fun q => ?_) (fun q => ?_)
  · rw [if_neg q] at h
    refine zr_iload_n X dX10_leastLinked_56 2 rfl ?_
    have h := hr1 _ h
    exact zr_iret X dX10_leastLinked_57 rfl ⟨Nat.le_refl _, Nat.le_refl _⟩ ⟨rfl, _, rfl, rfl, h⟩
  · rw [if_pos q] at h
    refine zr_iload_n X dX10_leastLinked_15 1 rfl ?_
    refine zr_iload X dX10_leastLinked_16 4 rfl ?_
    refine zr_callS_i (As := [.int p2, .int a4]) (st := []) (d := d - 1) X dX10_leastLinked_18 wm_X10_189 ws_X10_isIn my_X10_isIn rfl (Nat.le_of_ble_eq_true rfl) (zRm (by omega)) ⟨Nat.le_refl _, Nat.le_refl _⟩ (x_fN_isIn hG (d - 1) (by omega) p2 a4 m _ (zw_b1 h)) (fun r5 m6 q => ?_)
    obtain ⟨rfl, h⟩ := q
    have hJ50 : ∀ (a7 : Int32) (a8 : Int32), zw (fN_leastLinked_j50 a4 a7 a8) P1 → zv_V S D cA p l e (zv_rm d 0 0) s mi args below meth c 5 (MQ below (zv_Q S D cA (zq_i SH0 (fun v m' => m = m' ∧ P v))) args s 0 0 (zv_fr S)) 0 0 50 [(0, .ref (S.heap.size + p1)), (1, .int p2), (2, .int a7), (3, .int a8), (4, .int a4)] [] SH0 m := by
      intro a7 a8 h
      rw [fN_leastLinked_j50] at h
      refine zr_iinc (v := a4 + 1) (lo' := [(4, .int (a4 + 1)), (0, .ref (S.heap.size + p1)), (1, .int p2), (2, .int a7), (3, .int a8)]) X dX10_leastLinked_50 4 rfl rfl (by decide) rfl ?_
      refine zr_goto (tgt := 8) X dX10_leastLinked_53 (by decide) ?_
      have h := hl1 _ h
      exact zr_sub [1, 2, 3, 4, 0] rfl h
    refine zr_if_eq (tgt := 50) X dX10_leastLinked_21 (by decide) (fun q => ?_) (fun q => ?_)
    · rw [if_pos q] at h
      exact zr_sub [0, 1, 2, 3, 4] rfl (hJ50 a2 a3 h)
    · rw [if_neg q] at h
      refine zr_aload_n X dX10_leastLinked_24 0 rfl ?_
      refine zr_iload X dX10_leastLinked_25 4 rfl ?_
      obtain ⟨g0, h⟩ := zg_e h
      refine zr_iald X dX10_leastLinked_27 hp1 (zI_in g0) ?_
      refine zr_iload_n X dX10_leastLinked_28 1 rfl ?_
      refine zr_iand X dX10_leastLinked_29 ?_
      refine zr_callS_i (As := [.int ((m.1 p1 a4.toNatClampNeg) &&& p2)]) (st := []) (d := d - 1) X dX10_leastLinked_30 wm_X10_166 ws_J6_bitCount_0f7a4 my_J6_bitCount_0f7a4 rfl (Nat.le_of_ble_eq_true rfl) (zRm (by omega)) ⟨Nat.le_refl _, Nat.le_refl _⟩ (x_fJ_bitCount hG (d - 1) (by omega) ((m.1 p1 a4.toNatClampNeg) &&& p2) m _ (zw_b1 h)) (fun r9 m10 q => ?_)
      obtain ⟨rfl, h⟩ := q
      refine zr_iload_n X dX10_leastLinked_33 3 rfl ?_
      refine zr_icmp_ge (tgt := 50) X dX10_leastLinked_34 (by decide) (fun q => ?_) (fun q => ?_)
      · rw [if_neg q] at h
        exact zr_sub [0, 1, 2, 3, 4] rfl (hJ50 a2 a3 h)
      · rw [if_pos q] at h
        refine zr_aload_n X dX10_leastLinked_37 0 rfl ?_
        refine zr_iload X dX10_leastLinked_38 4 rfl ?_
        obtain ⟨g0, h⟩ := zg_e h
        refine zr_iald X dX10_leastLinked_40 hp1 (zI_in g0) ?_
        refine zr_iload_n X dX10_leastLinked_41 1 rfl ?_
        refine zr_iand X dX10_leastLinked_42 ?_
        refine zr_callS_i (As := [.int ((m.1 p1 a4.toNatClampNeg) &&& p2)]) (st := []) (d := d - 1) X dX10_leastLinked_43 wm_X10_166 ws_J6_bitCount_0f7a4 my_J6_bitCount_0f7a4 rfl (Nat.le_of_ble_eq_true rfl) (zRm (by omega)) ⟨Nat.le_refl _, Nat.le_refl _⟩ (x_fJ_bitCount hG (d - 1) (by omega) ((m.1 p1 a4.toNatClampNeg) &&& p2) m _ (zw_b1 h)) (fun r11 m12 q => ?_)
        obtain ⟨rfl, h⟩ := q
        refine zr_istore_n (lo' := [(3, .int r11), (0, .ref (S.heap.size + p1)), (1, .int p2), (2, .int a2), (4, .int a4)]) X dX10_leastLinked_46 (by decide) rfl ?_
        refine zr_iload X dX10_leastLinked_47 4 rfl ?_
        refine zr_istore_n (lo' := [(2, .int a4), (3, .int r11), (0, .ref (S.heap.size + p1)), (1, .int p2), (4, .int a4)]) X dX10_leastLinked_49 (by decide) rfl ?_
        exact zr_sub [2, 3, 0, 1, 4] rfl (hJ50 a4 r11 h)

set_option maxRecDepth 100000 in
set_option maxHeartbeats 4000000 in
theorem x_fN_mostLinked {l : Launch} {S : State} {D : va_G} {cA : Nat → ClassId} {tb sx : Nat → Nat} (hG : zv_G S D cA tb sx) (d : Nat) (hd : 2 ≤ d) (p1 : Nat) (hp1 : zar p1 0) (p2 : Int32) (m : zv_M) (P : Int32 → Prop) (h : zw (fN_mostLinked p1 p2 m) P) : zv_Met l S D cA d 0 0 yX10_mostLinked cX10_mostLinked 5 (some .int) [.ref (S.heap.size + p1), .int p2] SH0 m (zq_i SH0 (fun v m' => m = m' ∧ P v)) := by
  refine zv_met false hG pf_X10_mostLinked (fun z => by cases z) (Nat.le_of_ble_eq_true rfl) [(0, .ref (S.heap.size + p1)), (1, .int p2)] rfl (fun p e s mi args below meth c X => ?_)
  rw [fN_mostLinked] at h
  refine zr_iconst (v := (-1)) X dX10_mostLinked_0 (by decide) ?_
  refine zr_istore_n (lo' := [(2, .int (-1)), (0, .ref (S.heap.size + p1)), (1, .int p2)]) X dX10_mostLinked_1 (by decide) rfl ?_
  refine zr_iconst (v := (-1)) X dX10_mostLinked_2 (by decide) ?_
  refine zr_istore_n (lo' := [(3, .int (-1)), (2, .int (-1)), (0, .ref (S.heap.size + p1)), (1, .int p2)]) X dX10_mostLinked_3 (by decide) rfl ?_
  refine zr_iconst (v := 0) X dX10_mostLinked_4 (by decide) ?_
  refine zr_istore (lo' := [(4, .int 0), (3, .int (-1)), (2, .int (-1)), (0, .ref (S.heap.size + p1)), (1, .int p2)]) X dX10_mostLinked_5 (by decide) rfl ?_
  refine zr_sub [3, 4, 2, 1, 0] rfl ?_
  refine zl_w3 (fun a2 a3 a4 => zv_V S D cA p l e (zv_rm d 0 0) s mi args below meth c 5 (MQ below (zv_Q S D cA (zq_i SH0 (fun v m' => m = m' ∧ P v))) args s 0 0 (zv_fr S)) 0 0 7 [(0, .ref (S.heap.size + p1)), (1, .int p2), (2, .int a2), (3, .int a3), (4, .int a4)] [] SH0 m) (fN_mostLinked_l7 p1 p2 m) _ (fun P1 hl1 hr1 a2 a3 a4 h => ?_) zFU (-1) (-1) 0 (zw_b1 h)
  rw [fN_mostLinked_l7] at h
  refine zr_iload X dX10_mostLinked_7 4 rfl ?_
  refine zr_aload_n X dX10_mostLinked_9 0 rfl ?_
  refine zr_alen (v := Int32.ofNat (zln p1)) X dX10_mostLinked_10 hp1 (by decide) rfl ?_
  refine zr_icmp_ge (tgt := 55) X dX10_mostLinked_11 (by decide) (fun q => ?_) (fun q => ?_)
  · rw [if_neg q] at h
    refine zr_iload_n X dX10_mostLinked_55 2 rfl ?_
    have h := hr1 _ h
    exact zr_iret X dX10_mostLinked_56 rfl ⟨Nat.le_refl _, Nat.le_refl _⟩ ⟨rfl, _, rfl, rfl, h⟩
  · rw [if_pos q] at h
    refine zr_iload_n X dX10_mostLinked_14 1 rfl ?_
    refine zr_iload X dX10_mostLinked_15 4 rfl ?_
    refine zr_callS_i (As := [.int p2, .int a4]) (st := []) (d := d - 1) X dX10_mostLinked_17 wm_X10_189 ws_X10_isIn my_X10_isIn rfl (Nat.le_of_ble_eq_true rfl) (zRm (by omega)) ⟨Nat.le_refl _, Nat.le_refl _⟩ (x_fN_isIn hG (d - 1) (by omega) p2 a4 m _ (zw_b1 h)) (fun r5 m6 q => ?_)
    obtain ⟨rfl, h⟩ := q
    have hJ49 : ∀ (a7 : Int32) (a8 : Int32), zw (fN_mostLinked_j49 a4 a7 a8) P1 → zv_V S D cA p l e (zv_rm d 0 0) s mi args below meth c 5 (MQ below (zv_Q S D cA (zq_i SH0 (fun v m' => m = m' ∧ P v))) args s 0 0 (zv_fr S)) 0 0 49 [(0, .ref (S.heap.size + p1)), (1, .int p2), (2, .int a7), (3, .int a8), (4, .int a4)] [] SH0 m := by
      intro a7 a8 h
      rw [fN_mostLinked_j49] at h
      refine zr_iinc (v := a4 + 1) (lo' := [(4, .int (a4 + 1)), (0, .ref (S.heap.size + p1)), (1, .int p2), (2, .int a7), (3, .int a8)]) X dX10_mostLinked_49 4 rfl rfl (by decide) rfl ?_
      refine zr_goto (tgt := 7) X dX10_mostLinked_52 (by decide) ?_
      have h := hl1 _ h
      exact zr_sub [1, 2, 3, 4, 0] rfl h
    refine zr_if_eq (tgt := 49) X dX10_mostLinked_20 (by decide) (fun q => ?_) (fun q => ?_)
    · rw [if_pos q] at h
      exact zr_sub [0, 1, 2, 3, 4] rfl (hJ49 a2 a3 h)
    · rw [if_neg q] at h
      refine zr_aload_n X dX10_mostLinked_23 0 rfl ?_
      refine zr_iload X dX10_mostLinked_24 4 rfl ?_
      obtain ⟨g0, h⟩ := zg_e h
      refine zr_iald X dX10_mostLinked_26 hp1 (zI_in g0) ?_
      refine zr_iload_n X dX10_mostLinked_27 1 rfl ?_
      refine zr_iand X dX10_mostLinked_28 ?_
      refine zr_callS_i (As := [.int ((m.1 p1 a4.toNatClampNeg) &&& p2)]) (st := []) (d := d - 1) X dX10_mostLinked_29 wm_X10_166 ws_J6_bitCount_0f7a4 my_J6_bitCount_0f7a4 rfl (Nat.le_of_ble_eq_true rfl) (zRm (by omega)) ⟨Nat.le_refl _, Nat.le_refl _⟩ (x_fJ_bitCount hG (d - 1) (by omega) ((m.1 p1 a4.toNatClampNeg) &&& p2) m _ (zw_b1 h)) (fun r9 m10 q => ?_)
      obtain ⟨rfl, h⟩ := q
      refine zr_iload_n X dX10_mostLinked_32 3 rfl ?_
      refine zr_icmp_le (tgt := 49) X dX10_mostLinked_33 (by decide) (fun q => ?_) (fun q => ?_)
      · rw [if_neg q] at h
        exact zr_sub [0, 1, 2, 3, 4] rfl (hJ49 a2 a3 h)
      · rw [if_pos q] at h
        refine zr_aload_n X dX10_mostLinked_36 0 rfl ?_
        refine zr_iload X dX10_mostLinked_37 4 rfl ?_
        obtain ⟨g0, h⟩ := zg_e h
        refine zr_iald X dX10_mostLinked_39 hp1 (zI_in g0) ?_
        refine zr_iload_n X dX10_mostLinked_40 1 rfl ?_
        refine zr_iand X dX10_mostLinked_41 ?_
        refine zr_callS_i (As := [.int ((m.1 p1 a4.toNatClampNeg) &&& p2)]) (st := []) (d := d - 1) X dX10_mostLinked_42 wm_X10_166 ws_J6_bitCount_0f7a4 my_J6_bitCount_0f7a4 rfl (Nat.le_of_ble_eq_true rfl) (zRm (by omega)) ⟨Nat.le_refl _, Nat.le_refl _⟩ (x_fJ_bitCount hG (d - 1) (by omega) ((m.1 p1 a4.toNatClampNeg) &&& p2) m _ (zw_b1 h)) (fun r11 m12 q => ?_)
        obtain ⟨rfl, h⟩ := q
        refine zr_istore_n (lo' := [(3, .int r11), (0, .ref (S.heap.size + p1)), (1, .int p2), (2, .int a2), (4, .int a4)]) X dX10_mostLinked_45 (by decide) rfl ?_
        refine zr_iload X dX10_mostLinked_46 4 rfl ?_
        refine zr_istore_n (lo' := [(2, .int a4), (3, .int r11), (0, .ref (S.heap.size + p1)), (1, .int p2), (4, .int a4)]) X dX10_mostLinked_48 (by decide) rfl ?_
        exact zr_sub [2, 3, 0, 1, 4] rfl (hJ49 a4 r11 h)

set_option maxRecDepth 100000 in
set_option maxHeartbeats 4000000 in
theorem xo_fN_mostApart {l : Launch} {S : State} {D : va_G} {cA : Nat → ClassId} {tb sx : Nat → Nat} (hG : zv_G S D cA tb sx) (d dr : Nat) (hd : 3 ≤ d) (hdr : dr + 1 ≤ d) (rec_mostApart : Nat → Int32 → Int32 → zv_M → Option (Int32)) (hrec_mostApart : ∀ (p1 : Nat) (hp1 : zar p1 0) (p2 : Int32) (p3 : Int32) (m : zv_M) (P : Int32 → Prop), zw (rec_mostApart p1 p2 p3 m) P → zv_Met l S D cA dr 0 0 yX10_mostApart cX10_mostApart 8 (some .int) [.ref (S.heap.size + p1), .int p2, .int p3] SH0 m (zq_i SH0 (fun v m' => m = m' ∧ P v))) (p1 : Nat) (hp1 : zar p1 0) (p2 : Int32) (p3 : Int32) (m : zv_M) (P : Int32 → Prop) (h : zw (fN_mostApart_b rec_mostApart p1 p2 p3 m) P) : zv_Met l S D cA d 0 0 yX10_mostApart cX10_mostApart 8 (some .int) [.ref (S.heap.size + p1), .int p2, .int p3] SH0 m (zq_i SH0 (fun v m' => m = m' ∧ P v)) := by
  refine zv_met false hG pf_X10_mostApart (fun z => by cases z) (Nat.le_of_ble_eq_true rfl) [(0, .ref (S.heap.size + p1)), (1, .int p2), (2, .int p3)] rfl (fun p e s mi args below meth c X => ?_)
  rw [fN_mostApart_b] at h
  refine zr_iload_n X dX10_mostApart_0 1 rfl ?_
  refine zr_istore_n (lo' := [(3, .int p2), (0, .ref (S.heap.size + p1)), (1, .int p2), (2, .int p3)]) X dX10_mostApart_1 (by decide) rfl ?_
  refine zr_iconst (v := 0) X dX10_mostApart_2 (by decide) ?_
  refine zr_istore (lo' := [(4, .int 0), (3, .int p2), (0, .ref (S.heap.size + p1)), (1, .int p2), (2, .int p3)]) X dX10_mostApart_3 (by decide) rfl ?_
  refine zr_iconst (v := 0) X dX10_mostApart_5 (by decide) ?_
  refine zr_istore (lo' := [(5, .int 0), (4, .int 0), (3, .int p2), (0, .ref (S.heap.size + p1)), (1, .int p2), (2, .int p3)]) X dX10_mostApart_6 (by decide) rfl ?_
  refine zr_sub [3, 5, 2, 1, 0] rfl ?_
  have hR1 : ∀ (a5 : Int32) (a6 : Int32), zw (zb1 (fN_mostLinked p1 a5 m) (fun r7 => zb1 (fN_isIn a5 r7) (fun r9 => if r9 = 0 then some a6 else if (25 : Int32) < p3 then some a6 else zg (zI r7 (zln p1)) (zb1 (rec_mostApart p1 (a5 &&& (((m.1 p1 r7.toNatClampNeg) ||| (1 <<< (r7 &&& 31))) ^^^ (-1))) (p3 + 1) m) (fun r11 => zb1 (rec_mostApart p1 (a5 &&& ((1 <<< (r7 &&& 31)) ^^^ (-1))) (p3 + 1) m) (fun r13 => zb1 (fJ_max (1 + r11) r13) (fun r15 => some (a6 + r15))))))) : Option (Int32)) P → zv_V S D cA p l e (zv_rm d 0 0) s mi args below meth c 8 (MQ below (zv_Q S D cA (zq_i SH0 (fun v m' => m = m' ∧ P v))) args s 0 0 (zv_fr S)) 0 0 74 [(0, .ref (S.heap.size + p1)), (2, .int p3), (3, .int a5), (4, .int a6)] [] SH0 m := by
    intro a5 a6 h
    refine zr_aload_n X dX10_mostApart_74 0 rfl ?_
    refine zr_iload_n X dX10_mostApart_75 2 rfl ?_
    refine zr_callS_i (As := [.ref (S.heap.size + p1), .int a5]) (st := []) (d := d - 1) X dX10_mostApart_76 wm_X10_391 ws_X10_mostLinked my_X10_mostLinked rfl (Nat.le_of_ble_eq_true rfl) (zRm (by omega)) ⟨Nat.le_refl _, Nat.le_refl _⟩ (x_fN_mostLinked hG (d - 1) (by omega) p1 hp1 a5 m _ (zw_b1 h)) (fun r7 m8 q => ?_)
    obtain ⟨rfl, h⟩ := q
    refine zr_istore (lo' := [(5, .int r7), (0, .ref (S.heap.size + p1)), (2, .int p3), (3, .int a5), (4, .int a6)]) X dX10_mostApart_79 (by decide) rfl ?_
    refine zr_iload_n X dX10_mostApart_81 3 rfl ?_
    refine zr_iload X dX10_mostApart_82 0 rfl ?_
    refine zr_callS_i (As := [.int a5, .int r7]) (st := []) (d := d - 1) X dX10_mostApart_84 wm_X10_189 ws_X10_isIn my_X10_isIn rfl (Nat.le_of_ble_eq_true rfl) (zRm (by omega)) ⟨Nat.le_refl _, Nat.le_refl _⟩ (x_fN_isIn hG (d - 1) (by omega) a5 r7 m _ (zw_b1 h)) (fun r9 m10 q => ?_)
    obtain ⟨rfl, h⟩ := q
    refine zr_if_eq (tgt := 96) X dX10_mostApart_87 (by decide) (fun q => ?_) (fun q => ?_)
    · rw [if_pos q] at h
      refine zr_iload X dX10_mostApart_96 4 rfl ?_
      exact zr_iret X dX10_mostApart_98 rfl ⟨Nat.le_refl _, Nat.le_refl _⟩ ⟨rfl, _, rfl, rfl, h⟩
    · rw [if_neg q] at h
      refine zr_iload_n X dX10_mostApart_90 2 rfl ?_
      refine zr_bipush (v := 25) X dX10_mostApart_91 (by decide) ?_
      refine zr_icmp_le (tgt := 99) X dX10_mostApart_93 (by decide) (fun q => ?_) (fun q => ?_)
      · rw [if_neg q] at h
        refine zr_iconst (v := 1) X dX10_mostApart_99 (by decide) ?_
        refine zr_aload_n X dX10_mostApart_100 1 rfl ?_
        refine zr_iload_n X dX10_mostApart_101 3 rfl ?_
        refine zr_aload_n X dX10_mostApart_102 1 rfl ?_
        refine zr_iload X dX10_mostApart_103 0 rfl ?_
        obtain ⟨g0, h⟩ := zg_e h
        refine zr_iald X dX10_mostApart_105 hp1 (zI_in g0) ?_
        refine zr_iconst (v := 1) X dX10_mostApart_106 (by decide) ?_
        refine zr_iload X dX10_mostApart_107 0 rfl ?_
        refine zr_ishl X dX10_mostApart_109 ?_
        refine zr_ior X dX10_mostApart_110 ?_
        refine zr_iconst (v := (-1)) X dX10_mostApart_111 (by decide) ?_
        refine zr_ixor X dX10_mostApart_112 ?_
        refine zr_iand X dX10_mostApart_113 ?_
        refine zr_iload_n X dX10_mostApart_114 2 rfl ?_
        refine zr_iconst (v := 1) X dX10_mostApart_115 (by decide) ?_
        refine zr_iadd X dX10_mostApart_116 ?_
        refine zr_callS_i (As := [.ref (S.heap.size + p1), .int (a5 &&& (((m.1 p1 r7.toNatClampNeg) ||| (1 <<< (r7 &&& 31))) ^^^ (-1))), .int (p3 + 1)]) (st := [.int 1]) (d := dr) X dX10_mostApart_117 wm_X10_246 ws_X10_mostApart my_X10_mostApart rfl (Nat.le_of_ble_eq_true rfl) (zRm (by omega)) ⟨Nat.le_refl _, Nat.le_refl _⟩ (hrec_mostApart p1 hp1 (a5 &&& (((m.1 p1 r7.toNatClampNeg) ||| (1 <<< (r7 &&& 31))) ^^^ (-1))) (p3 + 1) m _ (zw_b1 h)) (fun r11 m12 q => ?_)
        obtain ⟨rfl, h⟩ := q
        refine zr_iadd X dX10_mostApart_120 ?_
        refine zr_istore (lo' := [(6, .int (1 + r11)), (5, .int r7), (0, .ref (S.heap.size + p1)), (2, .int p3), (3, .int a5), (4, .int a6)]) X dX10_mostApart_121 (by decide) rfl ?_
        refine zr_aload_n X dX10_mostApart_123 2 rfl ?_
        refine zr_iload_n X dX10_mostApart_124 4 rfl ?_
        refine zr_iconst (v := 1) X dX10_mostApart_125 (by decide) ?_
        refine zr_iload X dX10_mostApart_126 1 rfl ?_
        refine zr_ishl X dX10_mostApart_128 ?_
        refine zr_iconst (v := (-1)) X dX10_mostApart_129 (by decide) ?_
        refine zr_ixor X dX10_mostApart_130 ?_
        refine zr_iand X dX10_mostApart_131 ?_
        refine zr_iload_n X dX10_mostApart_132 3 rfl ?_
        refine zr_iconst (v := 1) X dX10_mostApart_133 (by decide) ?_
        refine zr_iadd X dX10_mostApart_134 ?_
        refine zr_callS_i (As := [.ref (S.heap.size + p1), .int (a5 &&& ((1 <<< (r7 &&& 31)) ^^^ (-1))), .int (p3 + 1)]) (st := []) (d := dr) X dX10_mostApart_135 wm_X10_246 ws_X10_mostApart my_X10_mostApart rfl (Nat.le_of_ble_eq_true rfl) (zRm (by omega)) ⟨Nat.le_refl _, Nat.le_refl _⟩ (hrec_mostApart p1 hp1 (a5 &&& ((1 <<< (r7 &&& 31)) ^^^ (-1))) (p3 + 1) m _ (zw_b1 h)) (fun r13 m14 q => ?_)
        obtain ⟨rfl, h⟩ := q
        refine zr_istore (lo' := [(7, .int r13), (6, .int (1 + r11)), (5, .int r7), (0, .ref (S.heap.size + p1)), (2, .int p3), (3, .int a5), (4, .int a6)]) X dX10_mostApart_138 (by decide) rfl ?_
        refine zr_iload X dX10_mostApart_140 6 rfl ?_
        refine zr_iload X dX10_mostApart_142 1 rfl ?_
        refine zr_iload X dX10_mostApart_144 0 rfl ?_
        refine zr_callS_i (As := [.int (1 + r11), .int r13]) (st := [.int a6]) (d := d - 1) X dX10_mostApart_146 wm_X10_394 ws_J9_max_7cf53 my_J9_max_7cf53 rfl (Nat.le_of_ble_eq_true rfl) (zRm (by omega)) ⟨Nat.le_refl _, Nat.le_refl _⟩ (x_fJ_max hG (d - 1) (by omega) (1 + r11) r13 m _ (zw_b1 h)) (fun r15 m16 q => ?_)
        obtain ⟨rfl, h⟩ := q
        refine zr_iadd X dX10_mostApart_149 ?_
        exact zr_iret X dX10_mostApart_150 rfl ⟨Nat.le_refl _, Nat.le_refl _⟩ ⟨rfl, _, rfl, rfl, h⟩
      · rw [if_pos q] at h
        refine zr_iload X dX10_mostApart_96 4 rfl ?_
        exact zr_iret X dX10_mostApart_98 rfl ⟨Nat.le_refl _, Nat.le_refl _⟩ ⟨rfl, _, rfl, rfl, h⟩
  refine zl_w3 (fun a2 a3 a4 => zv_V S D cA p l e (zv_rm d 0 0) s mi args below meth c 8 (MQ below (zv_Q S D cA (zq_i SH0 (fun v m' => m = m' ∧ P v))) args s 0 0 (zv_fr S)) 0 0 8 [(0, .ref (S.heap.size + p1)), (2, .int p3), (3, .int a2), (4, .int a3), (5, .int a4)] [] SH0 m) (fN_mostApart_l8 p1 m) _ (fun P1 hl1 hr1 a2 a3 a4 h => ?_) zFU p2 0 0 (zw_b1 h)
  rw [fN_mostApart_l8] at h
  refine zr_iload X dX10_mostApart_8 4 rfl ?_
  refine zr_bipush (v := 25) X dX10_mostApart_10 (by decide) ?_
  refine zr_icmp_ge (tgt := 74) X dX10_mostApart_12 (by decide) (fun q => ?_) (fun q => ?_)
  · rw [if_neg q] at h
    have h := hr1 _ h
    exact zr_sub [0, 1, 2, 3] rfl (hR1 a2 a3 h)
  · rw [if_pos q] at h
    refine zr_iload_n X dX10_mostApart_15 2 rfl ?_
    refine zr_if_eq (tgt := 74) X dX10_mostApart_16 (by decide) (fun q => ?_) (fun q => ?_)
    · rw [if_pos q] at h
      have h := hr1 _ h
      exact zr_sub [0, 1, 2, 3] rfl (hR1 a2 a3 h)
    · rw [if_neg q] at h
      refine zr_aload_n X dX10_mostApart_19 0 rfl ?_
      refine zr_iload_n X dX10_mostApart_20 2 rfl ?_
      refine zr_callS_i (As := [.ref (S.heap.size + p1), .int a2]) (st := []) (d := d - 1) X dX10_mostApart_21 wm_X10_387 ws_X10_leastLinked my_X10_leastLinked rfl (Nat.le_of_ble_eq_true rfl) (zRm (by omega)) ⟨Nat.le_refl _, Nat.le_refl _⟩ (x_fN_leastLinked hG (d - 1) (by omega) p1 hp1 a2 m _ (zw_b1 h)) (fun r17 m18 q => ?_)
      obtain ⟨rfl, h⟩ := q
      refine zr_istore (lo' := [(6, .int r17), (0, .ref (S.heap.size + p1)), (2, .int p3), (3, .int a2), (4, .int a3), (5, .int a4)]) X dX10_mostApart_24 (by decide) rfl ?_
      refine zr_iload_n X dX10_mostApart_26 3 rfl ?_
      refine zr_iload X dX10_mostApart_27 0 rfl ?_
      refine zr_callS_i (As := [.int a2, .int r17]) (st := []) (d := d - 1) X dX10_mostApart_29 wm_X10_189 ws_X10_isIn my_X10_isIn rfl (Nat.le_of_ble_eq_true rfl) (zRm (by omega)) ⟨Nat.le_refl _, Nat.le_refl _⟩ (x_fN_isIn hG (d - 1) (by omega) a2 r17 m _ (zw_b1 h)) (fun r19 m20 q => ?_)
      obtain ⟨rfl, h⟩ := q
      refine zr_if_eq (tgt := 74) X dX10_mostApart_32 (by decide) (fun q => ?_) (fun q => ?_)
      · rw [if_pos q] at h
        have h := hr1 _ h
        exact zr_sub [1, 2, 3, 4] rfl (hR1 a2 a3 h)
      · rw [if_neg q] at h
        refine zr_aload_n X dX10_mostApart_35 1 rfl ?_
        refine zr_iload X dX10_mostApart_36 0 rfl ?_
        obtain ⟨g0, h⟩ := zg_e h
        refine zr_iald X dX10_mostApart_38 hp1 (zI_in g0) ?_
        refine zr_iload_n X dX10_mostApart_39 3 rfl ?_
        refine zr_iand X dX10_mostApart_40 ?_
        refine zr_callS_i (As := [.int ((m.1 p1 r17.toNatClampNeg) &&& a2)]) (st := []) (d := d - 1) X dX10_mostApart_41 wm_X10_166 ws_J6_bitCount_0f7a4 my_J6_bitCount_0f7a4 rfl (Nat.le_of_ble_eq_true rfl) (zRm (by omega)) ⟨Nat.le_refl _, Nat.le_refl _⟩ (x_fJ_bitCount hG (d - 1) (by omega) ((m.1 p1 r17.toNatClampNeg) &&& a2) m _ (zw_b1 h)) (fun r21 m22 q => ?_)
        obtain ⟨rfl, h⟩ := q
        refine zr_iconst (v := 1) X dX10_mostApart_44 (by decide) ?_
        refine zr_icmp_le (tgt := 51) X dX10_mostApart_45 (by decide) (fun q => ?_) (fun q => ?_)
        · rw [if_neg q] at h
          refine zr_iinc (v := a3 + 1) (lo' := [(4, .int (a3 + 1)), (6, .int r17), (0, .ref (S.heap.size + p1)), (2, .int p3), (3, .int a2), (5, .int a4)]) X dX10_mostApart_51 4 rfl rfl (by decide) rfl ?_
          refine zr_iload_n X dX10_mostApart_54 4 rfl ?_
          refine zr_aload_n X dX10_mostApart_55 2 rfl ?_
          refine zr_iload X dX10_mostApart_56 1 rfl ?_
          obtain ⟨g0, h⟩ := zg_e h
          refine zr_iald X dX10_mostApart_58 hp1 (zI_in g0) ?_
          refine zr_iconst (v := 1) X dX10_mostApart_59 (by decide) ?_
          refine zr_iload X dX10_mostApart_60 1 rfl ?_
          refine zr_ishl X dX10_mostApart_62 ?_
          refine zr_ior X dX10_mostApart_63 ?_
          refine zr_iconst (v := (-1)) X dX10_mostApart_64 (by decide) ?_
          refine zr_ixor X dX10_mostApart_65 ?_
          refine zr_iand X dX10_mostApart_66 ?_
          refine zr_topi (fun a23 ea23 => ?_)
          rw [zlet, ← ea23] at h
          refine zr_istore_n (lo' := [(3, .int a23), (4, .int (a3 + 1)), (6, .int r17), (0, .ref (S.heap.size + p1)), (2, .int p3), (5, .int a4)]) X dX10_mostApart_67 (by decide) rfl ?_
          refine zr_iinc (v := a4 + 1) (lo' := [(5, .int (a4 + 1)), (3, .int a23), (4, .int (a3 + 1)), (6, .int r17), (0, .ref (S.heap.size + p1)), (2, .int p3)]) X dX10_mostApart_68 5 rfl rfl (by decide) rfl ?_
          refine zr_goto (tgt := 8) X dX10_mostApart_71 (by decide) ?_
          have h := hl1 _ h
          exact zr_sub [4, 5, 1, 2, 0] rfl h
        · rw [if_pos q] at h
          refine zr_goto (tgt := 74) X dX10_mostApart_48 (by decide) ?_
          have h := hr1 _ h
          exact zr_sub [1, 2, 3, 4] rfl (hR1 a2 a3 h)

set_option maxRecDepth 100000 in
set_option maxHeartbeats 4000000 in
theorem x_fN_mostApart_n {l : Launch} {S : State} {D : va_G} {cA : Nat → ClassId} {tb sx : Nat → Nat} (hG : zv_G S D cA tb sx) : ∀ (n d : Nat), 3 + n ≤ d → ∀ (p1 : Nat) (hp1 : zar p1 0) (p2 : Int32) (p3 : Int32) (m : zv_M) (P : Int32 → Prop), zw (fN_mostApart n p1 p2 p3 m) P → zv_Met l S D cA d 0 0 yX10_mostApart cX10_mostApart 8 (some .int) [.ref (S.heap.size + p1), .int p2, .int p3] SH0 m (zq_i SH0 (fun v m' => m = m' ∧ P v)) := by
  intro n
  induction n with
  | zero =>
    intro d hd p1 hp1 p2 p3 m P h
    rw [fN_mostApart] at h
    exact h.elim
  | succ n ih =>
    intro d hd p1 hp1 p2 p3 m P h
    rw [fN_mostApart] at h
    exact xo_fN_mostApart hG d (d - 1) (by omega) (by omega) (fN_mostApart n) (ih (d - 1) (by omega)) p1 hp1 p2 p3 m P h
theorem x_fN_mostApart {l : Launch} {S : State} {D : va_G} {cA : Nat → ClassId} {tb sx : Nat → Nat} (hG : zv_G S D cA tb sx) (d : Nat) (hd : 33 ≤ d) (p1 : Nat) (hp1 : zar p1 0) (p2 : Int32) (p3 : Int32) (m : zv_M) (P : Int32 → Prop) (h : zw (fN_mostApart 30 p1 p2 p3 m) P) : zv_Met l S D cA d 0 0 yX10_mostApart cX10_mostApart 8 (some .int) [.ref (S.heap.size + p1), .int p2, .int p3] SH0 m (zq_i SH0 (fun v m' => m = m' ∧ P v)) := x_fN_mostApart_n hG 30 d (by omega) p1 hp1 p2 p3 m P h

set_option maxRecDepth 100000 in
set_option maxHeartbeats 4000000 in
theorem x_fN_most {l : Launch} {S : State} {D : va_G} {cA : Nat → ClassId} {tb sx : Nat → Nat} (hG : zv_G S D cA tb sx) (d : Nat) (hd : 34 ≤ d) (p1 : Int32) (m : zv_M) (P : Int32 → zv_M → Prop) (h : zw2 (fN_most p1 m) P) : zv_Met l S D cA d 0 0 yX10_most cX10_most 3 (some .int) [.ref (S.heap.size + 0), .int p1] SH0 m (zq_i SH0 P) := by
  refine zv_met false hG pf_X10_most (fun z => by cases z) (Nat.le_of_ble_eq_true rfl) [(0, .ref (S.heap.size + 0)), (1, .int p1)] rfl (fun p e s mi args below meth c X => ?_)
  rw [fN_most] at h
  refine zr_aload_n X dX10_most_0 0 rfl ?_
  refine zr_iload_n X dX10_most_1 1 rfl ?_
  refine zr_callV_i (As := [.int p1]) (st := []) (d := d - 1) X dX10_most_2 wm_X10_119 my_X10_isPlan mv_X10_isPlan zo_0 rfl (Nat.le_of_ble_eq_true rfl) (zRm (by omega)) ⟨Nat.le_refl _, Nat.le_refl _⟩ (x_fN_isPlan hG (d - 1) (by omega) p1 m _ (zw_b12 h)) (fun r1 m2 q => ?_)
  obtain ⟨rfl, h⟩ := q
  refine zr_if_ne (tgt := 10) X dX10_most_5 (by decide) (fun q => ?_) (fun q => ?_)
  · rw [if_neg q] at h
    refine zr_aload_n X dX10_most_10 0 rfl ?_
    refine zr_callV_a (As := []) (st := []) (d := d - 1) X dX10_most_11 wm_X10_154 my_X10_ground mv_X10_ground zo_0 rfl (Nat.le_of_ble_eq_true rfl) (zRm (by omega)) ⟨Nat.le_refl _, Nat.le_refl _⟩ (x_fN_ground hG (d - 1) (by omega) m _ (zw_b12 h)) (fun r3 m4 q => ?_)
    obtain ⟨rfl, hc5, h⟩ := q
    refine zr_callV_i (As := []) (st := []) (d := d - 1) X dX10_most_14 wm_X10_233 my_X8_free mv_X8_free hc5 rfl (Nat.le_of_ble_eq_true rfl) (zRm (by omega)) ⟨Nat.le_refl _, Nat.le_refl _⟩ (x_fYa_free hG (d - 1) (by omega) r3 hc5 m _ (zw_b12 h)) (fun r6 m7 q => ?_)
    obtain ⟨rfl, h⟩ := q
    refine zr_istore_n (lo' := [(2, .int r6), (0, .ref (S.heap.size + 0)), (1, .int p1)]) X dX10_most_17 (by decide) rfl ?_
    refine zr_aload_n X dX10_most_18 1 rfl ?_
    refine zr_iload_n X dX10_most_19 2 rfl ?_
    refine zr_callV_v (As := [.int p1]) (st := []) (d := d - 1) X dX10_most_20 wm_X10_236 my_X10_lookByPlan mv_X10_lookByPlan zo_0 rfl (Nat.le_of_ble_eq_true rfl) (zRm (by omega)) ⟨Nat.le_refl _, Nat.le_refl _⟩ (x_fN_lookByPlan hG (d - 1) (by omega) p1 m _ (zw_b12 h)) (fun m8 q => ?_)
    replace h := q
    refine zr_aload_n X dX10_most_23 1 rfl ?_
    refine zr_getR X dX10_most_24 zd_X10_54 rfl zo_0 zl_0_8 ?_
    refine zr_iload_n X dX10_most_27 0 rfl ?_
    refine zr_callV_v (As := [.int r6]) (st := []) (d := d - 1) X dX10_most_28 wm_X10_239 my_X4_join mv_X4_join zo_46 rfl (Nat.le_of_ble_eq_true rfl) (zRm (by omega)) ⟨Nat.le_refl _, Nat.le_refl _⟩ (x_fSi_join hG (d - 1) (by omega) 46 zo_46 r6 m8 _ (zw_b12 h)) (fun m9 q => ?_)
    replace h := q
    refine zr_aload_n X dX10_most_31 1 rfl ?_
    refine zr_getR X dX10_most_32 zd_X10_54 rfl zo_0 zl_0_8 ?_
    refine zr_getR X dX10_most_35 zd_X10_242 rfl zo_46 zl_46_1 ?_
    refine zr_iload_n X dX10_most_38 0 rfl ?_
    refine zr_iconst (v := 0) X dX10_most_39 (by decide) ?_
    refine zr_callS_i (As := [.ref (S.heap.size + 48), .int r6, .int 0]) (st := []) (d := d - 1) X dX10_most_40 wm_X10_246 ws_X10_mostApart my_X10_mostApart rfl (Nat.le_of_ble_eq_true rfl) (zRm (by omega)) ⟨Nat.le_refl _, Nat.le_refl _⟩ (x_fN_mostApart hG (d - 1) (by omega) 48 za_48 r6 0 m9 _ (zw_b12 h)) (fun r10 m11 q => ?_)
    obtain ⟨rfl, h⟩ := q
    exact zr_iret X dX10_most_43 rfl ⟨Nat.le_refl _, Nat.le_refl _⟩ ⟨rfl, _, rfl, h⟩
  · rw [if_pos q] at h
    refine zr_iconst (v := (-1)) X dX10_most_8 (by decide) ?_
    exact zr_iret X dX10_most_9 rfl ⟨Nat.le_refl _, Nat.le_refl _⟩ ⟨rfl, _, rfl, h⟩

set_option maxRecDepth 100000 in
set_option maxHeartbeats 4000000 in
theorem xo_fN_leastHolders {l : Launch} {S : State} {D : va_G} {cA : Nat → ClassId} {tb sx : Nat → Nat} (hG : zv_G S D cA tb sx) (d dr : Nat) (hd : 2 ≤ d) (hdr : dr + 1 ≤ d) (rec_leastHolders : Nat → Int32 → Int32 → Int32 → Int32 → Int32 → zv_M → Option (Int32)) (hrec_leastHolders : ∀ (p1 : Nat) (hp1 : zar p1 0) (p2 : Int32) (p3 : Int32) (p4 : Int32) (p5 : Int32) (p6 : Int32) (m : zv_M) (P : Int32 → Prop), zw (rec_leastHolders p1 p2 p3 p4 p5 p6 m) P → zv_Met l S D cA dr 0 0 yX10_leastHolders cX10_leastHolders 8 (some .int) [.ref (S.heap.size + p1), .int p2, .int p3, .int p4, .int p5, .int p6] SH0 m (zq_i SH0 (fun v m' => m = m' ∧ P v))) (p1 : Nat) (hp1 : zar p1 0) (p2 : Int32) (p3 : Int32) (p4 : Int32) (p5 : Int32) (p6 : Int32) (m : zv_M) (P : Int32 → Prop) (h : zw (fN_leastHolders_b rec_leastHolders p1 p2 p3 p4 p5 p6 m) P) : zv_Met l S D cA d 0 0 yX10_leastHolders cX10_leastHolders 8 (some .int) [.ref (S.heap.size + p1), .int p2, .int p3, .int p4, .int p5, .int p6] SH0 m (zq_i SH0 (fun v m' => m = m' ∧ P v)) := by
  refine zv_met false hG pf_X10_leastHolders (fun z => by cases z) (Nat.le_of_ble_eq_true rfl) [(0, .ref (S.heap.size + p1)), (1, .int p2), (2, .int p3), (3, .int p4), (4, .int p5), (5, .int p6)] rfl (fun p e s mi args below meth c X => ?_)
  rw [fN_leastHolders_b] at h
  refine zr_iload X dX10_leastHolders_0 5 rfl ?_
  have hJ16 : zw (fN_leastHolders_j16 p3 p6) P → zv_V S D cA p l e (zv_rm d 0 0) s mi args below meth c 8 (MQ below (zv_Q S D cA (zq_i SH0 (fun v m' => m = m' ∧ P v))) args s 0 0 (zv_fr S)) 0 0 16 [(2, .int p3), (5, .int p6)] [] SH0 m := by
    intro h
    rw [fN_leastHolders_j16] at h
    refine zr_iload X dX10_leastHolders_16 1 rfl ?_
    refine zr_if_ne (tgt := 29) X dX10_leastHolders_18 (by decide) (fun q => ?_) (fun q => ?_)
    · rw [if_neg q] at h
      refine zr_iconst (v := (-1)) X dX10_leastHolders_29 (by decide) ?_
      exact zr_iret X dX10_leastHolders_30 rfl ⟨Nat.le_refl _, Nat.le_refl _⟩ ⟨rfl, _, rfl, rfl, h⟩
    · rw [if_pos q] at h
      refine zr_iload_n X dX10_leastHolders_21 0 rfl ?_
      refine zr_if_ne (tgt := 29) X dX10_leastHolders_22 (by decide) (fun q => ?_) (fun q => ?_)
      · rw [if_neg q] at h
        refine zr_iconst (v := (-1)) X dX10_leastHolders_29 (by decide) ?_
        exact zr_iret X dX10_leastHolders_30 rfl ⟨Nat.le_refl _, Nat.le_refl _⟩ ⟨rfl, _, rfl, rfl, h⟩
      · rw [if_pos q] at h
        refine zr_iconst (v := 0) X dX10_leastHolders_25 (by decide) ?_
        refine zr_goto (tgt := 30) X dX10_leastHolders_26 (by decide) ?_
        exact zr_iret X dX10_leastHolders_30 rfl ⟨Nat.le_refl _, Nat.le_refl _⟩ ⟨rfl, _, rfl, rfl, h⟩
  refine zr_if_le (tgt := 16) X dX10_leastHolders_2 (by decide) (fun q => ?_) (fun q => ?_)
  · rw [if_neg q] at h
    exact zr_sub [2, 5] rfl (hJ16 h)
  · rw [if_pos q] at h
    refine zr_iload_n X dX10_leastHolders_5 2 rfl ?_
    refine zr_callS_i (As := [.int p3]) (st := []) (d := d - 1) X dX10_leastHolders_6 wm_X10_166 ws_J6_bitCount_0f7a4 my_J6_bitCount_0f7a4 rfl (Nat.le_of_ble_eq_true rfl) (zRm (by omega)) ⟨Nat.le_refl _, Nat.le_refl _⟩ (x_fJ_bitCount hG (d - 1) (by omega) p3 m _ (zw_b1 h)) (fun r1 m2 q => ?_)
    obtain ⟨rfl, h⟩ := q
    refine zr_iload X dX10_leastHolders_9 5 rfl ?_
    refine zr_iload_n X dX10_leastHolders_11 3 rfl ?_
    refine zr_imul X dX10_leastHolders_12 ?_
    refine zr_icmp_le (tgt := 31) X dX10_leastHolders_13 (by decide) (fun q => ?_) (fun q => ?_)
    · rw [if_neg q] at h
      refine zr_iconst (v := 0) X dX10_leastHolders_31 (by decide) ?_
      refine zr_istore (lo' := [(6, .int 0), (0, .ref (S.heap.size + p1)), (1, .int p2), (2, .int p3), (3, .int p4), (4, .int p5), (5, .int p6)]) X dX10_leastHolders_32 (by decide) rfl ?_
      refine zr_sub [1, 2, 3, 4, 5, 6, 0] rfl ?_
      refine zl_w1 (fun a4 => zv_V S D cA p l e (zv_rm d 0 0) s mi args below meth c 8 (MQ below (zv_Q S D cA (zq_i SH0 (fun v m' => m = m' ∧ P v))) args s 0 0 (zv_fr S)) 0 0 34 [(0, .ref (S.heap.size + p1)), (1, .int p2), (2, .int p3), (3, .int p4), (4, .int p5), (5, .int p6), (6, .int a4)] [] SH0 m) (fN_leastHolders_l34 p1 p2 p3 p4 p5 p6 m rec_leastHolders) _ (fun P3 hl3 hr3 a4 h => ?_) zFU 0 (zw_b1 h)
      rw [fN_leastHolders_l34] at h
      refine zr_iload X dX10_leastHolders_34 6 rfl ?_
      refine zr_iload X dX10_leastHolders_36 4 rfl ?_
      refine zr_icmp_ge (tgt := 98) X dX10_leastHolders_38 (by decide) (fun q => ?_) (fun q => ?_)
      · rw [if_neg q] at h
        refine zr_iconst (v := (-1)) X dX10_leastHolders_98 (by decide) ?_
        have h := hr3 _ h
        exact zr_iret X dX10_leastHolders_99 rfl ⟨Nat.le_refl _, Nat.le_refl _⟩ ⟨rfl, _, rfl, rfl, h⟩
      · rw [if_pos q] at h
        refine zr_iload X dX10_leastHolders_41 6 rfl ?_
        refine zr_aload_n X dX10_leastHolders_43 0 rfl ?_
        refine zr_alen (v := Int32.ofNat (zln p1)) X dX10_leastHolders_44 hp1 (by decide) rfl ?_
        refine zr_icmp_ge (tgt := 98) X dX10_leastHolders_45 (by decide) (fun q => ?_) (fun q => ?_)
        · rw [if_neg q] at h
          refine zr_iconst (v := (-1)) X dX10_leastHolders_98 (by decide) ?_
          have h := hr3 _ h
          exact zr_iret X dX10_leastHolders_99 rfl ⟨Nat.le_refl _, Nat.le_refl _⟩ ⟨rfl, _, rfl, rfl, h⟩
        · rw [if_pos q] at h
          refine zr_iload_n X dX10_leastHolders_48 1 rfl ?_
          refine zr_iload X dX10_leastHolders_49 6 rfl ?_
          refine zr_callS_i (As := [.int p2, .int a4]) (st := []) (d := d - 1) X dX10_leastHolders_51 wm_X10_189 ws_X10_isIn my_X10_isIn rfl (Nat.le_of_ble_eq_true rfl) (zRm (by omega)) ⟨Nat.le_refl _, Nat.le_refl _⟩ (x_fN_isIn hG (d - 1) (by omega) p2 a4 m _ (zw_b1 h)) (fun r5 m6 q => ?_)
          obtain ⟨rfl, h⟩ := q
          have hJ92 : zw (fN_leastHolders_j92 a4) P3 → zv_V S D cA p l e (zv_rm d 0 0) s mi args below meth c 8 (MQ below (zv_Q S D cA (zq_i SH0 (fun v m' => m = m' ∧ P v))) args s 0 0 (zv_fr S)) 0 0 92 [(0, .ref (S.heap.size + p1)), (1, .int p2), (2, .int p3), (3, .int p4), (4, .int p5), (5, .int p6), (6, .int a4)] [] SH0 m := by
            intro h
            rw [fN_leastHolders_j92] at h
            refine zr_iinc (v := a4 + 1) (lo' := [(6, .int (a4 + 1)), (0, .ref (S.heap.size + p1)), (1, .int p2), (2, .int p3), (3, .int p4), (4, .int p5), (5, .int p6)]) X dX10_leastHolders_92 6 rfl rfl (by decide) rfl ?_
            refine zr_goto (tgt := 34) X dX10_leastHolders_95 (by decide) ?_
            have h := hl3 _ h
            exact zr_sub [1, 2, 3, 4, 5, 6, 0] rfl h
          refine zr_if_eq (tgt := 92) X dX10_leastHolders_54 (by decide) (fun q => ?_) (fun q => ?_)
          · rw [if_pos q] at h
            exact zr_sub [0, 1, 2, 3, 4, 5, 6] rfl (hJ92 h)
          · rw [if_neg q] at h
            refine zr_aload_n X dX10_leastHolders_57 0 rfl ?_
            refine zr_iload_n X dX10_leastHolders_58 1 rfl ?_
            refine zr_iload_n X dX10_leastHolders_59 2 rfl ?_
            refine zr_aload_n X dX10_leastHolders_60 0 rfl ?_
            refine zr_iload X dX10_leastHolders_61 6 rfl ?_
            obtain ⟨g0, h⟩ := zg_e h
            refine zr_iald X dX10_leastHolders_63 hp1 (zI_in g0) ?_
            refine zr_iconst (v := (-1)) X dX10_leastHolders_64 (by decide) ?_
            refine zr_ixor X dX10_leastHolders_65 ?_
            refine zr_iand X dX10_leastHolders_66 ?_
            refine zr_iload_n X dX10_leastHolders_67 3 rfl ?_
            refine zr_iload X dX10_leastHolders_68 6 rfl ?_
            refine zr_iload X dX10_leastHolders_70 5 rfl ?_
            refine zr_iconst (v := 1) X dX10_leastHolders_72 (by decide) ?_
            refine zr_isub X dX10_leastHolders_73 ?_
            refine zr_callS_i (As := [.ref (S.heap.size + p1), .int p2, .int (p3 &&& ((m.1 p1 a4.toNatClampNeg) ^^^ (-1))), .int p4, .int a4, .int (p6 - 1)]) (st := []) (d := dr) X dX10_leastHolders_74 wm_X10_262 ws_X10_leastHolders my_X10_leastHolders rfl (Nat.le_of_ble_eq_true rfl) (zRm (by omega)) ⟨Nat.le_refl _, Nat.le_refl _⟩ (hrec_leastHolders p1 hp1 p2 (p3 &&& ((m.1 p1 a4.toNatClampNeg) ^^^ (-1))) p4 a4 (p6 - 1) m _ (zw_b1 h)) (fun r7 m8 q => ?_)
            obtain ⟨rfl, h⟩ := q
            refine zr_istore (lo' := [(7, .int r7), (0, .ref (S.heap.size + p1)), (1, .int p2), (2, .int p3), (3, .int p4), (4, .int p5), (5, .int p6), (6, .int a4)]) X dX10_leastHolders_77 (by decide) rfl ?_
            refine zr_iload X dX10_leastHolders_79 0 rfl ?_
            refine zr_if_lt (tgt := 92) X dX10_leastHolders_81 (by decide) (fun q => ?_) (fun q => ?_)
            · rw [if_pos q] at h
              exact zr_sub [1, 2, 3, 4, 5, 6, 7] rfl (hJ92 h)
            · rw [if_neg q] at h
              refine zr_iload X dX10_leastHolders_84 0 rfl ?_
              refine zr_iconst (v := 1) X dX10_leastHolders_86 (by decide) ?_
              refine zr_iload X dX10_leastHolders_87 7 rfl ?_
              refine zr_ishl X dX10_leastHolders_89 ?_
              refine zr_ior X dX10_leastHolders_90 ?_
              have h := hr3 _ h
              exact zr_iret X dX10_leastHolders_91 rfl ⟨Nat.le_refl _, Nat.le_refl _⟩ ⟨rfl, _, rfl, rfl, h⟩
    · rw [if_pos q] at h
      exact zr_sub [2, 5] rfl (hJ16 h)

set_option maxRecDepth 100000 in
set_option maxHeartbeats 4000000 in
theorem x_fN_leastHolders_n {l : Launch} {S : State} {D : va_G} {cA : Nat → ClassId} {tb sx : Nat → Nat} (hG : zv_G S D cA tb sx) : ∀ (n d : Nat), 2 + n ≤ d → ∀ (p1 : Nat) (hp1 : zar p1 0) (p2 : Int32) (p3 : Int32) (p4 : Int32) (p5 : Int32) (p6 : Int32) (m : zv_M) (P : Int32 → Prop), zw (fN_leastHolders n p1 p2 p3 p4 p5 p6 m) P → zv_Met l S D cA d 0 0 yX10_leastHolders cX10_leastHolders 8 (some .int) [.ref (S.heap.size + p1), .int p2, .int p3, .int p4, .int p5, .int p6] SH0 m (zq_i SH0 (fun v m' => m = m' ∧ P v)) := by
  intro n
  induction n with
  | zero =>
    intro d hd p1 hp1 p2 p3 p4 p5 p6 m P h
    rw [fN_leastHolders] at h
    exact h.elim
  | succ n ih =>
    intro d hd p1 hp1 p2 p3 p4 p5 p6 m P h
    rw [fN_leastHolders] at h
    exact xo_fN_leastHolders hG d (d - 1) (by omega) (by omega) (fN_leastHolders n) (ih (d - 1) (by omega)) p1 hp1 p2 p3 p4 p5 p6 m P h
theorem x_fN_leastHolders {l : Launch} {S : State} {D : va_G} {cA : Nat → ClassId} {tb sx : Nat → Nat} (hG : zv_G S D cA tb sx) (d : Nat) (hd : 10 ≤ d) (p1 : Nat) (hp1 : zar p1 0) (p2 : Int32) (p3 : Int32) (p4 : Int32) (p5 : Int32) (p6 : Int32) (m : zv_M) (P : Int32 → Prop) (h : zw (fN_leastHolders 8 p1 p2 p3 p4 p5 p6 m) P) : zv_Met l S D cA d 0 0 yX10_leastHolders cX10_leastHolders 8 (some .int) [.ref (S.heap.size + p1), .int p2, .int p3, .int p4, .int p5, .int p6] SH0 m (zq_i SH0 (fun v m' => m = m' ∧ P v)) := x_fN_leastHolders_n hG 8 d (by omega) p1 hp1 p2 p3 p4 p5 p6 m P h

set_option maxRecDepth 100000 in
set_option maxHeartbeats 4000000 in
theorem x_fN_hold {l : Launch} {S : State} {D : va_G} {cA : Nat → ClassId} {tb sx : Nat → Nat} (hG : zv_G S D cA tb sx) (d : Nat) (hd : 11 ≤ d) (p1 : Int32) (p2 : Int32) (m : zv_M) (P : Int32 → zv_M → Prop) (h : zw2 (fN_hold p1 p2 m) P) : zv_Met l S D cA d 0 0 yX10_hold cX10_hold 8 (some .int) [.ref (S.heap.size + 0), .int p1, .int p2] SH0 m (zq_i SH0 P) := by
  refine zv_met false hG pf_X10_hold (fun z => by cases z) (Nat.le_of_ble_eq_true rfl) [(0, .ref (S.heap.size + 0)), (1, .int p1), (2, .int p2)] rfl (fun p e s mi args below meth c X => ?_)
  rw [fN_hold] at h
  refine zr_aload_n X dX10_hold_0 0 rfl ?_
  refine zr_iload_n X dX10_hold_1 1 rfl ?_
  refine zr_callV_i (As := [.int p1]) (st := []) (d := d - 1) X dX10_hold_2 wm_X10_119 my_X10_isPlan mv_X10_isPlan zo_0 rfl (Nat.le_of_ble_eq_true rfl) (zRm (by omega)) ⟨Nat.le_refl _, Nat.le_refl _⟩ (x_fN_isPlan hG (d - 1) (by omega) p1 m _ (zw_b12 h)) (fun r1 m2 q => ?_)
  obtain ⟨rfl, h⟩ := q
  refine zr_if_eq (tgt := 17) X dX10_hold_5 (by decide) (fun q => ?_) (fun q => ?_)
  · rw [if_pos q] at h
    refine zr_iconst (v := (-1)) X dX10_hold_17 (by decide) ?_
    exact zr_iret X dX10_hold_18 rfl ⟨Nat.le_refl _, Nat.le_refl _⟩ ⟨rfl, _, rfl, h⟩
  · rw [if_neg q] at h
    refine zr_iload_n X dX10_hold_8 2 rfl ?_
    refine zr_if_lt (tgt := 17) X dX10_hold_9 (by decide) (fun q => ?_) (fun q => ?_)
    · rw [if_pos q] at h
      refine zr_iconst (v := (-1)) X dX10_hold_17 (by decide) ?_
      exact zr_iret X dX10_hold_18 rfl ⟨Nat.le_refl _, Nat.le_refl _⟩ ⟨rfl, _, rfl, h⟩
    · rw [if_neg q] at h
      refine zr_iload_n X dX10_hold_12 2 rfl ?_
      refine zr_iconst (v := 1) X dX10_hold_13 (by decide) ?_
      refine zr_icmp_le (tgt := 19) X dX10_hold_14 (by decide) (fun q => ?_) (fun q => ?_)
      · rw [if_neg q] at h
        refine zr_aload_n X dX10_hold_19 0 rfl ?_
        refine zr_callV_a (As := []) (st := []) (d := d - 1) X dX10_hold_20 wm_X10_154 my_X10_ground mv_X10_ground zo_0 rfl (Nat.le_of_ble_eq_true rfl) (zRm (by omega)) ⟨Nat.le_refl _, Nat.le_refl _⟩ (x_fN_ground hG (d - 1) (by omega) m _ (zw_b12 h)) (fun r3 m4 q => ?_)
        obtain ⟨rfl, hc5, h⟩ := q
        refine zr_astore_n (lo' := [(3, .ref (S.heap.size + r3)), (0, .ref (S.heap.size + 0)), (1, .int p1), (2, .int p2)]) X dX10_hold_23 (by decide) rfl ?_
        refine zr_aload_n X dX10_hold_24 1 rfl ?_
        refine zr_iload_n X dX10_hold_25 2 rfl ?_
        refine zr_callV_v (As := [.int p1]) (st := []) (d := d - 1) X dX10_hold_26 wm_X10_236 my_X10_lookByPlan mv_X10_lookByPlan zo_0 rfl (Nat.le_of_ble_eq_true rfl) (zRm (by omega)) ⟨Nat.le_refl _, Nat.le_refl _⟩ (x_fN_lookByPlan hG (d - 1) (by omega) p1 m _ (zw_b12 h)) (fun m6 q => ?_)
        replace h := q
        refine zr_aload_n X dX10_hold_29 1 rfl ?_
        refine zr_getR X dX10_hold_30 zd_X10_54 rfl zo_0 zl_0_8 ?_
        refine zr_callV_v (As := []) (st := []) (d := d - 1) X dX10_hold_33 wm_X10_250 my_X4_addOwnSquares mv_X4_addOwnSquares zo_46 rfl (Nat.le_of_ble_eq_true rfl) (zRm (by omega)) ⟨Nat.le_refl _, Nat.le_refl _⟩ (x_fSi_addOwnSquares hG (d - 1) (by omega) 46 zo_46 m6 _ (zw_b12 h)) (fun m7 q => ?_)
        replace h := q
        refine zr_aload_n X dX10_hold_36 0 rfl ?_
        refine zr_callV_i (As := []) (st := []) (d := d - 1) X dX10_hold_37 wm_X10_253 my_X8_all mv_X8_all hc5 rfl (Nat.le_of_ble_eq_true rfl) (zRm (by omega)) ⟨Nat.le_refl _, Nat.le_refl _⟩ (x_fYa_all hG (d - 1) (by omega) r3 hc5 m7 _ (zw_b12 h)) (fun r8 m9 q => ?_)
        obtain ⟨rfl, h⟩ := q
        refine zr_aload_n X dX10_hold_40 0 rfl ?_
        refine zr_getI X dX10_hold_41 zd_X10_171 rfl hc5 (by rw [zk_8 hc5]; decide) ?_
        refine zr_iconst (v := (-1)) X dX10_hold_44 (by decide) ?_
        refine zr_ixor X dX10_hold_45 ?_
        refine zr_iand X dX10_hold_46 ?_
        refine zr_istore (lo' := [(4, .int (r8 &&& ((m7.1 r3 2) ^^^ (-1)))), (3, .ref (S.heap.size + r3)), (0, .ref (S.heap.size + 0)), (1, .int p1), (2, .int p2)]) X dX10_hold_47 (by decide) rfl ?_
        refine zr_aload_n X dX10_hold_49 2 rfl ?_
        refine zr_getR X dX10_hold_50 zd_X10_54 rfl zo_0 zl_0_8 ?_
        refine zr_callV_i (As := []) (st := []) (d := d - 1) X dX10_hold_53 wm_X10_256 my_X4_mostSeen mv_X4_mostSeen zo_46 rfl (Nat.le_of_ble_eq_true rfl) (zRm (by omega)) ⟨Nat.le_refl _, Nat.le_refl _⟩ (x_fSi_mostSeen hG (d - 1) (by omega) 46 zo_46 m7 _ (zw_b12 h)) (fun r10 m11 q => ?_)
        obtain ⟨rfl, h⟩ := q
        refine zr_istore (lo' := [(5, .int r10), (4, .int (r8 &&& ((m7.1 r3 2) ^^^ (-1)))), (3, .ref (S.heap.size + r3)), (0, .ref (S.heap.size + 0)), (1, .int p1), (2, .int p2)]) X dX10_hold_56 (by decide) rfl ?_
        refine zr_iconst (v := 1) X dX10_hold_58 (by decide) ?_
        refine zr_istore (lo' := [(6, .int 1), (5, .int r10), (4, .int (r8 &&& ((m7.1 r3 2) ^^^ (-1)))), (3, .ref (S.heap.size + r3)), (0, .ref (S.heap.size + 0)), (1, .int p1), (2, .int p2)]) X dX10_hold_59 (by decide) rfl ?_
        refine zr_sub [4, 6, 3, 2, 1, 0] rfl ?_
        have hR12 : ∀ (a14 : Int32) (a15 : Int32), zw2 (if p2 = 0 then some (a14, m7) else some (a15, m7) : Option (Int32 × zv_M)) P → zv_V S D cA p l e (zv_rm d 0 0) s mi args below meth c 8 (MQ below (zv_Q S D cA (zq_i SH0 P)) args s 0 0 (zv_fr S)) 0 0 96 [(2, .int p2), (6, .int a14), (7, .int a15)] [] SH0 m7 := by
          intro a14 a15 h
          refine zr_iload_n X dX10_hold_96 0 rfl ?_
          refine zr_if_ne (tgt := 105) X dX10_hold_97 (by decide) (fun q => ?_) (fun q => ?_)
          · rw [if_neg q] at h
            refine zr_iload X dX10_hold_105 2 rfl ?_
            exact zr_iret X dX10_hold_107 rfl ⟨Nat.le_refl _, Nat.le_refl _⟩ ⟨rfl, _, rfl, h⟩
          · rw [if_pos q] at h
            refine zr_iload X dX10_hold_100 1 rfl ?_
            refine zr_goto (tgt := 107) X dX10_hold_102 (by decide) ?_
            exact zr_iret X dX10_hold_107 rfl ⟨Nat.le_refl _, Nat.le_refl _⟩ ⟨rfl, _, rfl, h⟩
        refine zl_w1 (fun a13 => zv_V S D cA p l e (zv_rm d 0 0) s mi args below meth c 8 (MQ below (zv_Q S D cA (zq_i SH0 P)) args s 0 0 (zv_fr S)) 0 0 61 [(0, .ref (S.heap.size + 0)), (2, .int p2), (3, .ref (S.heap.size + r3)), (4, .int (r8 &&& ((m7.1 r3 2) ^^^ (-1)))), (5, .int r10), (6, .int a13)] [] SH0 m7) (fN_hold_l61 r3 m7 r8 r10) _ (fun P12 hl12 hr12 a13 h => ?_) zFU 1 (zw_b12 h)
        rw [fN_hold_l61] at h
        refine zr_iload X dX10_hold_61 5 rfl ?_
        refine zr_iconst (v := 4) X dX10_hold_63 (by decide) ?_
        refine zr_icmp_gt (tgt := 114) X dX10_hold_64 (by decide) (fun q => ?_) (fun q => ?_)
        · rw [if_pos q] at h
          refine zr_bipush (v := (-5)) X dX10_hold_114 (by decide) ?_
          have h := hr12 _ h
          exact zr_iret X dX10_hold_116 rfl ⟨Nat.le_refl _, Nat.le_refl _⟩ ⟨rfl, _, rfl, h⟩
        · rw [if_neg q] at h
          refine zr_aload_n X dX10_hold_67 0 rfl ?_
          refine zr_getR X dX10_hold_68 zd_X10_54 rfl zo_0 zl_0_8 ?_
          refine zr_getR X dX10_hold_71 zd_X10_259 rfl zo_46 zl_46_0 ?_
          refine zr_aload_n X dX10_hold_74 2 rfl ?_
          refine zr_callV_i (As := []) (st := [.ref (S.heap.size + 47)]) (d := d - 1) X dX10_hold_75 wm_X10_233 my_X8_free mv_X8_free hc5 rfl (Nat.le_of_ble_eq_true rfl) (zRm (by omega)) ⟨Nat.le_refl _, Nat.le_refl _⟩ (x_fYa_free hG (d - 1) (by omega) r3 hc5 m7 _ (zw_b1 h)) (fun r16 m17 q => ?_)
          obtain ⟨rfl, h⟩ := q
          refine zr_iload X dX10_hold_78 3 rfl ?_
          refine zr_iload X dX10_hold_80 4 rfl ?_
          refine zr_bipush (v := 25) X dX10_hold_82 (by decide) ?_
          refine zr_iload X dX10_hold_84 5 rfl ?_
          refine zr_callS_i (As := [.ref (S.heap.size + 47), .int r16, .int (r8 &&& ((m7.1 r3 2) ^^^ (-1))), .int r10, .int 25, .int a13]) (st := []) (d := d - 1) X dX10_hold_86 wm_X10_262 ws_X10_leastHolders my_X10_leastHolders rfl (Nat.le_of_ble_eq_true rfl) (zRm (by omega)) ⟨Nat.le_refl _, Nat.le_refl _⟩ (x_fN_leastHolders hG (d - 1) (by omega) 47 za_47 r16 (r8 &&& ((m7.1 r3 2) ^^^ (-1))) r10 25 a13 m7 _ (zw_b1 h)) (fun r18 m19 q => ?_)
          obtain ⟨rfl, h⟩ := q
          refine zr_istore (lo' := [(7, .int r18), (0, .ref (S.heap.size + 0)), (2, .int p2), (3, .ref (S.heap.size + r3)), (4, .int (r8 &&& ((m7.1 r3 2) ^^^ (-1)))), (5, .int r10), (6, .int a13)]) X dX10_hold_89 (by decide) rfl ?_
          refine zr_iload X dX10_hold_91 0 rfl ?_
          refine zr_if_lt (tgt := 108) X dX10_hold_93 (by decide) (fun q => ?_) (fun q => ?_)
          · rw [if_pos q] at h
            refine zr_iinc (v := a13 + 1) (lo' := [(6, .int (a13 + 1)), (7, .int r18), (0, .ref (S.heap.size + 0)), (2, .int p2), (3, .ref (S.heap.size + r3)), (4, .int (r8 &&& ((m7.1 r3 2) ^^^ (-1)))), (5, .int r10)]) X dX10_hold_108 6 rfl rfl (by decide) rfl ?_
            refine zr_goto (tgt := 61) X dX10_hold_111 (by decide) ?_
            have h := hl12 _ h
            exact zr_sub [2, 3, 4, 5, 6, 0] rfl h
          · rw [if_neg q] at h
            have h := hr12 _ h
            exact zr_sub [2, 6, 0] rfl (hR12 a13 r18 h)
      · rw [if_pos q] at h
        refine zr_iconst (v := (-1)) X dX10_hold_17 (by decide) ?_
        exact zr_iret X dX10_hold_18 rfl ⟨Nat.le_refl _, Nat.le_refl _⟩ ⟨rfl, _, rfl, h⟩

set_option maxRecDepth 100000 in
set_option maxHeartbeats 4000000 in
theorem x_fN_more {l : Launch} {S : State} {D : va_G} {cA : Nat → ClassId} {tb sx : Nat → Nat} (hG : zv_G S D cA tb sx) (d : Nat) (hd : 8 ≤ d) (p1 : Int32) (m : zv_M) (P : Int32 → zv_M → Prop) (h : zw2 (fN_more p1 m) P) : zv_Met l S D cA d 0 0 yX10_more cX10_more 2 (some .int) [.ref (S.heap.size + 0), .int p1] SH0 m (zq_i SH0 P) := by
  refine zv_met false hG pf_X10_more (fun z => by cases z) (Nat.le_of_ble_eq_true rfl) [(0, .ref (S.heap.size + 0)), (1, .int p1)] rfl (fun p e s mi args below meth c X => ?_)
  rw [fN_more] at h
  refine zr_aload_n X dX10_more_0 0 rfl ?_
  refine zr_iload_n X dX10_more_1 1 rfl ?_
  refine zr_callV_i (As := [.int p1]) (st := []) (d := d - 1) X dX10_more_2 wm_X10_119 my_X10_isPlan mv_X10_isPlan zo_0 rfl (Nat.le_of_ble_eq_true rfl) (zRm (by omega)) ⟨Nat.le_refl _, Nat.le_refl _⟩ (x_fN_isPlan hG (d - 1) (by omega) p1 m _ (zw_b12 h)) (fun r1 m2 q => ?_)
  obtain ⟨rfl, h⟩ := q
  refine zr_if_eq (tgt := 16) X dX10_more_5 (by decide) (fun q => ?_) (fun q => ?_)
  · rw [if_pos q] at h
    refine zr_iconst (v := (-1)) X dX10_more_16 (by decide) ?_
    exact zr_iret X dX10_more_17 rfl ⟨Nat.le_refl _, Nat.le_refl _⟩ ⟨rfl, _, rfl, h⟩
  · rw [if_neg q] at h
    refine zr_aload_n X dX10_more_8 0 rfl ?_
    refine zr_iload_n X dX10_more_9 1 rfl ?_
    refine zr_callV_i (As := [.int p1]) (st := []) (d := d - 1) X dX10_more_10 wm_X10_193 my_X10_fitting mv_X10_fitting zo_0 rfl (Nat.le_of_ble_eq_true rfl) (zRm (by omega)) ⟨Nat.le_refl _, Nat.le_refl _⟩ (x_fN_fitting hG (d - 1) (by omega) p1 m _ (zw_b22 h)) (fun r3 m4 q => ?_)
    replace h := q
    refine zr_goto (tgt := 17) X dX10_more_13 (by decide) ?_
    exact zr_iret X dX10_more_17 rfl ⟨Nat.le_refl _, Nat.le_refl _⟩ ⟨rfl, _, rfl, h⟩

set_option maxRecDepth 100000 in
set_option maxHeartbeats 4000000 in
theorem xo_fN_leastRemoved {l : Launch} {S : State} {D : va_G} {cA : Nat → ClassId} {tb sx : Nat → Nat} (hG : zv_G S D cA tb sx) (d dr : Nat) (hd : 3 ≤ d) (hdr : dr + 1 ≤ d) (rec_leastRemoved : Nat → Int32 → Int32 → zv_M → Option (Int32)) (hrec_leastRemoved : ∀ (p1 : Nat) (hp1 : zar p1 0) (p2 : Int32) (p3 : Int32) (m : zv_M) (P : Int32 → Prop), zw (rec_leastRemoved p1 p2 p3 m) P → zv_Met l S D cA dr 0 0 yX10_leastRemoved cX10_leastRemoved 9 (some .int) [.ref (S.heap.size + p1), .int p2, .int p3] SH0 m (zq_i SH0 (fun v m' => m = m' ∧ P v))) (p1 : Nat) (hp1 : zar p1 0) (p2 : Int32) (p3 : Int32) (m : zv_M) (P : Int32 → Prop) (h : zw (fN_leastRemoved_b rec_leastRemoved p1 p2 p3 m) P) : zv_Met l S D cA d 0 0 yX10_leastRemoved cX10_leastRemoved 9 (some .int) [.ref (S.heap.size + p1), .int p2, .int p3] SH0 m (zq_i SH0 (fun v m' => m = m' ∧ P v)) := by
  refine zv_met false hG pf_X10_leastRemoved (fun z => by cases z) (Nat.le_of_ble_eq_true rfl) [(0, .ref (S.heap.size + p1)), (1, .int p2), (2, .int p3)] rfl (fun p e s mi args below meth c X => ?_)
  rw [fN_leastRemoved_b] at h
  refine zr_aload_n X dX10_leastRemoved_0 0 rfl ?_
  refine zr_iload_n X dX10_leastRemoved_1 1 rfl ?_
  refine zr_callS_i (As := [.ref (S.heap.size + p1), .int p2]) (st := []) (d := d - 1) X dX10_leastRemoved_2 wm_X10_391 ws_X10_mostLinked my_X10_mostLinked rfl (Nat.le_of_ble_eq_true rfl) (zRm (by omega)) ⟨Nat.le_refl _, Nat.le_refl _⟩ (x_fN_mostLinked hG (d - 1) (by omega) p1 hp1 p2 m _ (zw_b1 h)) (fun r1 m2 q => ?_)
  obtain ⟨rfl, h⟩ := q
  refine zr_istore_n (lo' := [(3, .int r1), (0, .ref (S.heap.size + p1)), (1, .int p2), (2, .int p3)]) X dX10_leastRemoved_5 (by decide) rfl ?_
  refine zr_iload_n X dX10_leastRemoved_6 2 rfl ?_
  refine zr_iload_n X dX10_leastRemoved_7 0 rfl ?_
  refine zr_callS_i (As := [.int p2, .int r1]) (st := []) (d := d - 1) X dX10_leastRemoved_8 wm_X10_189 ws_X10_isIn my_X10_isIn rfl (Nat.le_of_ble_eq_true rfl) (zRm (by omega)) ⟨Nat.le_refl _, Nat.le_refl _⟩ (x_fN_isIn hG (d - 1) (by omega) p2 r1 m _ (zw_b1 h)) (fun r3 m4 q => ?_)
  obtain ⟨rfl, h⟩ := q
  refine zr_if_eq (tgt := 22) X dX10_leastRemoved_11 (by decide) (fun q => ?_) (fun q => ?_)
  · rw [if_pos q] at h
    refine zr_iconst (v := 0) X dX10_leastRemoved_22 (by decide) ?_
    exact zr_iret X dX10_leastRemoved_23 rfl ⟨Nat.le_refl _, Nat.le_refl _⟩ ⟨rfl, _, rfl, rfl, h⟩
  · rw [if_neg q] at h
    refine zr_aload_n X dX10_leastRemoved_14 1 rfl ?_
    refine zr_iload_n X dX10_leastRemoved_15 0 rfl ?_
    obtain ⟨g0, h⟩ := zg_e h
    refine zr_iald X dX10_leastRemoved_16 hp1 (zI_in g0) ?_
    refine zr_iload_n X dX10_leastRemoved_17 2 rfl ?_
    refine zr_iand X dX10_leastRemoved_18 ?_
    refine zr_if_ne (tgt := 24) X dX10_leastRemoved_19 (by decide) (fun q => ?_) (fun q => ?_)
    · rw [if_neg q] at h
      refine zr_iload_n X dX10_leastRemoved_24 3 rfl ?_
      refine zr_if_gt (tgt := 30) X dX10_leastRemoved_25 (by decide) (fun q => ?_) (fun q => ?_)
      · rw [if_pos q] at h
        refine zr_aload_n X dX10_leastRemoved_30 1 rfl ?_
        refine zr_aload_n X dX10_leastRemoved_31 1 rfl ?_
        refine zr_iload_n X dX10_leastRemoved_32 0 rfl ?_
        obtain ⟨g0, h⟩ := zg_e h
        refine zr_iald X dX10_leastRemoved_33 hp1 (zI_in g0) ?_
        refine zr_iload_n X dX10_leastRemoved_34 2 rfl ?_
        refine zr_iand X dX10_leastRemoved_35 ?_
        refine zr_callS_i (As := [.ref (S.heap.size + p1), .int ((m.1 p1 r1.toNatClampNeg) &&& p2)]) (st := []) (d := d - 1) X dX10_leastRemoved_36 wm_X10_391 ws_X10_mostLinked my_X10_mostLinked rfl (Nat.le_of_ble_eq_true rfl) (zRm (by omega)) ⟨Nat.le_refl _, Nat.le_refl _⟩ (x_fN_mostLinked hG (d - 1) (by omega) p1 hp1 ((m.1 p1 r1.toNatClampNeg) &&& p2) m _ (zw_b1 h)) (fun r5 m6 q => ?_)
        obtain ⟨rfl, h⟩ := q
        refine zr_istore (lo' := [(4, .int r5), (3, .int r1), (0, .ref (S.heap.size + p1)), (1, .int p2), (2, .int p3)]) X dX10_leastRemoved_39 (by decide) rfl ?_
        refine zr_aload_n X dX10_leastRemoved_41 2 rfl ?_
        refine zr_iload_n X dX10_leastRemoved_42 3 rfl ?_
        refine zr_iconst (v := 1) X dX10_leastRemoved_43 (by decide) ?_
        refine zr_iload_n X dX10_leastRemoved_44 1 rfl ?_
        refine zr_ishl X dX10_leastRemoved_45 ?_
        refine zr_iconst (v := (-1)) X dX10_leastRemoved_46 (by decide) ?_
        refine zr_ixor X dX10_leastRemoved_47 ?_
        refine zr_iand X dX10_leastRemoved_48 ?_
        refine zr_iload_n X dX10_leastRemoved_49 4 rfl ?_
        refine zr_iconst (v := 1) X dX10_leastRemoved_50 (by decide) ?_
        refine zr_isub X dX10_leastRemoved_51 ?_
        refine zr_callS_i (As := [.ref (S.heap.size + p1), .int (p2 &&& ((1 <<< (r1 &&& 31)) ^^^ (-1))), .int (p3 - 1)]) (st := []) (d := dr) X dX10_leastRemoved_52 wm_X10_266 ws_X10_leastRemoved my_X10_leastRemoved rfl (Nat.le_of_ble_eq_true rfl) (zRm (by omega)) ⟨Nat.le_refl _, Nat.le_refl _⟩ (hrec_leastRemoved p1 hp1 (p2 &&& ((1 <<< (r1 &&& 31)) ^^^ (-1))) (p3 - 1) m _ (zw_b1 h)) (fun r7 m8 q => ?_)
        obtain ⟨rfl, h⟩ := q
        refine zr_istore (lo' := [(5, .int r7), (4, .int r5), (3, .int r1), (0, .ref (S.heap.size + p1)), (1, .int p2), (2, .int p3)]) X dX10_leastRemoved_55 (by decide) rfl ?_
        refine zr_aload_n X dX10_leastRemoved_57 3 rfl ?_
        refine zr_iload_n X dX10_leastRemoved_58 4 rfl ?_
        refine zr_iconst (v := 1) X dX10_leastRemoved_59 (by decide) ?_
        refine zr_iload X dX10_leastRemoved_60 1 rfl ?_
        refine zr_ishl X dX10_leastRemoved_62 ?_
        refine zr_iconst (v := (-1)) X dX10_leastRemoved_63 (by decide) ?_
        refine zr_ixor X dX10_leastRemoved_64 ?_
        refine zr_iand X dX10_leastRemoved_65 ?_
        refine zr_iload_n X dX10_leastRemoved_66 5 rfl ?_
        refine zr_iconst (v := 1) X dX10_leastRemoved_67 (by decide) ?_
        refine zr_isub X dX10_leastRemoved_68 ?_
        refine zr_callS_i (As := [.ref (S.heap.size + p1), .int (p2 &&& ((1 <<< (r5 &&& 31)) ^^^ (-1))), .int (p3 - 1)]) (st := []) (d := dr) X dX10_leastRemoved_69 wm_X10_266 ws_X10_leastRemoved my_X10_leastRemoved rfl (Nat.le_of_ble_eq_true rfl) (zRm (by omega)) ⟨Nat.le_refl _, Nat.le_refl _⟩ (hrec_leastRemoved p1 hp1 (p2 &&& ((1 <<< (r5 &&& 31)) ^^^ (-1))) (p3 - 1) m _ (zw_b1 h)) (fun r9 m10 q => ?_)
        obtain ⟨rfl, h⟩ := q
        refine zr_istore (lo' := [(6, .int r9), (5, .int r7), (4, .int r5), (3, .int r1), (0, .ref (S.heap.size + p1)), (1, .int p2), (2, .int p3)]) X dX10_leastRemoved_72 (by decide) rfl ?_
        refine zr_iload X dX10_leastRemoved_74 1 rfl ?_
        have hJ89 : ∀ (v11 : Int32), zw (fN_leastRemoved_j89 r5 r9 v11) P → zv_V S D cA p l e (zv_rm d 0 0) s mi args below meth c 9 (MQ below (zv_Q S D cA (zq_i SH0 (fun v m' => m = m' ∧ P v))) args s 0 0 (zv_fr S)) 0 0 89 [(4, .int r5), (6, .int r9)] [.int v11] SH0 m := by
          intro v11 h
          rw [fN_leastRemoved_j89] at h
          refine zr_istore (lo' := [(7, .int v11), (4, .int r5), (6, .int r9)]) X dX10_leastRemoved_89 (by decide) rfl ?_
          refine zr_iload X dX10_leastRemoved_91 2 rfl ?_
          have hJ107 : ∀ (v12 : Int32), zw (fN_leastRemoved_j107 v11 v12) P → zv_V S D cA p l e (zv_rm d 0 0) s mi args below meth c 9 (MQ below (zv_Q S D cA (zq_i SH0 (fun v m' => m = m' ∧ P v))) args s 0 0 (zv_fr S)) 0 0 107 [(7, .int v11)] [.int v12] SH0 m := by
            intro v12 h
            rw [fN_leastRemoved_j107] at h
            refine zr_istore (lo' := [(8, .int v12), (7, .int v11)]) X dX10_leastRemoved_107 (by decide) rfl ?_
            refine zr_iload X dX10_leastRemoved_109 1 rfl ?_
            refine zr_if_lt (tgt := 119) X dX10_leastRemoved_111 (by decide) (fun q => ?_) (fun q => ?_)
            · rw [if_pos q] at h
              refine zr_iload X dX10_leastRemoved_119 1 rfl ?_
              refine zr_iload X dX10_leastRemoved_121 0 rfl ?_
              refine zr_callS_i (As := [.int v11, .int v12]) (st := []) (d := d - 1) X dX10_leastRemoved_123 wm_X10_394 ws_J9_max_7cf53 my_J9_max_7cf53 rfl (Nat.le_of_ble_eq_true rfl) (zRm (by omega)) ⟨Nat.le_refl _, Nat.le_refl _⟩ (x_fJ_max hG (d - 1) (by omega) v11 v12 m _ (zw_b1 h)) (fun r13 m14 q => ?_)
              obtain ⟨rfl, h⟩ := q
              exact zr_iret X dX10_leastRemoved_126 rfl ⟨Nat.le_refl _, Nat.le_refl _⟩ ⟨rfl, _, rfl, rfl, h⟩
            · rw [if_neg q] at h
              refine zr_iload X dX10_leastRemoved_114 0 rfl ?_
              refine zr_if_ge (tgt := 127) X dX10_leastRemoved_116 (by decide) (fun q => ?_) (fun q => ?_)
              · rw [if_neg q] at h
                refine zr_iload X dX10_leastRemoved_127 1 rfl ?_
                refine zr_iload X dX10_leastRemoved_129 0 rfl ?_
                refine zr_callS_i (As := [.int v11, .int v12]) (st := []) (d := d - 1) X dX10_leastRemoved_131 wm_X10_399 ws_J9_min_7cf53 my_J9_min_7cf53 rfl (Nat.le_of_ble_eq_true rfl) (zRm (by omega)) ⟨Nat.le_refl _, Nat.le_refl _⟩ (x_fJ_min hG (d - 1) (by omega) v11 v12 m _ (zw_b1 h)) (fun r15 m16 q => ?_)
                obtain ⟨rfl, h⟩ := q
                exact zr_iret X dX10_leastRemoved_134 rfl ⟨Nat.le_refl _, Nat.le_refl _⟩ ⟨rfl, _, rfl, rfl, h⟩
              · rw [if_pos q] at h
                refine zr_iload X dX10_leastRemoved_119 1 rfl ?_
                refine zr_iload X dX10_leastRemoved_121 0 rfl ?_
                refine zr_callS_i (As := [.int v11, .int v12]) (st := []) (d := d - 1) X dX10_leastRemoved_123 wm_X10_394 ws_J9_max_7cf53 my_J9_max_7cf53 rfl (Nat.le_of_ble_eq_true rfl) (zRm (by omega)) ⟨Nat.le_refl _, Nat.le_refl _⟩ (x_fJ_max hG (d - 1) (by omega) v11 v12 m _ (zw_b1 h)) (fun r17 m18 q => ?_)
                obtain ⟨rfl, h⟩ := q
                exact zr_iret X dX10_leastRemoved_126 rfl ⟨Nat.le_refl _, Nat.le_refl _⟩ ⟨rfl, _, rfl, rfl, h⟩
          refine zr_if_ge (tgt := 100) X dX10_leastRemoved_93 (by decide) (fun q => ?_) (fun q => ?_)
          · rw [if_neg q] at h
            refine zr_iload X dX10_leastRemoved_100 2 rfl ?_
            refine zr_iconst (v := 1) X dX10_leastRemoved_102 (by decide) ?_
            refine zr_iload X dX10_leastRemoved_103 1 rfl ?_
            refine zr_ishl X dX10_leastRemoved_105 ?_
            refine zr_ior X dX10_leastRemoved_106 ?_
            exact zr_sub [0] rfl (hJ107 (r9 ||| (1 <<< (r5 &&& 31))) h)
          · rw [if_pos q] at h
            refine zr_iconst (v := (-1)) X dX10_leastRemoved_96 (by decide) ?_
            refine zr_goto (tgt := 107) X dX10_leastRemoved_97 (by decide) ?_
            exact zr_sub [0] rfl (hJ107 (-1) h)
        refine zr_if_ge (tgt := 83) X dX10_leastRemoved_76 (by decide) (fun q => ?_) (fun q => ?_)
        · rw [if_neg q] at h
          refine zr_iload X dX10_leastRemoved_83 1 rfl ?_
          refine zr_iconst (v := 1) X dX10_leastRemoved_85 (by decide) ?_
          refine zr_iload_n X dX10_leastRemoved_86 3 rfl ?_
          refine zr_ishl X dX10_leastRemoved_87 ?_
          refine zr_ior X dX10_leastRemoved_88 ?_
          exact zr_sub [2, 0] rfl (hJ89 (r7 ||| (1 <<< (r1 &&& 31))) h)
        · rw [if_pos q] at h
          refine zr_iconst (v := (-1)) X dX10_leastRemoved_79 (by decide) ?_
          refine zr_goto (tgt := 89) X dX10_leastRemoved_80 (by decide) ?_
          exact zr_sub [2, 0] rfl (hJ89 (-1) h)
      · rw [if_neg q] at h
        refine zr_iconst (v := (-1)) X dX10_leastRemoved_28 (by decide) ?_
        exact zr_iret X dX10_leastRemoved_29 rfl ⟨Nat.le_refl _, Nat.le_refl _⟩ ⟨rfl, _, rfl, rfl, h⟩
    · rw [if_pos q] at h
      refine zr_iconst (v := 0) X dX10_leastRemoved_22 (by decide) ?_
      exact zr_iret X dX10_leastRemoved_23 rfl ⟨Nat.le_refl _, Nat.le_refl _⟩ ⟨rfl, _, rfl, rfl, h⟩

set_option maxRecDepth 100000 in
set_option maxHeartbeats 4000000 in
theorem x_fN_leastRemoved_n {l : Launch} {S : State} {D : va_G} {cA : Nat → ClassId} {tb sx : Nat → Nat} (hG : zv_G S D cA tb sx) : ∀ (n d : Nat), 3 + n ≤ d → ∀ (p1 : Nat) (hp1 : zar p1 0) (p2 : Int32) (p3 : Int32) (m : zv_M) (P : Int32 → Prop), zw (fN_leastRemoved n p1 p2 p3 m) P → zv_Met l S D cA d 0 0 yX10_leastRemoved cX10_leastRemoved 9 (some .int) [.ref (S.heap.size + p1), .int p2, .int p3] SH0 m (zq_i SH0 (fun v m' => m = m' ∧ P v)) := by
  intro n
  induction n with
  | zero =>
    intro d hd p1 hp1 p2 p3 m P h
    rw [fN_leastRemoved] at h
    exact h.elim
  | succ n ih =>
    intro d hd p1 hp1 p2 p3 m P h
    rw [fN_leastRemoved] at h
    exact xo_fN_leastRemoved hG d (d - 1) (by omega) (by omega) (fN_leastRemoved n) (ih (d - 1) (by omega)) p1 hp1 p2 p3 m P h
theorem x_fN_leastRemoved {l : Launch} {S : State} {D : va_G} {cA : Nat → ClassId} {tb sx : Nat → Nat} (hG : zv_G S D cA tb sx) (d : Nat) (hd : 11 ≤ d) (p1 : Nat) (hp1 : zar p1 0) (p2 : Int32) (p3 : Int32) (m : zv_M) (P : Int32 → Prop) (h : zw (fN_leastRemoved 8 p1 p2 p3 m) P) : zv_Met l S D cA d 0 0 yX10_leastRemoved cX10_leastRemoved 9 (some .int) [.ref (S.heap.size + p1), .int p2, .int p3] SH0 m (zq_i SH0 (fun v m' => m = m' ∧ P v)) := x_fN_leastRemoved_n hG 8 d (by omega) p1 hp1 p2 p3 m P h

set_option maxRecDepth 100000 in
set_option maxHeartbeats 4000000 in
theorem x_fN_right {l : Launch} {S : State} {D : va_G} {cA : Nat → ClassId} {tb sx : Nat → Nat} (hG : zv_G S D cA tb sx) (d : Nat) (hd : 12 ≤ d) (p1 : Int32) (m : zv_M) (P : Int32 → zv_M → Prop) (h : zw2 (fN_right p1 m) P) : zv_Met l S D cA d 0 0 yX10_right cX10_right 4 (some .int) [.ref (S.heap.size + 0), .int p1] SH0 m (zq_i SH0 P) := by
  refine zv_met false hG pf_X10_right (fun z => by cases z) (Nat.le_of_ble_eq_true rfl) [(0, .ref (S.heap.size + 0)), (1, .int p1)] rfl (fun p e s mi args below meth c X => ?_)
  rw [fN_right] at h
  refine zr_iload_n X dX10_right_0 1 rfl ?_
  refine zr_if_lt (tgt := 9) X dX10_right_1 (by decide) (fun q => ?_) (fun q => ?_)
  · rw [if_pos q] at h
    refine zr_iconst (v := (-1)) X dX10_right_9 (by decide) ?_
    exact zr_iret X dX10_right_10 rfl ⟨Nat.le_refl _, Nat.le_refl _⟩ ⟨rfl, _, rfl, h⟩
  · rw [if_neg q] at h
    refine zr_iload_n X dX10_right_4 1 rfl ?_
    refine zr_iconst (v := 1) X dX10_right_5 (by decide) ?_
    refine zr_icmp_le (tgt := 11) X dX10_right_6 (by decide) (fun q => ?_) (fun q => ?_)
    · rw [if_neg q] at h
      refine zr_aload_n X dX10_right_11 0 rfl ?_
      refine zr_callV_v (As := []) (st := []) (d := d - 1) X dX10_right_12 wm_X10_177 my_X10_joinMen mv_X10_joinMen zo_0 rfl (Nat.le_of_ble_eq_true rfl) (zRm (by omega)) ⟨Nat.le_refl _, Nat.le_refl _⟩ (x_fN_joinMen hG (d - 1) (by omega) m _ (zw_b12 h)) (fun m1 q => ?_)
      replace h := q
      refine zr_iconst (v := 0) X dX10_right_15 (by decide) ?_
      refine zr_istore_n (lo' := [(2, .int 0), (0, .ref (S.heap.size + 0)), (1, .int p1)]) X dX10_right_16 (by decide) rfl ?_
      refine zr_sub [1, 2, 0] rfl ?_
      have hR2 : ∀ (a4 : Int32) (a5 : Int32), zw2 (if p1 = 0 then some (a4, m1) else some (a5, m1) : Option (Int32 × zv_M)) P → zv_V S D cA p l e (zv_rm d 0 0) s mi args below meth c 4 (MQ below (zv_Q S D cA (zq_i SH0 P)) args s 0 0 (zv_fr S)) 0 0 45 [(1, .int p1), (2, .int a4), (3, .int a5)] [] SH0 m1 := by
        intro a4 a5 h
        refine zr_iload_n X dX10_right_45 0 rfl ?_
        refine zr_if_ne (tgt := 53) X dX10_right_46 (by decide) (fun q => ?_) (fun q => ?_)
        · rw [if_neg q] at h
          refine zr_iload_n X dX10_right_53 2 rfl ?_
          exact zr_iret X dX10_right_54 rfl ⟨Nat.le_refl _, Nat.le_refl _⟩ ⟨rfl, _, rfl, h⟩
        · rw [if_pos q] at h
          refine zr_iload_n X dX10_right_49 1 rfl ?_
          refine zr_goto (tgt := 54) X dX10_right_50 (by decide) ?_
          exact zr_iret X dX10_right_54 rfl ⟨Nat.le_refl _, Nat.le_refl _⟩ ⟨rfl, _, rfl, h⟩
      refine zl_w1 (fun a3 => zv_V S D cA p l e (zv_rm d 0 0) s mi args below meth c 4 (MQ below (zv_Q S D cA (zq_i SH0 P)) args s 0 0 (zv_fr S)) 0 0 17 [(0, .ref (S.heap.size + 0)), (1, .int p1), (2, .int a3)] [] SH0 m1) (fN_right_l17 m1) _ (fun P2 hl2 hr2 a3 h => ?_) zFU 0 (zw_b12 h)
      rw [fN_right_l17] at h
      refine zr_iload_n X dX10_right_17 2 rfl ?_
      refine zr_iconst (v := 4) X dX10_right_18 (by decide) ?_
      refine zr_icmp_gt (tgt := 61) X dX10_right_19 (by decide) (fun q => ?_) (fun q => ?_)
      · rw [if_pos q] at h
        refine zr_bipush (v := (-5)) X dX10_right_61 (by decide) ?_
        have h := hr2 _ h
        exact zr_iret X dX10_right_63 rfl ⟨Nat.le_refl _, Nat.le_refl _⟩ ⟨rfl, _, rfl, h⟩
      · rw [if_neg q] at h
        refine zr_aload_n X dX10_right_22 0 rfl ?_
        refine zr_getR X dX10_right_23 zd_X10_50 rfl zo_0 zl_0_7 ?_
        refine zr_getR X dX10_right_26 zd_X10_242 rfl zo_43 zl_43_1 ?_
        refine zr_aload_n X dX10_right_29 0 rfl ?_
        refine zr_getR X dX10_right_30 zd_X10_12 rfl zo_0 zl_0_0 ?_
        refine zr_callV_i (As := []) (st := [.ref (S.heap.size + 45)]) (d := d - 1) X dX10_right_33 wm_X10_162 my_X5_menBits mv_X5_menBits zo_1 rfl (Nat.le_of_ble_eq_true rfl) (zRm (by omega)) ⟨Nat.le_refl _, Nat.le_refl _⟩ (x_fSt_menBits hG (d - 1) (by omega) 1 zo_1 m1 _ (zw_b1 h)) (fun r6 m7 q => ?_)
        obtain ⟨rfl, h⟩ := q
        refine zr_iload_n X dX10_right_36 2 rfl ?_
        refine zr_callS_i (As := [.ref (S.heap.size + 45), .int r6, .int a3]) (st := []) (d := d - 1) X dX10_right_37 wm_X10_266 ws_X10_leastRemoved my_X10_leastRemoved rfl (Nat.le_of_ble_eq_true rfl) (zRm (by omega)) ⟨Nat.le_refl _, Nat.le_refl _⟩ (x_fN_leastRemoved hG (d - 1) (by omega) 45 za_45 r6 a3 m1 _ (zw_b1 h)) (fun r8 m9 q => ?_)
        obtain ⟨rfl, h⟩ := q
        refine zr_istore_n (lo' := [(3, .int r8), (0, .ref (S.heap.size + 0)), (1, .int p1), (2, .int a3)]) X dX10_right_40 (by decide) rfl ?_
        refine zr_iload_n X dX10_right_41 0 rfl ?_
        refine zr_if_lt (tgt := 55) X dX10_right_42 (by decide) (fun q => ?_) (fun q => ?_)
        · rw [if_pos q] at h
          refine zr_iinc (v := a3 + 1) (lo' := [(2, .int (a3 + 1)), (3, .int r8), (0, .ref (S.heap.size + 0)), (1, .int p1)]) X dX10_right_55 3 rfl rfl (by decide) rfl ?_
          refine zr_goto (tgt := 17) X dX10_right_58 (by decide) ?_
          have h := hl2 _ h
          exact zr_sub [2, 3, 0] rfl h
        · rw [if_neg q] at h
          have h := hr2 _ h
          exact zr_sub [2, 3, 0] rfl (hR2 a3 r8 h)
    · rw [if_pos q] at h
      refine zr_iconst (v := (-1)) X dX10_right_9 (by decide) ?_
      exact zr_iret X dX10_right_10 rfl ⟨Nat.le_refl _, Nat.le_refl _⟩ ⟨rfl, _, rfl, h⟩

set_option maxRecDepth 100000 in
set_option maxHeartbeats 4000000 in
theorem x_fN_game {l : Launch} {S : State} {D : va_G} {cA : Nat → ClassId} {tb sx : Nat → Nat} (hG : zv_G S D cA tb sx) (d : Nat) (hd : 8 ≤ d) (p1 : Int32) (m : zv_M) (P : Int32 → zv_M → Prop) (h : zw2 (fN_game p1 m) P) : zv_Met l S D cA d 0 0 yX10_game cX10_game 3 (some .int) [.ref (S.heap.size + 0), .int p1] SH0 m (zq_i SH0 P) := by
  refine zv_met false hG pf_X10_game (fun z => by cases z) (Nat.le_of_ble_eq_true rfl) [(0, .ref (S.heap.size + 0)), (1, .int p1)] rfl (fun p e s mi args below meth c X => ?_)
  rw [fN_game] at h
  refine zr_aload_n X dX10_game_0 0 rfl ?_
  refine zr_iload_n X dX10_game_1 1 rfl ?_
  refine zr_callV_i (As := [.int p1]) (st := []) (d := d - 1) X dX10_game_2 wm_X10_119 my_X10_isPlan mv_X10_isPlan zo_0 rfl (Nat.le_of_ble_eq_true rfl) (zRm (by omega)) ⟨Nat.le_refl _, Nat.le_refl _⟩ (x_fN_isPlan hG (d - 1) (by omega) p1 m _ (zw_b12 h)) (fun r1 m2 q => ?_)
  obtain ⟨rfl, h⟩ := q
  refine zr_if_ne (tgt := 10) X dX10_game_5 (by decide) (fun q => ?_) (fun q => ?_)
  · rw [if_neg q] at h
    refine zr_aload_n X dX10_game_10 0 rfl ?_
    refine zr_iload_n X dX10_game_11 1 rfl ?_
    refine zr_callV_i (As := [.int p1]) (st := []) (d := d - 1) X dX10_game_12 wm_X10_193 my_X10_fitting mv_X10_fitting zo_0 rfl (Nat.le_of_ble_eq_true rfl) (zRm (by omega)) ⟨Nat.le_refl _, Nat.le_refl _⟩ (x_fN_fitting hG (d - 1) (by omega) p1 m _ (zw_b22 h)) (fun r3 m4 q => ?_)
    replace h := q
    refine zr_istore_n (lo' := [(2, .int r3), (0, .ref (S.heap.size + 0)), (1, .int p1)]) X dX10_game_15 (by decide) rfl ?_
    refine zr_iload_n X dX10_game_16 0 rfl ?_
    refine zr_callS_i (As := [.int r3]) (st := []) (d := d - 1) X dX10_game_17 wm_X10_166 ws_J6_bitCount_0f7a4 my_J6_bitCount_0f7a4 rfl (Nat.le_of_ble_eq_true rfl) (zRm (by omega)) ⟨Nat.le_refl _, Nat.le_refl _⟩ (x_fJ_bitCount hG (d - 1) (by omega) r3 m4 _ (zw_b12 h)) (fun r5 m6 q => ?_)
    obtain ⟨rfl, h⟩ := q
    refine zr_bipush (v := 9) X dX10_game_20 (by decide) ?_
    refine zr_icmp_le (tgt := 28) X dX10_game_22 (by decide) (fun q => ?_) (fun q => ?_)
    · rw [if_neg q] at h
      refine zr_aload_n X dX10_game_28 1 rfl ?_
      refine zr_getR X dX10_game_29 zd_X10_54 rfl zo_0 zl_0_8 ?_
      refine zr_iload_n X dX10_game_32 0 rfl ?_
      refine zr_callV_v (As := [.int r3]) (st := []) (d := d - 1) X dX10_game_33 wm_X10_239 my_X4_join mv_X4_join zo_46 rfl (Nat.le_of_ble_eq_true rfl) (zRm (by omega)) ⟨Nat.le_refl _, Nat.le_refl _⟩ (x_fSi_join hG (d - 1) (by omega) 46 zo_46 r3 m4 _ (zw_b12 h)) (fun m7 q => ?_)
      replace h := q
      refine zr_aload_n X dX10_game_36 1 rfl ?_
      refine zr_getR X dX10_game_37 zd_X10_67 rfl zo_0 zl_0_10 ?_
      refine zr_iload_n X dX10_game_40 0 rfl ?_
      refine zr_aload_n X dX10_game_41 1 rfl ?_
      refine zr_getR X dX10_game_42 zd_X10_54 rfl zo_0 zl_0_8 ?_
      refine zr_getR X dX10_game_45 zd_X10_242 rfl zo_46 zl_46_1 ?_
      refine zr_callV_i (As := [.int r3, .ref (S.heap.size + 48)]) (st := []) (d := d - 1) X dX10_game_48 wm_X10_269 my_X1_firstWins mv_X1_firstWins zo_54 rfl (Nat.le_of_ble_eq_true rfl) (zRm (by omega)) ⟨Nat.le_refl _, Nat.le_refl _⟩ (x_fGa_firstWins hG (d - 1) (by omega) r3 48 za_48 m7 _ (zw_b22 h)) (fun r8 m9 q => ?_)
      replace h := q
      refine zr_if_eq (tgt := 58) X dX10_game_51 (by decide) (fun q => ?_) (fun q => ?_)
      · rw [if_pos q] at h
        refine zr_iconst (v := 0) X dX10_game_58 (by decide) ?_
        exact zr_iret X dX10_game_59 rfl ⟨Nat.le_refl _, Nat.le_refl _⟩ ⟨rfl, _, rfl, h⟩
      · rw [if_neg q] at h
        refine zr_iconst (v := 1) X dX10_game_54 (by decide) ?_
        refine zr_goto (tgt := 59) X dX10_game_55 (by decide) ?_
        exact zr_iret X dX10_game_59 rfl ⟨Nat.le_refl _, Nat.le_refl _⟩ ⟨rfl, _, rfl, h⟩
    · rw [if_pos q] at h
      refine zr_bipush (v := (-9)) X dX10_game_25 (by decide) ?_
      exact zr_iret X dX10_game_27 rfl ⟨Nat.le_refl _, Nat.le_refl _⟩ ⟨rfl, _, rfl, h⟩
  · rw [if_pos q] at h
    refine zr_iconst (v := (-1)) X dX10_game_8 (by decide) ?_
    exact zr_iret X dX10_game_9 rfl ⟨Nat.le_refl _, Nat.le_refl _⟩ ⟨rfl, _, rfl, h⟩

set_option maxRecDepth 100000 in
set_option maxHeartbeats 4000000 in
theorem x_fN_looksSame {l : Launch} {S : State} {D : va_G} {cA : Nat → ClassId} {tb sx : Nat → Nat} (hG : zv_G S D cA tb sx) (d : Nat) (hd : 3 ≤ d) (p1 : Int32) (m : zv_M) (P : Int32 → Prop) (h : zw (fN_looksSame p1 m) P) : zv_Met l S D cA d 0 0 yX10_looksSame cX10_looksSame 3 (some .boolean) [.ref (S.heap.size + 0), .int p1] SH0 m (zq_i SH0 (fun v m' => m = m' ∧ P v)) := by
  refine zv_met false hG pf_X10_looksSame (fun z => by cases z) (Nat.le_of_ble_eq_true rfl) [(0, .ref (S.heap.size + 0)), (1, .int p1)] rfl (fun p e s mi args below meth c X => ?_)
  rw [fN_looksSame] at h
  refine zr_aload_n X dX10_looksSame_0 0 rfl ?_
  refine zr_getR X dX10_looksSame_1 zd_X10_12 rfl zo_0 zl_0_0 ?_
  refine zr_callV_i (As := []) (st := []) (d := d - 1) X dX10_looksSame_4 wm_X10_162 my_X5_menBits mv_X5_menBits zo_1 rfl (Nat.le_of_ble_eq_true rfl) (zRm (by omega)) ⟨Nat.le_refl _, Nat.le_refl _⟩ (x_fSt_menBits hG (d - 1) (by omega) 1 zo_1 m _ (zw_b1 h)) (fun r1 m2 q => ?_)
  obtain ⟨rfl, h⟩ := q
  refine zr_istore_n (lo' := [(2, .int r1), (0, .ref (S.heap.size + 0)), (1, .int p1)]) X dX10_looksSame_7 (by decide) rfl ?_
  refine zr_aload_n X dX10_looksSame_8 1 rfl ?_
  refine zr_callV_a (As := []) (st := []) (d := d - 1) X dX10_looksSame_9 wm_X10_154 my_X10_ground mv_X10_ground zo_0 rfl (Nat.le_of_ble_eq_true rfl) (zRm (by omega)) ⟨Nat.le_refl _, Nat.le_refl _⟩ (x_fN_ground hG (d - 1) (by omega) m _ (zw_b1 h)) (fun r3 m4 q => ?_)
  obtain ⟨rfl, hc5, h⟩ := q
  refine zr_iload_n X dX10_looksSame_12 0 rfl ?_
  refine zr_iload_n X dX10_looksSame_13 2 rfl ?_
  refine zr_callV_i (As := [.int r1, .int p1]) (st := []) (d := d - 1) X dX10_looksSame_14 wm_X10_384 my_X8_turn mv_X8_turn hc5 rfl (Nat.le_of_ble_eq_true rfl) (zRm (by omega)) ⟨Nat.le_refl _, Nat.le_refl _⟩ (x_fYa_turn hG (d - 1) (by omega) r3 hc5 r1 p1 m _ (zw_b1 h)) (fun r6 m7 q => ?_)
  obtain ⟨rfl, h⟩ := q
  refine zr_iload_n X dX10_looksSame_17 0 rfl ?_
  refine zr_icmp_ne (tgt := 25) X dX10_looksSame_18 (by decide) (fun q => ?_) (fun q => ?_)
  · rw [if_neg q] at h
    refine zr_iconst (v := 0) X dX10_looksSame_25 (by decide) ?_
    exact zr_iret X dX10_looksSame_26 rfl ⟨Nat.le_refl _, Nat.le_refl _⟩ ⟨rfl, _, rfl, rfl, h⟩
  · rw [if_pos q] at h
    refine zr_iconst (v := 1) X dX10_looksSame_21 (by decide) ?_
    refine zr_goto (tgt := 26) X dX10_looksSame_22 (by decide) ?_
    exact zr_iret X dX10_looksSame_26 rfl ⟨Nat.le_refl _, Nat.le_refl _⟩ ⟨rfl, _, rfl, rfl, h⟩

set_option maxRecDepth 100000 in
set_option maxHeartbeats 4000000 in
theorem x_fN_turned {l : Launch} {S : State} {D : va_G} {cA : Nat → ClassId} {tb sx : Nat → Nat} (hG : zv_G S D cA tb sx) (d : Nat) (hd : 4 ≤ d) (p1 : Int32) (m : zv_M) (P : Int32 → Prop) (h : zw (fN_turned p1 m) P) : zv_Met l S D cA d 0 0 yX10_turned cX10_turned 2 (some .int) [.ref (S.heap.size + 0), .int p1] SH0 m (zq_i SH0 (fun v m' => m = m' ∧ P v)) := by
  refine zv_met false hG pf_X10_turned (fun z => by cases z) (Nat.le_of_ble_eq_true rfl) [(0, .ref (S.heap.size + 0)), (1, .int p1)] rfl (fun p e s mi args below meth c X => ?_)
  rw [fN_turned] at h
  refine zr_iload_n X dX10_turned_0 1 rfl ?_
  refine zr_if_lt (tgt := 10) X dX10_turned_1 (by decide) (fun q => ?_) (fun q => ?_)
  · rw [if_pos q] at h
    refine zr_iconst (v := (-1)) X dX10_turned_10 (by decide) ?_
    exact zr_iret X dX10_turned_11 rfl ⟨Nat.le_refl _, Nat.le_refl _⟩ ⟨rfl, _, rfl, rfl, h⟩
  · rw [if_neg q] at h
    refine zr_iload_n X dX10_turned_4 1 rfl ?_
    refine zr_bipush (v := 7) X dX10_turned_5 (by decide) ?_
    refine zr_icmp_le (tgt := 12) X dX10_turned_7 (by decide) (fun q => ?_) (fun q => ?_)
    · rw [if_neg q] at h
      refine zr_aload_n X dX10_turned_12 0 rfl ?_
      refine zr_iload_n X dX10_turned_13 1 rfl ?_
      refine zr_callV_i (As := [.int p1]) (st := []) (d := d - 1) X dX10_turned_14 wm_X10_273 my_X10_looksSame mv_X10_looksSame zo_0 rfl (Nat.le_of_ble_eq_true rfl) (zRm (by omega)) ⟨Nat.le_refl _, Nat.le_refl _⟩ (x_fN_looksSame hG (d - 1) (by omega) p1 m _ (zw_b1 h)) (fun r1 m2 q => ?_)
      obtain ⟨rfl, h⟩ := q
      refine zr_if_eq (tgt := 24) X dX10_turned_17 (by decide) (fun q => ?_) (fun q => ?_)
      · rw [if_pos q] at h
        refine zr_iconst (v := 0) X dX10_turned_24 (by decide) ?_
        exact zr_iret X dX10_turned_25 rfl ⟨Nat.le_refl _, Nat.le_refl _⟩ ⟨rfl, _, rfl, rfl, h⟩
      · rw [if_neg q] at h
        refine zr_iconst (v := 1) X dX10_turned_20 (by decide) ?_
        refine zr_goto (tgt := 25) X dX10_turned_21 (by decide) ?_
        exact zr_iret X dX10_turned_25 rfl ⟨Nat.le_refl _, Nat.le_refl _⟩ ⟨rfl, _, rfl, rfl, h⟩
    · rw [if_pos q] at h
      refine zr_iconst (v := (-1)) X dX10_turned_10 (by decide) ?_
      exact zr_iret X dX10_turned_11 rfl ⟨Nat.le_refl _, Nat.le_refl _⟩ ⟨rfl, _, rfl, rfl, h⟩

set_option maxRecDepth 100000 in
set_option maxHeartbeats 4000000 in
theorem x_fN_alike {l : Launch} {S : State} {D : va_G} {cA : Nat → ClassId} {tb sx : Nat → Nat} (hG : zv_G S D cA tb sx) (d : Nat) (hd : 4 ≤ d) (m : zv_M) (P : Int32 → Prop) (h : zw (fN_alike m) P) : zv_Met l S D cA d 0 0 yX10_alike cX10_alike 3 (some .int) [.ref (S.heap.size + 0)] SH0 m (zq_i SH0 (fun v m' => m = m' ∧ P v)) := by
  refine zv_met false hG pf_X10_alike (fun z => by cases z) (Nat.le_of_ble_eq_true rfl) [(0, .ref (S.heap.size + 0))] rfl (fun p e s mi args below meth c X => ?_)
  rw [fN_alike] at h
  refine zr_iconst (v := 0) X dX10_alike_0 (by decide) ?_
  refine zr_istore_n (lo' := [(1, .int 0), (0, .ref (S.heap.size + 0))]) X dX10_alike_1 (by decide) rfl ?_
  refine zr_iconst (v := 0) X dX10_alike_2 (by decide) ?_
  refine zr_istore_n (lo' := [(2, .int 0), (1, .int 0), (0, .ref (S.heap.size + 0))]) X dX10_alike_3 (by decide) rfl ?_
  refine zr_sub [2, 1, 0] rfl ?_
  refine zl_w2 (fun a2 a3 => zv_V S D cA p l e (zv_rm d 0 0) s mi args below meth c 3 (MQ below (zv_Q S D cA (zq_i SH0 (fun v m' => m = m' ∧ P v))) args s 0 0 (zv_fr S)) 0 0 4 [(0, .ref (S.heap.size + 0)), (1, .int a2), (2, .int a3)] [] SH0 m) (fN_alike_l4 m) _ (fun P1 hl1 hr1 a2 a3 h => ?_) zFU 0 0 (zw_b1 h)
  rw [fN_alike_l4] at h
  refine zr_iload_n X dX10_alike_4 2 rfl ?_
  refine zr_bipush (v := 8) X dX10_alike_5 (by decide) ?_
  refine zr_icmp_ge (tgt := 27) X dX10_alike_7 (by decide) (fun q => ?_) (fun q => ?_)
  · rw [if_neg q] at h
    refine zr_iload_n X dX10_alike_27 1 rfl ?_
    have h := hr1 _ h
    exact zr_iret X dX10_alike_28 rfl ⟨Nat.le_refl _, Nat.le_refl _⟩ ⟨rfl, _, rfl, rfl, h⟩
  · rw [if_pos q] at h
    refine zr_aload_n X dX10_alike_10 0 rfl ?_
    refine zr_iload_n X dX10_alike_11 2 rfl ?_
    refine zr_callV_i (As := [.int a3]) (st := []) (d := d - 1) X dX10_alike_12 wm_X10_273 my_X10_looksSame mv_X10_looksSame zo_0 rfl (Nat.le_of_ble_eq_true rfl) (zRm (by omega)) ⟨Nat.le_refl _, Nat.le_refl _⟩ (x_fN_looksSame hG (d - 1) (by omega) a3 m _ (zw_b1 h)) (fun r4 m5 q => ?_)
    obtain ⟨rfl, h⟩ := q
    have hJ21 : ∀ (a6 : Int32), zw (fN_alike_j21 a3 a6) P1 → zv_V S D cA p l e (zv_rm d 0 0) s mi args below meth c 3 (MQ below (zv_Q S D cA (zq_i SH0 (fun v m' => m = m' ∧ P v))) args s 0 0 (zv_fr S)) 0 0 21 [(0, .ref (S.heap.size + 0)), (1, .int a6), (2, .int a3)] [] SH0 m := by
      intro a6 h
      rw [fN_alike_j21] at h
      refine zr_iinc (v := a3 + 1) (lo' := [(2, .int (a3 + 1)), (0, .ref (S.heap.size + 0)), (1, .int a6)]) X dX10_alike_21 2 rfl rfl (by decide) rfl ?_
      refine zr_goto (tgt := 4) X dX10_alike_24 (by decide) ?_
      have h := hl1 _ h
      exact zr_sub [1, 2, 0] rfl h
    refine zr_if_eq (tgt := 21) X dX10_alike_15 (by decide) (fun q => ?_) (fun q => ?_)
    · rw [if_pos q] at h
      exact zr_sub [0, 1, 2] rfl (hJ21 a2 h)
    · rw [if_neg q] at h
      refine zr_iinc (v := a2 + 1) (lo' := [(1, .int (a2 + 1)), (0, .ref (S.heap.size + 0)), (2, .int a3)]) X dX10_alike_18 1 rfl rfl (by decide) rfl ?_
      exact zr_sub [1, 0, 2] rfl (hJ21 (a2 + 1) h)

set_option maxRecDepth 100000 in
set_option maxHeartbeats 4000000 in
theorem x_fN_aim {l : Launch} {S : State} {D : va_G} {cA : Nat → ClassId} {tb sx : Nat → Nat} (hG : zv_G S D cA tb sx) (d : Nat) (hd : 3 ≤ d) (p1 : Int32) (m : zv_M) (P : Int32 → zv_M → Prop) (h : zw2 (fN_aim p1 m) P) : zv_Met l S D cA d 0 0 yX10_aim cX10_aim 2 (some .int) [.ref (S.heap.size + 0), .int p1] SH0 m (zq_i SH0 P) := by
  refine zv_met false hG pf_X10_aim (fun z => by cases z) (Nat.le_of_ble_eq_true rfl) [(0, .ref (S.heap.size + 0)), (1, .int p1)] rfl (fun p e s mi args below meth c X => ?_)
  rw [fN_aim] at h
  refine zr_iload_n X dX10_aim_0 1 rfl ?_
  refine zr_iconst (v := (-1)) X dX10_aim_1 (by decide) ?_
  refine zr_icmp_ne (tgt := 17) X dX10_aim_2 (by decide) (fun q => ?_) (fun q => ?_)
  · rw [if_neg q] at h
    refine zr_aload_n X dX10_aim_17 0 rfl ?_
    refine zr_iload_n X dX10_aim_18 1 rfl ?_
    refine zr_callV_i (As := [.int p1]) (st := []) (d := d - 1) X dX10_aim_19 wm_X10_183 my_X10_isSquare mv_X10_isSquare zo_0 rfl (Nat.le_of_ble_eq_true rfl) (zRm (by omega)) ⟨Nat.le_refl _, Nat.le_refl _⟩ (x_fN_isSquare hG (d - 1) (by omega) p1 m _ (zw_b12 h)) (fun r1 m2 q => ?_)
    obtain ⟨rfl, h⟩ := q
    refine zr_if_ne (tgt := 27) X dX10_aim_22 (by decide) (fun q => ?_) (fun q => ?_)
    · rw [if_neg q] at h
      refine zr_aload_n X dX10_aim_27 0 rfl ?_
      refine zr_getR X dX10_aim_28 zd_X10_12 rfl zo_0 zl_0_0 ?_
      refine zr_getR X dX10_aim_31 zd_X10_276 rfl zo_1 zl_1_4 ?_
      refine zr_iload_n X dX10_aim_34 1 rfl ?_
      refine zr_callV_i (As := [.int p1]) (st := []) (d := d - 1) X dX10_aim_35 wm_X10_282 my_X2_contains mv_X2_contains zo_9 rfl (Nat.le_of_ble_eq_true rfl) (zRm (by omega)) ⟨Nat.le_refl _, Nat.le_refl _⟩ (x_fPi_contains hG (d - 1) (by omega) 9 zo_9 p1 m _ (zw_b12 h)) (fun r3 m4 q => ?_)
      obtain ⟨rfl, h⟩ := q
      refine zr_if_eq (tgt := 44) X dX10_aim_38 (by decide) (fun q => ?_) (fun q => ?_)
      · rw [if_pos q] at h
        refine zr_aload_n X dX10_aim_44 0 rfl ?_
        refine zr_getR X dX10_aim_45 zd_X10_12 rfl zo_0 zl_0_0 ?_
        refine zr_getR X dX10_aim_48 zd_X10_276 rfl zo_1 zl_1_4 ?_
        refine zr_callV_i (As := []) (st := []) (d := d - 1) X dX10_aim_51 wm_X10_100 my_X2_isFull mv_X2_isFull zo_9 rfl (Nat.le_of_ble_eq_true rfl) (zRm (by omega)) ⟨Nat.le_refl _, Nat.le_refl _⟩ (x_fPi_isFull hG (d - 1) (by omega) 9 zo_9 m _ (zw_b12 h)) (fun r5 m6 q => ?_)
        obtain ⟨rfl, h⟩ := q
        refine zr_if_eq (tgt := 60) X dX10_aim_54 (by decide) (fun q => ?_) (fun q => ?_)
        · rw [if_pos q] at h
          refine zr_aload_n X dX10_aim_60 0 rfl ?_
          refine zr_getR X dX10_aim_61 zd_X10_12 rfl zo_0 zl_0_0 ?_
          refine zr_getR X dX10_aim_64 zd_X10_276 rfl zo_1 zl_1_4 ?_
          refine zr_iload_n X dX10_aim_67 1 rfl ?_
          refine zr_callV_v (As := [.int p1]) (st := []) (d := d - 1) X dX10_aim_68 wm_X10_106 my_X2_add mv_X2_add zo_9 rfl (Nat.le_of_ble_eq_true rfl) (zRm (by omega)) ⟨Nat.le_refl _, Nat.le_refl _⟩ (x_fPi_add hG (d - 1) (by omega) 9 zo_9 p1 m _ (zw_b12 h)) (fun m7 q => ?_)
          replace h := q
          refine zr_aload_n X dX10_aim_71 0 rfl ?_
          refine zr_getR X dX10_aim_72 zd_X10_12 rfl zo_0 zl_0_0 ?_
          refine zr_getR X dX10_aim_75 zd_X10_276 rfl zo_1 zl_1_4 ?_
          refine zr_getI X dX10_aim_78 zd_X10_116 rfl zo_9 (by rw [zk_2 zo_9]; decide) ?_
          exact zr_iret X dX10_aim_81 rfl ⟨Nat.le_refl _, Nat.le_refl _⟩ ⟨rfl, _, rfl, h⟩
        · rw [if_neg q] at h
          refine zr_bipush (v := (-4)) X dX10_aim_57 (by decide) ?_
          exact zr_iret X dX10_aim_59 rfl ⟨Nat.le_refl _, Nat.le_refl _⟩ ⟨rfl, _, rfl, h⟩
      · rw [if_neg q] at h
        refine zr_bipush (v := (-2)) X dX10_aim_41 (by decide) ?_
        exact zr_iret X dX10_aim_43 rfl ⟨Nat.le_refl _, Nat.le_refl _⟩ ⟨rfl, _, rfl, h⟩
    · rw [if_pos q] at h
      refine zr_iconst (v := (-1)) X dX10_aim_25 (by decide) ?_
      exact zr_iret X dX10_aim_26 rfl ⟨Nat.le_refl _, Nat.le_refl _⟩ ⟨rfl, _, rfl, h⟩
  · rw [if_pos q] at h
    refine zr_aload_n X dX10_aim_5 0 rfl ?_
    refine zr_getR X dX10_aim_6 zd_X10_12 rfl zo_0 zl_0_0 ?_
    refine zr_getR X dX10_aim_9 zd_X10_276 rfl zo_1 zl_1_4 ?_
    refine zr_callV_v (As := []) (st := []) (d := d - 1) X dX10_aim_12 wm_X10_279 my_X2_drop mv_X2_drop zo_9 rfl (Nat.le_of_ble_eq_true rfl) (zRm (by omega)) ⟨Nat.le_refl _, Nat.le_refl _⟩ (x_fPi_drop hG (d - 1) (by omega) 9 zo_9 m _ (zw_b12 h)) (fun m8 q => ?_)
    replace h := q
    refine zr_iconst (v := 0) X dX10_aim_15 (by decide) ?_
    exact zr_iret X dX10_aim_16 rfl ⟨Nat.le_refl _, Nat.le_refl _⟩ ⟨rfl, _, rfl, h⟩

set_option maxRecDepth 100000 in
set_option maxHeartbeats 4000000 in
theorem x_fN_reach {l : Launch} {S : State} {D : va_G} {cA : Nat → ClassId} {tb sx : Nat → Nat} (hG : zv_G S D cA tb sx) (d : Nat) (hd : 7 ≤ d) (m : zv_M) (P : Int32 → zv_M → Prop) (h : zw2 (fN_reach m) P) : zv_Met l S D cA d 0 0 yX10_reach cX10_reach 2 (some .int) [.ref (S.heap.size + 0)] SH0 m (zq_i SH0 P) := by
  refine zv_met false hG pf_X10_reach (fun z => by cases z) (Nat.le_of_ble_eq_true rfl) [(0, .ref (S.heap.size + 0))] rfl (fun p e s mi args below meth c X => ?_)
  rw [fN_reach] at h
  refine zr_aload_n X dX10_reach_0 0 rfl ?_
  refine zr_getR X dX10_reach_1 zd_X10_12 rfl zo_0 zl_0_0 ?_
  refine zr_callV_i (As := []) (st := []) (d := d - 1) X dX10_reach_4 wm_X10_162 my_X5_menBits mv_X5_menBits zo_1 rfl (Nat.le_of_ble_eq_true rfl) (zRm (by omega)) ⟨Nat.le_refl _, Nat.le_refl _⟩ (x_fSt_menBits hG (d - 1) (by omega) 1 zo_1 m _ (zw_b12 h)) (fun r1 m2 q => ?_)
  obtain ⟨rfl, h⟩ := q
  refine zr_istore_n (lo' := [(1, .int r1), (0, .ref (S.heap.size + 0))]) X dX10_reach_7 (by decide) rfl ?_
  refine zr_iload_n X dX10_reach_8 0 rfl ?_
  refine zr_callS_i (As := [.int r1]) (st := []) (d := d - 1) X dX10_reach_9 wm_X10_166 ws_J6_bitCount_0f7a4 my_J6_bitCount_0f7a4 rfl (Nat.le_of_ble_eq_true rfl) (zRm (by omega)) ⟨Nat.le_refl _, Nat.le_refl _⟩ (x_fJ_bitCount hG (d - 1) (by omega) r1 m _ (zw_b12 h)) (fun r3 m4 q => ?_)
  obtain ⟨rfl, h⟩ := q
  refine zr_iconst (v := 5) X dX10_reach_12 (by decide) ?_
  refine zr_icmp_le (tgt := 19) X dX10_reach_13 (by decide) (fun q => ?_) (fun q => ?_)
  · rw [if_neg q] at h
    refine zr_iload_n X dX10_reach_19 0 rfl ?_
    refine zr_callS_i (As := [.int r1]) (st := []) (d := d - 1) X dX10_reach_20 wm_X10_166 ws_J6_bitCount_0f7a4 my_J6_bitCount_0f7a4 rfl (Nat.le_of_ble_eq_true rfl) (zRm (by omega)) ⟨Nat.le_refl _, Nat.le_refl _⟩ (x_fJ_bitCount hG (d - 1) (by omega) r1 m _ (zw_b12 h)) (fun r5 m6 q => ?_)
    obtain ⟨rfl, h⟩ := q
    refine zr_aload_n X dX10_reach_23 1 rfl ?_
    refine zr_getR X dX10_reach_24 zd_X10_12 rfl zo_0 zl_0_0 ?_
    refine zr_getR X dX10_reach_27 zd_X10_276 rfl zo_1 zl_1_4 ?_
    refine zr_getI X dX10_reach_30 zd_X10_116 rfl zo_9 (by rw [zk_2 zo_9]; decide) ?_
    refine zr_icmp_eq (tgt := 39) X dX10_reach_33 (by decide) (fun q => ?_) (fun q => ?_)
    · rw [if_pos q] at h
      refine zr_aload_n X dX10_reach_39 1 rfl ?_
      refine zr_getR X dX10_reach_40 zd_X10_74 rfl zo_0 zl_0_11 ?_
      refine zr_aload_n X dX10_reach_43 1 rfl ?_
      refine zr_callV_a (As := []) (st := [.ref (S.heap.size + 58)]) (d := d - 1) X dX10_reach_44 wm_X10_154 my_X10_ground mv_X10_ground zo_0 rfl (Nat.le_of_ble_eq_true rfl) (zRm (by omega)) ⟨Nat.le_refl _, Nat.le_refl _⟩ (x_fN_ground hG (d - 1) (by omega) m _ (zw_b12 h)) (fun r7 m8 q => ?_)
      obtain ⟨rfl, hc9, h⟩ := q
      refine zr_iload_n X dX10_reach_47 0 rfl ?_
      refine zr_aload_n X dX10_reach_48 1 rfl ?_
      refine zr_getR X dX10_reach_49 zd_X10_12 rfl zo_0 zl_0_0 ?_
      refine zr_getR X dX10_reach_52 zd_X10_276 rfl zo_1 zl_1_4 ?_
      refine zr_callV_i (As := [.ref (S.heap.size + r7), .int r1, .ref (S.heap.size + 9)]) (st := []) (d := d - 1) X dX10_reach_55 wm_X10_285 my_X7_fewestSteps mv_X7_fewestSteps zo_58 rfl (Nat.le_of_ble_eq_true rfl) (zRm (by omega)) ⟨Nat.le_refl _, Nat.le_refl _⟩ (x_fWa_fewestSteps hG (d - 1) (by omega) r7 hc9 r1 9 zo_9 m _ (zw_b22 h)) (fun r10 m11 q => ?_)
      replace h := q
      exact zr_iret X dX10_reach_58 rfl ⟨Nat.le_refl _, Nat.le_refl _⟩ ⟨rfl, _, rfl, h⟩
    · rw [if_neg q] at h
      refine zr_bipush (v := (-5)) X dX10_reach_36 (by decide) ?_
      exact zr_iret X dX10_reach_38 rfl ⟨Nat.le_refl _, Nat.le_refl _⟩ ⟨rfl, _, rfl, h⟩
  · rw [if_pos q] at h
    refine zr_bipush (v := (-9)) X dX10_reach_16 (by decide) ?_
    exact zr_iret X dX10_reach_18 rfl ⟨Nat.le_refl _, Nat.le_refl _⟩ ⟨rfl, _, rfl, h⟩

set_option maxRecDepth 100000 in
set_option maxHeartbeats 4000000 in
theorem x_fN_see {l : Launch} {S : State} {D : va_G} {cA : Nat → ClassId} {tb sx : Nat → Nat} (hG : zv_G S D cA tb sx) (d : Nat) (hd : 3 ≤ d) (p1 : Int32) (p2 : Int32) (m : zv_M) (P : Int32 → zv_M → Prop) (h : zw2 (fN_see p1 p2 m) P) : zv_Met l S D cA d 0 0 yX10_see cX10_see 3 (some .int) [.ref (S.heap.size + 0), .int p1, .int p2] SH0 m (zq_i SH0 P) := by
  refine zv_met false hG pf_X10_see (fun z => by cases z) (Nat.le_of_ble_eq_true rfl) [(0, .ref (S.heap.size + 0)), (1, .int p1), (2, .int p2)] rfl (fun p e s mi args below meth c X => ?_)
  rw [fN_see] at h
  refine zr_iload_n X dX10_see_0 1 rfl ?_
  refine zr_iconst (v := (-1)) X dX10_see_1 (by decide) ?_
  refine zr_icmp_ne (tgt := 14) X dX10_see_2 (by decide) (fun q => ?_) (fun q => ?_)
  · rw [if_neg q] at h
    refine zr_aload_n X dX10_see_14 0 rfl ?_
    refine zr_iload_n X dX10_see_15 1 rfl ?_
    refine zr_callV_i (As := [.int p1]) (st := []) (d := d - 1) X dX10_see_16 wm_X10_183 my_X10_isSquare mv_X10_isSquare zo_0 rfl (Nat.le_of_ble_eq_true rfl) (zRm (by omega)) ⟨Nat.le_refl _, Nat.le_refl _⟩ (x_fN_isSquare hG (d - 1) (by omega) p1 m _ (zw_b12 h)) (fun r1 m2 q => ?_)
    obtain ⟨rfl, h⟩ := q
    refine zr_if_ne (tgt := 24) X dX10_see_19 (by decide) (fun q => ?_) (fun q => ?_)
    · rw [if_neg q] at h
      refine zr_iload_n X dX10_see_24 2 rfl ?_
      refine zr_if_lt (tgt := 34) X dX10_see_25 (by decide) (fun q => ?_) (fun q => ?_)
      · rw [if_pos q] at h
        refine zr_bipush (v := (-2)) X dX10_see_34 (by decide) ?_
        exact zr_iret X dX10_see_36 rfl ⟨Nat.le_refl _, Nat.le_refl _⟩ ⟨rfl, _, rfl, h⟩
      · rw [if_neg q] at h
        refine zr_iload_n X dX10_see_28 2 rfl ?_
        refine zr_bipush (v := 25) X dX10_see_29 (by decide) ?_
        refine zr_icmp_le (tgt := 37) X dX10_see_31 (by decide) (fun q => ?_) (fun q => ?_)
        · rw [if_neg q] at h
          refine zr_aload_n X dX10_see_37 0 rfl ?_
          refine zr_getR X dX10_see_38 zd_X10_12 rfl zo_0 zl_0_0 ?_
          refine zr_getR X dX10_see_41 zd_X10_292 rfl zo_1 zl_1_5 ?_
          refine zr_callV_i (As := []) (st := []) (d := d - 1) X dX10_see_44 wm_X10_100 my_X2_isFull mv_X2_isFull zo_11 rfl (Nat.le_of_ble_eq_true rfl) (zRm (by omega)) ⟨Nat.le_refl _, Nat.le_refl _⟩ (x_fPi_isFull hG (d - 1) (by omega) 11 zo_11 m _ (zw_b12 h)) (fun r3 m4 q => ?_)
          obtain ⟨rfl, h⟩ := q
          refine zr_if_eq (tgt := 53) X dX10_see_47 (by decide) (fun q => ?_) (fun q => ?_)
          · rw [if_pos q] at h
            refine zr_aload_n X dX10_see_53 0 rfl ?_
            refine zr_getR X dX10_see_54 zd_X10_12 rfl zo_0 zl_0_0 ?_
            refine zr_getR X dX10_see_57 zd_X10_292 rfl zo_1 zl_1_5 ?_
            refine zr_iload_n X dX10_see_60 1 rfl ?_
            refine zr_callV_v (As := [.int p1]) (st := []) (d := d - 1) X dX10_see_61 wm_X10_106 my_X2_add mv_X2_add zo_11 rfl (Nat.le_of_ble_eq_true rfl) (zRm (by omega)) ⟨Nat.le_refl _, Nat.le_refl _⟩ (x_fPi_add hG (d - 1) (by omega) 11 zo_11 p1 m _ (zw_b12 h)) (fun m5 q => ?_)
            replace h := q
            refine zr_aload_n X dX10_see_64 0 rfl ?_
            refine zr_getR X dX10_see_65 zd_X10_12 rfl zo_0 zl_0_0 ?_
            refine zr_getR X dX10_see_68 zd_X10_295 rfl zo_1 zl_1_6 ?_
            refine zr_iload_n X dX10_see_71 2 rfl ?_
            refine zr_callV_v (As := [.int p2]) (st := []) (d := d - 1) X dX10_see_72 wm_X10_106 my_X2_add mv_X2_add zo_13 rfl (Nat.le_of_ble_eq_true rfl) (zRm (by omega)) ⟨Nat.le_refl _, Nat.le_refl _⟩ (x_fPi_add hG (d - 1) (by omega) 13 zo_13 p2 m5 _ (zw_b12 h)) (fun m6 q => ?_)
            replace h := q
            refine zr_aload_n X dX10_see_75 0 rfl ?_
            refine zr_getR X dX10_see_76 zd_X10_12 rfl zo_0 zl_0_0 ?_
            refine zr_getR X dX10_see_79 zd_X10_292 rfl zo_1 zl_1_5 ?_
            refine zr_getI X dX10_see_82 zd_X10_116 rfl zo_11 (by rw [zk_2 zo_11]; decide) ?_
            exact zr_iret X dX10_see_85 rfl ⟨Nat.le_refl _, Nat.le_refl _⟩ ⟨rfl, _, rfl, h⟩
          · rw [if_neg q] at h
            refine zr_bipush (v := (-4)) X dX10_see_50 (by decide) ?_
            exact zr_iret X dX10_see_52 rfl ⟨Nat.le_refl _, Nat.le_refl _⟩ ⟨rfl, _, rfl, h⟩
        · rw [if_pos q] at h
          refine zr_bipush (v := (-2)) X dX10_see_34 (by decide) ?_
          exact zr_iret X dX10_see_36 rfl ⟨Nat.le_refl _, Nat.le_refl _⟩ ⟨rfl, _, rfl, h⟩
    · rw [if_pos q] at h
      refine zr_iconst (v := (-1)) X dX10_see_22 (by decide) ?_
      exact zr_iret X dX10_see_23 rfl ⟨Nat.le_refl _, Nat.le_refl _⟩ ⟨rfl, _, rfl, h⟩
  · rw [if_pos q] at h
    refine zr_aload_n X dX10_see_5 0 rfl ?_
    refine zr_getR X dX10_see_6 zd_X10_12 rfl zo_0 zl_0_0 ?_
    refine zr_callV_v (As := []) (st := []) (d := d - 1) X dX10_see_9 wm_X10_289 my_X5_dropSeen mv_X5_dropSeen zo_1 rfl (Nat.le_of_ble_eq_true rfl) (zRm (by omega)) ⟨Nat.le_refl _, Nat.le_refl _⟩ (x_fSt_dropSeen hG (d - 1) (by omega) 1 zo_1 m _ (zw_b12 h)) (fun m7 q => ?_)
    replace h := q
    refine zr_iconst (v := 0) X dX10_see_12 (by decide) ?_
    exact zr_iret X dX10_see_13 rfl ⟨Nat.le_refl _, Nat.le_refl _⟩ ⟨rfl, _, rfl, h⟩

set_option maxRecDepth 100000 in
set_option maxHeartbeats 4000000 in
theorem x_fN_makesSeenSo {l : Launch} {S : State} {D : va_G} {cA : Nat → ClassId} {tb sx : Nat → Nat} (hG : zv_G S D cA tb sx) (d : Nat) (hd : 3 ≤ d) (p1 : Int32) (m : zv_M) (P : Int32 → Prop) (h : zw (fN_makesSeenSo p1 m) P) : zv_Met l S D cA d 0 0 yX10_makesSeenSo cX10_makesSeenSo 5 (some .boolean) [.ref (S.heap.size + 0), .int p1] SH0 m (zq_i SH0 (fun v m' => m = m' ∧ P v)) := by
  refine zv_met false hG pf_X10_makesSeenSo (fun z => by cases z) (Nat.le_of_ble_eq_true rfl) [(0, .ref (S.heap.size + 0)), (1, .int p1)] rfl (fun p e s mi args below meth c X => ?_)
  rw [fN_makesSeenSo] at h
  refine zr_iconst (v := 0) X dX10_makesSeenSo_0 (by decide) ?_
  refine zr_istore_n (lo' := [(2, .int 0), (0, .ref (S.heap.size + 0)), (1, .int p1)]) X dX10_makesSeenSo_1 (by decide) rfl ?_
  refine zr_sub [1, 2, 0] rfl ?_
  refine zl_w1 (fun a2 => zv_V S D cA p l e (zv_rm d 0 0) s mi args below meth c 5 (MQ below (zv_Q S D cA (zq_i SH0 (fun v m' => m = m' ∧ P v))) args s 0 0 (zv_fr S)) 0 0 2 [(0, .ref (S.heap.size + 0)), (1, .int p1), (2, .int a2)] [] SH0 m) (fN_makesSeenSo_l2 p1 m) _ (fun P1 hl1 hr1 a2 h => ?_) zFU 0 (zw_b1 h)
  rw [fN_makesSeenSo_l2] at h
  refine zr_iload_n X dX10_makesSeenSo_2 2 rfl ?_
  refine zr_aload_n X dX10_makesSeenSo_3 0 rfl ?_
  refine zr_getR X dX10_makesSeenSo_4 zd_X10_12 rfl zo_0 zl_0_0 ?_
  refine zr_getR X dX10_makesSeenSo_7 zd_X10_292 rfl zo_1 zl_1_5 ?_
  refine zr_getI X dX10_makesSeenSo_10 zd_X10_116 rfl zo_11 (by rw [zk_2 zo_11]; decide) ?_
  refine zr_icmp_ge (tgt := 76) X dX10_makesSeenSo_13 (by decide) (fun q => ?_) (fun q => ?_)
  · rw [if_neg q] at h
    refine zr_iconst (v := 1) X dX10_makesSeenSo_76 (by decide) ?_
    have h := hr1 _ h
    exact zr_iret X dX10_makesSeenSo_77 rfl ⟨Nat.le_refl _, Nat.le_refl _⟩ ⟨rfl, _, rfl, rfl, h⟩
  · rw [if_pos q] at h
    refine zr_aload_n X dX10_makesSeenSo_16 0 rfl ?_
    refine zr_getR X dX10_makesSeenSo_17 zd_X10_12 rfl zo_0 zl_0_0 ?_
    refine zr_getR X dX10_makesSeenSo_20 zd_X10_292 rfl zo_1 zl_1_5 ?_
    refine zr_iload_n X dX10_makesSeenSo_23 2 rfl ?_
    refine zr_callV_i (As := [.int a2]) (st := []) (d := d - 1) X dX10_makesSeenSo_24 wm_X10_122 my_X2_get mv_X2_get zo_11 rfl (Nat.le_of_ble_eq_true rfl) (zRm (by omega)) ⟨Nat.le_refl _, Nat.le_refl _⟩ (x_fPi_get hG (d - 1) (by omega) 11 zo_11 a2 m _ (zw_b1 h)) (fun r3 m4 q => ?_)
    obtain ⟨rfl, h⟩ := q
    refine zr_istore_n (lo' := [(3, .int r3), (0, .ref (S.heap.size + 0)), (1, .int p1), (2, .int a2)]) X dX10_makesSeenSo_27 (by decide) rfl ?_
    refine zr_aload_n X dX10_makesSeenSo_28 1 rfl ?_
    refine zr_getR X dX10_makesSeenSo_29 zd_X10_50 rfl zo_0 zl_0_7 ?_
    refine zr_iload_n X dX10_makesSeenSo_32 0 rfl ?_
    refine zr_callV_i (As := [.int r3]) (st := []) (d := d - 1) X dX10_makesSeenSo_33 wm_X10_205 my_X4_seersOf mv_X4_seersOf zo_43 rfl (Nat.le_of_ble_eq_true rfl) (zRm (by omega)) ⟨Nat.le_refl _, Nat.le_refl _⟩ (x_fSi_seersOf hG (d - 1) (by omega) 43 zo_43 r3 m _ (zw_b1 h)) (fun r5 m6 q => ?_)
    obtain ⟨rfl, h⟩ := q
    refine zr_iload_n X dX10_makesSeenSo_36 2 rfl ?_
    refine zr_iload_n X dX10_makesSeenSo_37 0 rfl ?_
    refine zr_callS_i (As := [.int p1, .int r3]) (st := [.int r5]) (d := d - 1) X dX10_makesSeenSo_38 wm_X10_189 ws_X10_isIn my_X10_isIn rfl (Nat.le_of_ble_eq_true rfl) (zRm (by omega)) ⟨Nat.le_refl _, Nat.le_refl _⟩ (x_fN_isIn hG (d - 1) (by omega) p1 r3 m _ (zw_b1 h)) (fun r7 m8 q => ?_)
    obtain ⟨rfl, h⟩ := q
    have hJ49 : ∀ (v9 : Int32), zw (fN_makesSeenSo_j49 m a2 r5 v9) P1 → zv_V S D cA p l e (zv_rm d 0 0) s mi args below meth c 5 (MQ below (zv_Q S D cA (zq_i SH0 (fun v m' => m = m' ∧ P v))) args s 0 0 (zv_fr S)) 0 0 49 [(0, .ref (S.heap.size + 0)), (1, .int p1), (2, .int a2)] [.int v9, .int r5] SH0 m := by
      intro v9 h
      rw [fN_makesSeenSo_j49] at h
      refine zr_iadd X dX10_makesSeenSo_49 ?_
      refine zr_istore (lo' := [(4, .int (r5 + v9)), (0, .ref (S.heap.size + 0)), (1, .int p1), (2, .int a2)]) X dX10_makesSeenSo_50 (by decide) rfl ?_
      refine zr_iload X dX10_makesSeenSo_52 0 rfl ?_
      refine zr_aload_n X dX10_makesSeenSo_54 1 rfl ?_
      refine zr_getR X dX10_makesSeenSo_55 zd_X10_12 rfl zo_0 zl_0_0 ?_
      refine zr_getR X dX10_makesSeenSo_58 zd_X10_295 rfl zo_1 zl_1_6 ?_
      refine zr_iload_n X dX10_makesSeenSo_61 3 rfl ?_
      refine zr_callV_i (As := [.int a2]) (st := [.int (r5 + v9)]) (d := d - 1) X dX10_makesSeenSo_62 wm_X10_122 my_X2_get mv_X2_get zo_13 rfl (Nat.le_of_ble_eq_true rfl) (zRm (by omega)) ⟨Nat.le_refl _, Nat.le_refl _⟩ (x_fPi_get hG (d - 1) (by omega) 13 zo_13 a2 m _ (zw_b1 h)) (fun r10 m11 q => ?_)
      obtain ⟨rfl, h⟩ := q
      refine zr_icmp_eq (tgt := 70) X dX10_makesSeenSo_65 (by decide) (fun q => ?_) (fun q => ?_)
      · rw [if_pos q] at h
        refine zr_iinc (v := a2 + 1) (lo' := [(2, .int (a2 + 1)), (4, .int (r5 + v9)), (0, .ref (S.heap.size + 0)), (1, .int p1)]) X dX10_makesSeenSo_70 3 rfl rfl (by decide) rfl ?_
        refine zr_goto (tgt := 2) X dX10_makesSeenSo_73 (by decide) ?_
        have h := hl1 _ h
        exact zr_sub [2, 3, 0] rfl h
      · rw [if_neg q] at h
        refine zr_iconst (v := 0) X dX10_makesSeenSo_68 (by decide) ?_
        have h := hr1 _ h
        exact zr_iret X dX10_makesSeenSo_69 rfl ⟨Nat.le_refl _, Nat.le_refl _⟩ ⟨rfl, _, rfl, rfl, h⟩
    refine zr_if_eq (tgt := 48) X dX10_makesSeenSo_41 (by decide) (fun q => ?_) (fun q => ?_)
    · rw [if_pos q] at h
      refine zr_iconst (v := 0) X dX10_makesSeenSo_48 (by decide) ?_
      exact zr_sub [1, 2, 3] rfl (hJ49 0 h)
    · rw [if_neg q] at h
      refine zr_iconst (v := 1) X dX10_makesSeenSo_44 (by decide) ?_
      refine zr_goto (tgt := 49) X dX10_makesSeenSo_45 (by decide) ?_
      exact zr_sub [1, 2, 3] rfl (hJ49 1 h)

set_option maxRecDepth 100000 in
set_option maxHeartbeats 4000000 in
theorem x_fN_rubbed {l : Launch} {S : State} {D : va_G} {cA : Nat → ClassId} {tb sx : Nat → Nat} (hG : zv_G S D cA tb sx) (d : Nat) (hd : 7 ≤ d) (p1 : Int32) (m : zv_M) (P : Int32 → zv_M → Prop) (h : zw2 (fN_rubbed p1 m) P) : zv_Met l S D cA d 0 0 yX10_rubbed cX10_rubbed 5 (some .int) [.ref (S.heap.size + 0), .int p1] SH0 m (zq_i SH0 P) := by
  refine zv_met false hG pf_X10_rubbed (fun z => by cases z) (Nat.le_of_ble_eq_true rfl) [(0, .ref (S.heap.size + 0)), (1, .int p1)] rfl (fun p e s mi args below meth c X => ?_)
  rw [fN_rubbed] at h
  refine zr_aload_n X dX10_rubbed_0 0 rfl ?_
  refine zr_iload_n X dX10_rubbed_1 1 rfl ?_
  refine zr_callV_i (As := [.int p1]) (st := []) (d := d - 1) X dX10_rubbed_2 wm_X10_119 my_X10_isPlan mv_X10_isPlan zo_0 rfl (Nat.le_of_ble_eq_true rfl) (zRm (by omega)) ⟨Nat.le_refl _, Nat.le_refl _⟩ (x_fN_isPlan hG (d - 1) (by omega) p1 m _ (zw_b12 h)) (fun r1 m2 q => ?_)
  obtain ⟨rfl, h⟩ := q
  refine zr_if_ne (tgt := 10) X dX10_rubbed_5 (by decide) (fun q => ?_) (fun q => ?_)
  · rw [if_neg q] at h
    refine zr_aload_n X dX10_rubbed_10 0 rfl ?_
    refine zr_callV_v (As := []) (st := []) (d := d - 1) X dX10_rubbed_11 wm_X10_202 my_X10_lookByMen mv_X10_lookByMen zo_0 rfl (Nat.le_of_ble_eq_true rfl) (zRm (by omega)) ⟨Nat.le_refl _, Nat.le_refl _⟩ (x_fN_lookByMen hG (d - 1) (by omega) m _ (zw_b12 h)) (fun m3 q => ?_)
    replace h := q
    refine zr_aload_n X dX10_rubbed_14 0 rfl ?_
    refine zr_iload_n X dX10_rubbed_15 1 rfl ?_
    refine zr_callV_v (As := [.int p1]) (st := []) (d := d - 1) X dX10_rubbed_16 wm_X10_236 my_X10_lookByPlan mv_X10_lookByPlan zo_0 rfl (Nat.le_of_ble_eq_true rfl) (zRm (by omega)) ⟨Nat.le_refl _, Nat.le_refl _⟩ (x_fN_lookByPlan hG (d - 1) (by omega) p1 m3 _ (zw_b12 h)) (fun m4 q => ?_)
    replace h := q
    refine zr_aload_n X dX10_rubbed_19 0 rfl ?_
    refine zr_callV_i (As := []) (st := []) (d := d - 1) X dX10_rubbed_20 wm_X10_186 my_X10_openSquares mv_X10_openSquares zo_0 rfl (Nat.le_of_ble_eq_true rfl) (zRm (by omega)) ⟨Nat.le_refl _, Nat.le_refl _⟩ (x_fN_openSquares hG (d - 1) (by omega) m4 _ (zw_b12 h)) (fun r5 m6 q => ?_)
    obtain ⟨rfl, h⟩ := q
    refine zr_istore_n (lo' := [(2, .int r5), (0, .ref (S.heap.size + 0)), (1, .int p1)]) X dX10_rubbed_23 (by decide) rfl ?_
    refine zr_iconst (v := 0) X dX10_rubbed_24 (by decide) ?_
    refine zr_istore_n (lo' := [(3, .int 0), (2, .int r5), (0, .ref (S.heap.size + 0)), (1, .int p1)]) X dX10_rubbed_25 (by decide) rfl ?_
    refine zr_iconst (v := 0) X dX10_rubbed_26 (by decide) ?_
    refine zr_istore (lo' := [(4, .int 0), (3, .int 0), (2, .int r5), (0, .ref (S.heap.size + 0)), (1, .int p1)]) X dX10_rubbed_27 (by decide) rfl ?_
    refine zr_sub [3, 2, 1, 0] rfl ?_
    refine zl_w2 (fun a8 a9 => zv_V S D cA p l e (zv_rm d 0 0) s mi args below meth c 5 (MQ below (zv_Q S D cA (zq_i SH0 P)) args s 0 0 (zv_fr S)) 0 0 29 [(0, .ref (S.heap.size + 0)), (2, .int r5), (3, .int a8), (4, .int a9)] [] SH0 m4) (fN_rubbed_l29 m4 r5) _ (fun P7 hl7 hr7 a8 a9 h => ?_) zFU 0 0 (zw_b12 h)
    rw [fN_rubbed_l29] at h
    refine zr_iload X dX10_rubbed_29 3 rfl ?_
    refine zr_bipush (v := 25) X dX10_rubbed_31 (by decide) ?_
    refine zr_icmp_ge (tgt := 74) X dX10_rubbed_33 (by decide) (fun q => ?_) (fun q => ?_)
    · rw [if_neg q] at h
      refine zr_iload_n X dX10_rubbed_74 2 rfl ?_
      have h := hr7 _ h
      exact zr_iret X dX10_rubbed_75 rfl ⟨Nat.le_refl _, Nat.le_refl _⟩ ⟨rfl, _, rfl, h⟩
    · rw [if_pos q] at h
      refine zr_iload_n X dX10_rubbed_36 1 rfl ?_
      refine zr_iload X dX10_rubbed_37 3 rfl ?_
      refine zr_callS_i (As := [.int r5, .int a9]) (st := []) (d := d - 1) X dX10_rubbed_39 wm_X10_189 ws_X10_isIn my_X10_isIn rfl (Nat.le_of_ble_eq_true rfl) (zRm (by omega)) ⟨Nat.le_refl _, Nat.le_refl _⟩ (x_fN_isIn hG (d - 1) (by omega) r5 a9 m4 _ (zw_b1 h)) (fun r10 m11 q => ?_)
      obtain ⟨rfl, h⟩ := q
      have hJ68 : ∀ (a12 : Int32), zw (fN_rubbed_j68 a9 a12) P7 → zv_V S D cA p l e (zv_rm d 0 0) s mi args below meth c 5 (MQ below (zv_Q S D cA (zq_i SH0 P)) args s 0 0 (zv_fr S)) 0 0 68 [(0, .ref (S.heap.size + 0)), (2, .int r5), (3, .int a12), (4, .int a9)] [] SH0 m4 := by
        intro a12 h
        rw [fN_rubbed_j68] at h
        refine zr_iinc (v := a9 + 1) (lo' := [(4, .int (a9 + 1)), (0, .ref (S.heap.size + 0)), (2, .int r5), (3, .int a12)]) X dX10_rubbed_68 3 rfl rfl (by decide) rfl ?_
        refine zr_goto (tgt := 29) X dX10_rubbed_71 (by decide) ?_
        have h := hl7 _ h
        exact zr_sub [1, 2, 3, 0] rfl h
      refine zr_if_eq (tgt := 68) X dX10_rubbed_42 (by decide) (fun q => ?_) (fun q => ?_)
      · rw [if_pos q] at h
        exact zr_sub [0, 1, 2, 3] rfl (hJ68 a8 h)
      · rw [if_neg q] at h
        refine zr_aload_n X dX10_rubbed_45 0 rfl ?_
        refine zr_aload_n X dX10_rubbed_46 0 rfl ?_
        refine zr_getR X dX10_rubbed_47 zd_X10_54 rfl zo_0 zl_0_8 ?_
        refine zr_iload X dX10_rubbed_50 3 rfl ?_
        refine zr_callV_i (As := [.int a9]) (st := [.ref (S.heap.size + 0)]) (d := d - 1) X dX10_rubbed_52 wm_X10_298 my_X4_viewFrom mv_X4_viewFrom zo_46 rfl (Nat.le_of_ble_eq_true rfl) (zRm (by omega)) ⟨Nat.le_refl _, Nat.le_refl _⟩ (x_fSi_viewFrom hG (d - 1) (by omega) 46 zo_46 a9 m4 _ (zw_b1 h)) (fun r13 m14 q => ?_)
        obtain ⟨rfl, h⟩ := q
        refine zr_callV_i (As := [.int r13]) (st := []) (d := d - 1) X dX10_rubbed_55 wm_X10_301 my_X10_makesSeenSo mv_X10_makesSeenSo zo_0 rfl (Nat.le_of_ble_eq_true rfl) (zRm (by omega)) ⟨Nat.le_refl _, Nat.le_refl _⟩ (x_fN_makesSeenSo hG (d - 1) (by omega) r13 m4 _ (zw_b1 h)) (fun r15 m16 q => ?_)
        obtain ⟨rfl, h⟩ := q
        refine zr_if_eq (tgt := 68) X dX10_rubbed_58 (by decide) (fun q => ?_) (fun q => ?_)
        · rw [if_pos q] at h
          exact zr_sub [0, 1, 2, 3] rfl (hJ68 a8 h)
        · rw [if_neg q] at h
          refine zr_iload_n X dX10_rubbed_61 2 rfl ?_
          refine zr_iconst (v := 1) X dX10_rubbed_62 (by decide) ?_
          refine zr_iload X dX10_rubbed_63 3 rfl ?_
          refine zr_ishl X dX10_rubbed_65 ?_
          refine zr_ior X dX10_rubbed_66 ?_
          refine zr_istore_n (lo' := [(3, .int (a8 ||| (1 <<< (a9 &&& 31)))), (0, .ref (S.heap.size + 0)), (2, .int r5), (4, .int a9)]) X dX10_rubbed_67 (by decide) rfl ?_
          exact zr_sub [1, 2, 0, 3] rfl (hJ68 (a8 ||| (1 <<< (a9 &&& 31))) h)
  · rw [if_pos q] at h
    refine zr_iconst (v := (-1)) X dX10_rubbed_8 (by decide) ?_
    exact zr_iret X dX10_rubbed_9 rfl ⟨Nat.le_refl _, Nat.le_refl _⟩ ⟨rfl, _, rfl, h⟩

set_option maxRecDepth 100000 in
set_option maxHeartbeats 4000000 in
theorem x_fN_fraction {l : Launch} {S : State} {D : va_G} {cA : Nat → ClassId} {tb sx : Nat → Nat} (hG : zv_G S D cA tb sx) (d : Nat) (hd : 1 ≤ d) (p1 : Int32) (p2 : Int32) (p3 : Int32) (m : zv_M) (P : Int64 → Prop) (h : zw (fN_fraction p1 p2 p3) P) : zv_Met l S D cA d 0 0 yX10_fraction cX10_fraction 7 (some .long) [.int p1, .int p2, .int p3] SH0 m (zq_l SH0 (fun v m' => m = m' ∧ P v)) := by
  refine zv_met false hG pf_X10_fraction (fun z => by cases z) (Nat.le_of_ble_eq_true rfl) [(0, .int p1), (1, .int p2), (2, .int p3)] rfl (fun p e s mi args below meth c X => ?_)
  rw [fN_fraction] at h
  refine zr_iload_n X dX10_fraction_0 1 rfl ?_
  refine zr_iconst (v := 1) X dX10_fraction_1 (by decide) ?_
  refine zr_icmp_lt (tgt := 14) X dX10_fraction_2 (by decide) (fun q => ?_) (fun q => ?_)
  · rw [if_pos q] at h
    refine zr_ldc2 X dX10_fraction_14 wc_X10_304 ?_
    exact zr_lret X dX10_fraction_17 ⟨Nat.le_refl _, Nat.le_refl _⟩ ⟨rfl, _, rfl, rfl, h⟩
  · rw [if_neg q] at h
    refine zr_iload_n X dX10_fraction_5 2 rfl ?_
    refine zr_if_lt (tgt := 14) X dX10_fraction_6 (by decide) (fun q => ?_) (fun q => ?_)
    · rw [if_pos q] at h
      refine zr_ldc2 X dX10_fraction_14 wc_X10_304 ?_
      exact zr_lret X dX10_fraction_17 ⟨Nat.le_refl _, Nat.le_refl _⟩ ⟨rfl, _, rfl, rfl, h⟩
    · rw [if_neg q] at h
      refine zr_iload_n X dX10_fraction_9 2 rfl ?_
      refine zr_iconst (v := 1) X dX10_fraction_10 (by decide) ?_
      refine zr_icmp_le (tgt := 18) X dX10_fraction_11 (by decide) (fun q => ?_) (fun q => ?_)
      · rw [if_neg q] at h
        refine zr_iload_n X dX10_fraction_18 1 rfl ?_
        refine zr_istore_n (lo' := [(3, .int p2), (0, .int p1), (1, .int p2), (2, .int p3)]) X dX10_fraction_19 (by decide) rfl ?_
        refine zr_iload_n X dX10_fraction_20 1 rfl ?_
        refine zr_istore (lo' := [(4, .int p1), (3, .int p2), (0, .int p1), (1, .int p2), (2, .int p3)]) X dX10_fraction_21 (by decide) rfl ?_
        refine zr_iconst (v := 0) X dX10_fraction_23 (by decide) ?_
        refine zr_istore (lo' := [(5, .int 0), (4, .int p1), (3, .int p2), (0, .int p1), (1, .int p2), (2, .int p3)]) X dX10_fraction_24 (by decide) rfl ?_
        refine zr_sub [3, 4, 5, 2, 1, 0] rfl ?_
        have hR1 : ∀ (a5 : Int32), zw (if a5 < 1 then some (-9223372036854775808) else if p3 = 0 then zg (zN a5) (some ((p1 / a5).toInt64)) else zg (zN a5) (some ((p2 / a5).toInt64)) : Option (Int64)) P → zv_V S D cA p l e (zv_rm d 0 0) s mi args below meth c 7 (MQ below (zv_Q S D cA (zq_l SH0 (fun v m' => m = m' ∧ P v))) args s 0 0 (zv_fr S)) 0 0 57 [(0, .int p1), (1, .int p2), (2, .int p3), (3, .int a5)] [] SH0 m := by
          intro a5 h
          refine zr_iload_n X dX10_fraction_57 3 rfl ?_
          refine zr_iconst (v := 1) X dX10_fraction_58 (by decide) ?_
          refine zr_icmp_ge (tgt := 66) X dX10_fraction_59 (by decide) (fun q => ?_) (fun q => ?_)
          · rw [if_neg q] at h
            refine zr_iload_n X dX10_fraction_66 2 rfl ?_
            refine zr_if_ne (tgt := 77) X dX10_fraction_67 (by decide) (fun q => ?_) (fun q => ?_)
            · rw [if_neg q] at h
              refine zr_iload_n X dX10_fraction_77 1 rfl ?_
              refine zr_iload_n X dX10_fraction_78 3 rfl ?_
              obtain ⟨g0, h⟩ := zg_e h
              refine zr_idiv X dX10_fraction_79 (zN_ne g0) ?_
              refine zr_i2l X dX10_fraction_80 ?_
              exact zr_lret X dX10_fraction_81 ⟨Nat.le_refl _, Nat.le_refl _⟩ ⟨rfl, _, rfl, rfl, h⟩
            · rw [if_pos q] at h
              refine zr_iload_n X dX10_fraction_70 0 rfl ?_
              refine zr_iload_n X dX10_fraction_71 3 rfl ?_
              obtain ⟨g0, h⟩ := zg_e h
              refine zr_idiv X dX10_fraction_72 (zN_ne g0) ?_
              refine zr_i2l X dX10_fraction_73 ?_
              refine zr_goto (tgt := 81) X dX10_fraction_74 (by decide) ?_
              exact zr_lret X dX10_fraction_81 ⟨Nat.le_refl _, Nat.le_refl _⟩ ⟨rfl, _, rfl, rfl, h⟩
          · rw [if_pos q] at h
            refine zr_ldc2 X dX10_fraction_62 wc_X10_304 ?_
            exact zr_lret X dX10_fraction_65 ⟨Nat.le_refl _, Nat.le_refl _⟩ ⟨rfl, _, rfl, rfl, h⟩
        refine zl_w3 (fun a2 a3 a4 => zv_V S D cA p l e (zv_rm d 0 0) s mi args below meth c 7 (MQ below (zv_Q S D cA (zq_l SH0 (fun v m' => m = m' ∧ P v))) args s 0 0 (zv_fr S)) 0 0 26 [(0, .int p1), (1, .int p2), (2, .int p3), (3, .int a2), (4, .int a3), (5, .int a4)] [] SH0 m) fN_fraction_l26 _ (fun P1 hl1 hr1 a2 a3 a4 h => ?_) zFU p2 p1 0 (zw_b1 h)
        rw [fN_fraction_l26] at h
        refine zr_iload X dX10_fraction_26 5 rfl ?_
        refine zr_bipush (v := 64) X dX10_fraction_28 (by decide) ?_
        refine zr_icmp_ge (tgt := 57) X dX10_fraction_30 (by decide) (fun q => ?_) (fun q => ?_)
        · rw [if_neg q] at h
          have h := hr1 _ h
          exact zr_sub [0, 1, 2, 3] rfl (hR1 a2 h)
        · rw [if_pos q] at h
          refine zr_iload X dX10_fraction_33 4 rfl ?_
          refine zr_if_eq (tgt := 57) X dX10_fraction_35 (by decide) (fun q => ?_) (fun q => ?_)
          · rw [if_pos q] at h
            have h := hr1 _ h
            exact zr_sub [0, 1, 2, 3] rfl (hR1 a2 h)
          · rw [if_neg q] at h
            refine zr_iload_n X dX10_fraction_38 3 rfl ?_
            refine zr_iload X dX10_fraction_39 4 rfl ?_
            obtain ⟨g0, h⟩ := zg_e h
            refine zr_irem X dX10_fraction_41 (zN_ne g0) ?_
            refine zr_istore (lo' := [(6, .int (a2 - a2 / a3 * a3)), (0, .int p1), (1, .int p2), (2, .int p3), (3, .int a2), (4, .int a3), (5, .int a4)]) X dX10_fraction_42 (by decide) rfl ?_
            refine zr_iload X dX10_fraction_44 5 rfl ?_
            refine zr_istore_n (lo' := [(3, .int a3), (6, .int (a2 - a2 / a3 * a3)), (0, .int p1), (1, .int p2), (2, .int p3), (4, .int a3), (5, .int a4)]) X dX10_fraction_46 (by decide) rfl ?_
            refine zr_iload X dX10_fraction_47 1 rfl ?_
            refine zr_istore (lo' := [(4, .int (a2 - a2 / a3 * a3)), (3, .int a3), (6, .int (a2 - a2 / a3 * a3)), (0, .int p1), (1, .int p2), (2, .int p3), (5, .int a4)]) X dX10_fraction_49 (by decide) rfl ?_
            refine zr_iinc (v := a4 + 1) (lo' := [(5, .int (a4 + 1)), (4, .int (a2 - a2 / a3 * a3)), (3, .int a3), (6, .int (a2 - a2 / a3 * a3)), (0, .int p1), (1, .int p2), (2, .int p3)]) X dX10_fraction_51 6 rfl rfl (by decide) rfl ?_
            refine zr_goto (tgt := 26) X dX10_fraction_54 (by decide) ?_
            have h := hl1 _ h
            exact zr_sub [4, 5, 6, 2, 1, 0] rfl h
      · rw [if_pos q] at h
        refine zr_ldc2 X dX10_fraction_14 wc_X10_304 ?_
        exact zr_lret X dX10_fraction_17 ⟨Nat.le_refl _, Nat.le_refl _⟩ ⟨rfl, _, rfl, rfl, h⟩

set_option maxRecDepth 100000 in
set_option maxHeartbeats 4000000 in
theorem x_fN_odds {l : Launch} {S : State} {D : va_G} {cA : Nat → ClassId} {tb sx : Nat → Nat} (hG : zv_G S D cA tb sx) (d : Nat) (hd : 8 ≤ d) (p1 : Int32) (p2 : Int32) (m : zv_M) (P : Int64 → zv_M → Prop) (h : zw2 (fN_odds p1 p2 m) P) : zv_Met l S D cA d 0 0 yX10_odds cX10_odds 3 (some .long) [.ref (S.heap.size + 0), .int p1, .int p2] SH0 m (zq_l SH0 P) := by
  refine zv_met false hG pf_X10_odds (fun z => by cases z) (Nat.le_of_ble_eq_true rfl) [(0, .ref (S.heap.size + 0)), (1, .int p1), (2, .int p2)] rfl (fun p e s mi args below meth c X => ?_)
  rw [fN_odds] at h
  refine zr_aload_n X dX10_odds_0 0 rfl ?_
  refine zr_iload_n X dX10_odds_1 1 rfl ?_
  refine zr_callV_i (As := [.int p1]) (st := []) (d := d - 1) X dX10_odds_2 wm_X10_119 my_X10_isPlan mv_X10_isPlan zo_0 rfl (Nat.le_of_ble_eq_true rfl) (zRm (by omega)) ⟨Nat.le_refl _, Nat.le_refl _⟩ (x_fN_isPlan hG (d - 1) (by omega) p1 m _ (zw_b12 h)) (fun r1 m2 q => ?_)
  obtain ⟨rfl, h⟩ := q
  refine zr_if_ne (tgt := 12) X dX10_odds_5 (by decide) (fun q => ?_) (fun q => ?_)
  · rw [if_neg q] at h
    refine zr_aload_n X dX10_odds_12 0 rfl ?_
    refine zr_iload_n X dX10_odds_13 1 rfl ?_
    refine zr_callV_i (As := [.int p1]) (st := []) (d := d - 1) X dX10_odds_14 wm_X10_193 my_X10_fitting mv_X10_fitting zo_0 rfl (Nat.le_of_ble_eq_true rfl) (zRm (by omega)) ⟨Nat.le_refl _, Nat.le_refl _⟩ (x_fN_fitting hG (d - 1) (by omega) p1 m _ (zw_b22 h)) (fun r3 m4 q => ?_)
    replace h := q
    refine zr_callS_i (As := [.int r3]) (st := []) (d := d - 1) X dX10_odds_17 wm_X10_166 ws_J6_bitCount_0f7a4 my_J6_bitCount_0f7a4 rfl (Nat.le_of_ble_eq_true rfl) (zRm (by omega)) ⟨Nat.le_refl _, Nat.le_refl _⟩ (x_fJ_bitCount hG (d - 1) (by omega) r3 m4 _ (zw_b12 h)) (fun r5 m6 q => ?_)
    obtain ⟨rfl, h⟩ := q
    refine zr_aload_n X dX10_odds_20 0 rfl ?_
    refine zr_callV_i (As := []) (st := [.int r5]) (d := d - 1) X dX10_odds_21 wm_X10_186 my_X10_openSquares mv_X10_openSquares zo_0 rfl (Nat.le_of_ble_eq_true rfl) (zRm (by omega)) ⟨Nat.le_refl _, Nat.le_refl _⟩ (x_fN_openSquares hG (d - 1) (by omega) m4 _ (zw_b12 h)) (fun r7 m8 q => ?_)
    obtain ⟨rfl, h⟩ := q
    refine zr_callS_i (As := [.int r7]) (st := [.int r5]) (d := d - 1) X dX10_odds_24 wm_X10_166 ws_J6_bitCount_0f7a4 my_J6_bitCount_0f7a4 rfl (Nat.le_of_ble_eq_true rfl) (zRm (by omega)) ⟨Nat.le_refl _, Nat.le_refl _⟩ (x_fJ_bitCount hG (d - 1) (by omega) r7 m4 _ (zw_b12 h)) (fun r9 m10 q => ?_)
    obtain ⟨rfl, h⟩ := q
    refine zr_iload_n X dX10_odds_27 2 rfl ?_
    refine zr_callS_l (As := [.int r5, .int r9, .int p2]) (st := []) (d := d - 1) X dX10_odds_28 wm_X10_306 ws_X10_fraction my_X10_fraction rfl (Nat.le_of_ble_eq_true rfl) (zRm (by omega)) ⟨Nat.le_refl _, Nat.le_refl _⟩ (x_fN_fraction hG (d - 1) (by omega) r5 r9 p2 m4 _ (zw_b12 h)) (fun r11 m12 q => ?_)
    obtain ⟨rfl, h⟩ := q
    exact zr_lret X dX10_odds_31 ⟨Nat.le_refl _, Nat.le_refl _⟩ ⟨rfl, _, rfl, h⟩
  · rw [if_pos q] at h
    refine zr_ldc2 X dX10_odds_8 wc_X10_304 ?_
    exact zr_lret X dX10_odds_11 ⟨Nat.le_refl _, Nat.le_refl _⟩ ⟨rfl, _, rfl, h⟩

set_option maxRecDepth 100000 in
set_option maxHeartbeats 4000000 in
theorem x_fN_mean {l : Launch} {S : State} {D : va_G} {cA : Nat → ClassId} {tb sx : Nat → Nat} (hG : zv_G S D cA tb sx) (d : Nat) (hd : 7 ≤ d) (p1 : Int32) (m : zv_M) (P : Int64 → zv_M → Prop) (h : zw2 (fN_mean p1 m) P) : zv_Met l S D cA d 0 0 yX10_mean cX10_mean 2 (some .long) [.ref (S.heap.size + 0), .int p1] SH0 m (zq_l SH0 P) := by
  refine zv_met false hG pf_X10_mean (fun z => by cases z) (Nat.le_of_ble_eq_true rfl) [(0, .ref (S.heap.size + 0)), (1, .int p1)] rfl (fun p e s mi args below meth c X => ?_)
  rw [fN_mean] at h
  refine zr_aload_n X dX10_mean_0 0 rfl ?_
  refine zr_callV_v (As := []) (st := []) (d := d - 1) X dX10_mean_1 wm_X10_202 my_X10_lookByMen mv_X10_lookByMen zo_0 rfl (Nat.le_of_ble_eq_true rfl) (zRm (by omega)) ⟨Nat.le_refl _, Nat.le_refl _⟩ (x_fN_lookByMen hG (d - 1) (by omega) m _ (zw_b12 h)) (fun m1 q => ?_)
  replace h := q
  refine zr_aload_n X dX10_mean_4 0 rfl ?_
  refine zr_getR X dX10_mean_5 zd_X10_50 rfl zo_0 zl_0_7 ?_
  refine zr_callV_i (As := []) (st := []) (d := d - 1) X dX10_mean_8 wm_X10_310 my_X4_allSeen mv_X4_allSeen zo_43 rfl (Nat.le_of_ble_eq_true rfl) (zRm (by omega)) ⟨Nat.le_refl _, Nat.le_refl _⟩ (x_fSi_allSeen hG (d - 1) (by omega) 43 zo_43 m1 _ (zw_b12 h)) (fun r2 m3 q => ?_)
  obtain ⟨rfl, h⟩ := q
  refine zr_aload_n X dX10_mean_11 0 rfl ?_
  refine zr_getR X dX10_mean_12 zd_X10_12 rfl zo_0 zl_0_0 ?_
  refine zr_callV_i (As := []) (st := [.int r2]) (d := d - 1) X dX10_mean_15 wm_X10_162 my_X5_menBits mv_X5_menBits zo_1 rfl (Nat.le_of_ble_eq_true rfl) (zRm (by omega)) ⟨Nat.le_refl _, Nat.le_refl _⟩ (x_fSt_menBits hG (d - 1) (by omega) 1 zo_1 m1 _ (zw_b12 h)) (fun r4 m5 q => ?_)
  obtain ⟨rfl, h⟩ := q
  refine zr_callS_i (As := [.int r4]) (st := [.int r2]) (d := d - 1) X dX10_mean_18 wm_X10_166 ws_J6_bitCount_0f7a4 my_J6_bitCount_0f7a4 rfl (Nat.le_of_ble_eq_true rfl) (zRm (by omega)) ⟨Nat.le_refl _, Nat.le_refl _⟩ (x_fJ_bitCount hG (d - 1) (by omega) r4 m1 _ (zw_b12 h)) (fun r6 m7 q => ?_)
  obtain ⟨rfl, h⟩ := q
  refine zr_iload_n X dX10_mean_21 1 rfl ?_
  refine zr_callS_l (As := [.int r2, .int r6, .int p1]) (st := []) (d := d - 1) X dX10_mean_22 wm_X10_306 ws_X10_fraction my_X10_fraction rfl (Nat.le_of_ble_eq_true rfl) (zRm (by omega)) ⟨Nat.le_refl _, Nat.le_refl _⟩ (x_fN_fraction hG (d - 1) (by omega) r2 r6 p1 m1 _ (zw_b12 h)) (fun r8 m9 q => ?_)
  obtain ⟨rfl, h⟩ := q
  exact zr_lret X dX10_mean_25 ⟨Nat.le_refl _, Nat.le_refl _⟩ ⟨rfl, _, rfl, h⟩

set_option maxRecDepth 100000 in
set_option maxHeartbeats 4000000 in
theorem x_fN_book {l : Launch} {S : State} {D : va_G} {cA : Nat → ClassId} {tb sx : Nat → Nat} (hG : zv_G S D cA tb sx) (d : Nat) (hd : 3 ≤ d) (p1 : Int32) (m : zv_M) (P : Int32 → zv_M → Prop) (h : zw2 (fN_book p1 m) P) : zv_Met l S D cA d 0 0 yX10_book cX10_book 2 (some .int) [.ref (S.heap.size + 0), .int p1] SH0 m (zq_i SH0 P) := by
  refine zv_met false hG pf_X10_book (fun z => by cases z) (Nat.le_of_ble_eq_true rfl) [(0, .ref (S.heap.size + 0)), (1, .int p1)] rfl (fun p e s mi args below meth c X => ?_)
  rw [fN_book] at h
  refine zr_iload_n X dX10_book_0 1 rfl ?_
  refine zr_iconst (v := (-1)) X dX10_book_1 (by decide) ?_
  refine zr_icmp_ne (tgt := 17) X dX10_book_2 (by decide) (fun q => ?_) (fun q => ?_)
  · rw [if_neg q] at h
    refine zr_aload_n X dX10_book_17 0 rfl ?_
    refine zr_iload_n X dX10_book_18 1 rfl ?_
    refine zr_callV_i (As := [.int p1]) (st := []) (d := d - 1) X dX10_book_19 wm_X10_183 my_X10_isSquare mv_X10_isSquare zo_0 rfl (Nat.le_of_ble_eq_true rfl) (zRm (by omega)) ⟨Nat.le_refl _, Nat.le_refl _⟩ (x_fN_isSquare hG (d - 1) (by omega) p1 m _ (zw_b12 h)) (fun r1 m2 q => ?_)
    obtain ⟨rfl, h⟩ := q
    refine zr_if_ne (tgt := 27) X dX10_book_22 (by decide) (fun q => ?_) (fun q => ?_)
    · rw [if_neg q] at h
      refine zr_aload_n X dX10_book_27 0 rfl ?_
      refine zr_getR X dX10_book_28 zd_X10_12 rfl zo_0 zl_0_0 ?_
      refine zr_getR X dX10_book_31 zd_X10_313 rfl zo_1 zl_1_7 ?_
      refine zr_callV_i (As := []) (st := []) (d := d - 1) X dX10_book_34 wm_X10_100 my_X2_isFull mv_X2_isFull zo_15 rfl (Nat.le_of_ble_eq_true rfl) (zRm (by omega)) ⟨Nat.le_refl _, Nat.le_refl _⟩ (x_fPi_isFull hG (d - 1) (by omega) 15 zo_15 m _ (zw_b12 h)) (fun r3 m4 q => ?_)
      obtain ⟨rfl, h⟩ := q
      refine zr_if_eq (tgt := 43) X dX10_book_37 (by decide) (fun q => ?_) (fun q => ?_)
      · rw [if_pos q] at h
        refine zr_aload_n X dX10_book_43 0 rfl ?_
        refine zr_getR X dX10_book_44 zd_X10_12 rfl zo_0 zl_0_0 ?_
        refine zr_getR X dX10_book_47 zd_X10_313 rfl zo_1 zl_1_7 ?_
        refine zr_iload_n X dX10_book_50 1 rfl ?_
        refine zr_callV_v (As := [.int p1]) (st := []) (d := d - 1) X dX10_book_51 wm_X10_106 my_X2_add mv_X2_add zo_15 rfl (Nat.le_of_ble_eq_true rfl) (zRm (by omega)) ⟨Nat.le_refl _, Nat.le_refl _⟩ (x_fPi_add hG (d - 1) (by omega) 15 zo_15 p1 m _ (zw_b12 h)) (fun m5 q => ?_)
        replace h := q
        refine zr_aload_n X dX10_book_54 0 rfl ?_
        refine zr_getR X dX10_book_55 zd_X10_12 rfl zo_0 zl_0_0 ?_
        refine zr_getR X dX10_book_58 zd_X10_313 rfl zo_1 zl_1_7 ?_
        refine zr_getI X dX10_book_61 zd_X10_116 rfl zo_15 (by rw [zk_2 zo_15]; decide) ?_
        exact zr_iret X dX10_book_64 rfl ⟨Nat.le_refl _, Nat.le_refl _⟩ ⟨rfl, _, rfl, h⟩
      · rw [if_neg q] at h
        refine zr_bipush (v := (-4)) X dX10_book_40 (by decide) ?_
        exact zr_iret X dX10_book_42 rfl ⟨Nat.le_refl _, Nat.le_refl _⟩ ⟨rfl, _, rfl, h⟩
    · rw [if_pos q] at h
      refine zr_iconst (v := (-1)) X dX10_book_25 (by decide) ?_
      exact zr_iret X dX10_book_26 rfl ⟨Nat.le_refl _, Nat.le_refl _⟩ ⟨rfl, _, rfl, h⟩
  · rw [if_pos q] at h
    refine zr_aload_n X dX10_book_5 0 rfl ?_
    refine zr_getR X dX10_book_6 zd_X10_12 rfl zo_0 zl_0_0 ?_
    refine zr_getR X dX10_book_9 zd_X10_313 rfl zo_1 zl_1_7 ?_
    refine zr_callV_v (As := []) (st := []) (d := d - 1) X dX10_book_12 wm_X10_279 my_X2_drop mv_X2_drop zo_15 rfl (Nat.le_of_ble_eq_true rfl) (zRm (by omega)) ⟨Nat.le_refl _, Nat.le_refl _⟩ (x_fPi_drop hG (d - 1) (by omega) 15 zo_15 m _ (zw_b12 h)) (fun m6 q => ?_)
    replace h := q
    refine zr_iconst (v := 0) X dX10_book_15 (by decide) ?_
    exact zr_iret X dX10_book_16 rfl ⟨Nat.le_refl _, Nat.le_refl _⟩ ⟨rfl, _, rfl, h⟩

set_option maxRecDepth 100000 in
set_option maxHeartbeats 4000000 in
theorem x_fN_looked {l : Launch} {S : State} {D : va_G} {cA : Nat → ClassId} {tb sx : Nat → Nat} (hG : zv_G S D cA tb sx) (d : Nat) (hd : 2 ≤ d) (m : zv_M) (P : Int32 → Prop) (h : zw (fN_looked m) P) : zv_Met l S D cA d 0 0 yX10_looked cX10_looked 2 (some .int) [.ref (S.heap.size + 0)] SH0 m (zq_i SH0 (fun v m' => m = m' ∧ P v)) := by
  refine zv_met false hG pf_X10_looked (fun z => by cases z) (Nat.le_of_ble_eq_true rfl) [(0, .ref (S.heap.size + 0))] rfl (fun p e s mi args below meth c X => ?_)
  rw [fN_looked] at h
  refine zr_iconst (v := 0) X dX10_looked_0 (by decide) ?_
  refine zr_istore_n (lo' := [(1, .int 0), (0, .ref (S.heap.size + 0))]) X dX10_looked_1 (by decide) rfl ?_
  refine zr_sub [1, 0] rfl ?_
  refine zl_w1 (fun a2 => zv_V S D cA p l e (zv_rm d 0 0) s mi args below meth c 2 (MQ below (zv_Q S D cA (zq_i SH0 (fun v m' => m = m' ∧ P v))) args s 0 0 (zv_fr S)) 0 0 2 [(0, .ref (S.heap.size + 0)), (1, .int a2)] [] SH0 m) (fN_looked_l2 m) _ (fun P1 hl1 hr1 a2 h => ?_) zFU 0 (zw_b1 h)
  rw [fN_looked_l2] at h
  refine zr_iload_n X dX10_looked_2 1 rfl ?_
  refine zr_aload_n X dX10_looked_3 0 rfl ?_
  refine zr_getR X dX10_looked_4 zd_X10_12 rfl zo_0 zl_0_0 ?_
  refine zr_getR X dX10_looked_7 zd_X10_313 rfl zo_1 zl_1_7 ?_
  refine zr_getI X dX10_looked_10 zd_X10_116 rfl zo_15 (by rw [zk_2 zo_15]; decide) ?_
  refine zr_icmp_ge (tgt := 45) X dX10_looked_13 (by decide) (fun q => ?_) (fun q => ?_)
  · rw [if_neg q] at h
    refine zr_bipush (v := (-5)) X dX10_looked_45 (by decide) ?_
    have h := hr1 _ h
    exact zr_iret X dX10_looked_47 rfl ⟨Nat.le_refl _, Nat.le_refl _⟩ ⟨rfl, _, rfl, rfl, h⟩
  · rw [if_pos q] at h
    refine zr_aload_n X dX10_looked_16 0 rfl ?_
    refine zr_getR X dX10_looked_17 zd_X10_12 rfl zo_0 zl_0_0 ?_
    refine zr_aload_n X dX10_looked_20 0 rfl ?_
    refine zr_getR X dX10_looked_21 zd_X10_12 rfl zo_0 zl_0_0 ?_
    refine zr_getR X dX10_looked_24 zd_X10_313 rfl zo_1 zl_1_7 ?_
    refine zr_iload_n X dX10_looked_27 1 rfl ?_
    refine zr_callV_i (As := [.int a2]) (st := [.ref (S.heap.size + 1)]) (d := d - 1) X dX10_looked_28 wm_X10_122 my_X2_get mv_X2_get zo_15 rfl (Nat.le_of_ble_eq_true rfl) (zRm (by omega)) ⟨Nat.le_refl _, Nat.le_refl _⟩ (x_fPi_get hG (d - 1) (by omega) 15 zo_15 a2 m _ (zw_b1 h)) (fun r3 m4 q => ?_)
    obtain ⟨rfl, h⟩ := q
    refine zr_callV_i (As := [.int r3]) (st := []) (d := d - 1) X dX10_looked_31 wm_X10_199 my_X5_manOn mv_X5_manOn zo_1 rfl (Nat.le_of_ble_eq_true rfl) (zRm (by omega)) ⟨Nat.le_refl _, Nat.le_refl _⟩ (x_fSt_manOn hG (d - 1) (by omega) 1 zo_1 r3 m _ (zw_b1 h)) (fun r5 m6 q => ?_)
    obtain ⟨rfl, h⟩ := q
    refine zr_if_ge (tgt := 39) X dX10_looked_34 (by decide) (fun q => ?_) (fun q => ?_)
    · rw [if_neg q] at h
      refine zr_iinc (v := a2 + 1) (lo' := [(1, .int (a2 + 1)), (0, .ref (S.heap.size + 0))]) X dX10_looked_39 1 rfl rfl (by decide) rfl ?_
      refine zr_goto (tgt := 2) X dX10_looked_42 (by decide) ?_
      have h := hl1 _ h
      exact zr_sub [1, 0] rfl h
    · rw [if_pos q] at h
      refine zr_iload_n X dX10_looked_37 1 rfl ?_
      have h := hr1 _ h
      exact zr_iret X dX10_looked_38 rfl ⟨Nat.le_refl _, Nat.le_refl _⟩ ⟨rfl, _, rfl, rfl, h⟩

set_option maxRecDepth 100000 in
set_option maxHeartbeats 4000000 in
theorem x_fN_judged {l : Launch} {S : State} {D : va_G} {cA : Nat → ClassId} {tb sx : Nat → Nat} (hG : zv_G S D cA tb sx) (d : Nat) (hd : 4 ≤ d) (p1 : Int32) (p2 : Int32) (m : zv_M) (P : Int32 → Prop) (h : zw (fN_judged p1 p2 m) P) : zv_Met l S D cA d 0 0 yX10_judged cX10_judged 6 (some .int) [.ref (S.heap.size + 0), .int p1, .int p2] SH0 m (zq_i SH0 (fun v m' => m = m' ∧ P v)) := by
  refine zv_met false hG pf_X10_judged (fun z => by cases z) (Nat.le_of_ble_eq_true rfl) [(0, .ref (S.heap.size + 0)), (1, .int p1), (2, .int p2)] rfl (fun p e s mi args below meth c X => ?_)
  rw [fN_judged] at h
  refine zr_aload_n X dX10_judged_0 0 rfl ?_
  refine zr_callV_a (As := []) (st := []) (d := d - 1) X dX10_judged_1 wm_X10_154 my_X10_ground mv_X10_ground zo_0 rfl (Nat.le_of_ble_eq_true rfl) (zRm (by omega)) ⟨Nat.le_refl _, Nat.le_refl _⟩ (x_fN_ground hG (d - 1) (by omega) m _ (zw_b1 h)) (fun r1 m2 q => ?_)
  obtain ⟨rfl, hc3, h⟩ := q
  refine zr_getI X dX10_judged_4 zd_X10_158 rfl hc3 (by rw [zk_8 hc3]; decide) ?_
  refine zr_aload_n X dX10_judged_7 0 rfl ?_
  refine zr_callV_a (As := []) (st := [.int (m.1 r1 0)]) (d := d - 1) X dX10_judged_8 wm_X10_154 my_X10_ground mv_X10_ground zo_0 rfl (Nat.le_of_ble_eq_true rfl) (zRm (by omega)) ⟨Nat.le_refl _, Nat.le_refl _⟩ (x_fN_ground hG (d - 1) (by omega) m _ (zw_b1 h)) (fun r4 m5 q => ?_)
  obtain ⟨rfl, hc6, h⟩ := q
  refine zr_getI X dX10_judged_11 zd_X10_158 rfl hc6 (by rw [zk_8 hc6]; decide) ?_
  refine zr_imul X dX10_judged_14 ?_
  refine zr_istore_n (lo' := [(3, .int ((m.1 r1 0) * (m.1 r4 0))), (0, .ref (S.heap.size + 0)), (1, .int p1), (2, .int p2)]) X dX10_judged_15 (by decide) rfl ?_
  refine zr_iconst (v := 0) X dX10_judged_16 (by decide) ?_
  refine zr_istore (lo' := [(4, .int 0), (3, .int ((m.1 r1 0) * (m.1 r4 0))), (0, .ref (S.heap.size + 0)), (1, .int p1), (2, .int p2)]) X dX10_judged_17 (by decide) rfl ?_
  refine zr_sub [2, 3, 4, 1, 0] rfl ?_
  refine zl_w1 (fun a8 => zv_V S D cA p l e (zv_rm d 0 0) s mi args below meth c 6 (MQ below (zv_Q S D cA (zq_i SH0 (fun v m' => m = m' ∧ P v))) args s 0 0 (zv_fr S)) 0 0 19 [(0, .ref (S.heap.size + 0)), (1, .int p1), (2, .int p2), (3, .int ((m.1 r1 0) * (m.1 r4 0))), (4, .int a8)] [] SH0 m) (fN_judged_l19 p1 p2 m r1 r4) _ (fun P7 hl7 hr7 a8 h => ?_) zFU 0 (zw_b1 h)
  rw [fN_judged_l19] at h
  refine zr_iload X dX10_judged_19 4 rfl ?_
  refine zr_iload_n X dX10_judged_21 3 rfl ?_
  refine zr_icmp_ge (tgt := 111) X dX10_judged_22 (by decide) (fun q => ?_) (fun q => ?_)
  · rw [if_neg q] at h
    refine zr_bipush (v := (-5)) X dX10_judged_111 (by decide) ?_
    have h := hr7 _ h
    exact zr_iret X dX10_judged_113 rfl ⟨Nat.le_refl _, Nat.le_refl _⟩ ⟨rfl, _, rfl, rfl, h⟩
  · rw [if_pos q] at h
    refine zr_iload_n X dX10_judged_25 2 rfl ?_
    refine zr_if_lt (tgt := 50) X dX10_judged_26 (by decide) (fun q => ?_) (fun q => ?_)
    · rw [if_pos q] at h
      refine zr_bipush (v := 100) X dX10_judged_50 (by decide) ?_
      refine zr_iload X dX10_judged_52 4 rfl ?_
      refine zr_iadd X dX10_judged_54 ?_
      have h := hr7 _ h
      exact zr_iret X dX10_judged_55 rfl ⟨Nat.le_refl _, Nat.le_refl _⟩ ⟨rfl, _, rfl, rfl, h⟩
    · rw [if_neg q] at h
      refine zr_iload_n X dX10_judged_29 2 rfl ?_
      refine zr_bipush (v := 60) X dX10_judged_30 (by decide) ?_
      refine zr_icmp_ge (tgt := 50) X dX10_judged_32 (by decide) (fun q => ?_) (fun q => ?_)
      · rw [if_neg q] at h
        refine zr_bipush (v := 100) X dX10_judged_50 (by decide) ?_
        refine zr_iload X dX10_judged_52 4 rfl ?_
        refine zr_iadd X dX10_judged_54 ?_
        have h := hr7 _ h
        exact zr_iret X dX10_judged_55 rfl ⟨Nat.le_refl _, Nat.le_refl _⟩ ⟨rfl, _, rfl, rfl, h⟩
      · rw [if_pos q] at h
        refine zr_aload_n X dX10_judged_35 0 rfl ?_
        refine zr_getR X dX10_judged_36 zd_X10_88 rfl zo_0 zl_0_13 ?_
        refine zr_iload_n X dX10_judged_39 1 rfl ?_
        refine zr_iload_n X dX10_judged_40 2 rfl ?_
        refine zr_iload X dX10_judged_41 4 rfl ?_
        refine zr_iadd X dX10_judged_43 ?_
        refine zr_callV_i (As := [.int p1, .int (p2 + a8)]) (st := []) (d := d - 1) X dX10_judged_44 wm_X10_352 my_X6_isPlace mv_X6_isPlace zo_64 rfl (Nat.le_of_ble_eq_true rfl) (zRm (by omega)) ⟨Nat.le_refl _, Nat.le_refl _⟩ (x_fTa_isPlace hG (d - 1) (by omega) p1 (p2 + a8) m _ (zw_b1 h)) (fun r9 m10 q => ?_)
        obtain ⟨rfl, h⟩ := q
        refine zr_if_ne (tgt := 56) X dX10_judged_47 (by decide) (fun q => ?_) (fun q => ?_)
        · rw [if_neg q] at h
          refine zr_aload_n X dX10_judged_56 0 rfl ?_
          refine zr_getR X dX10_judged_57 zd_X10_12 rfl zo_0 zl_0_0 ?_
          refine zr_iload X dX10_judged_60 4 rfl ?_
          refine zr_callV_i (As := [.int a8]) (st := []) (d := d - 1) X dX10_judged_62 wm_X10_199 my_X5_manOn mv_X5_manOn zo_1 rfl (Nat.le_of_ble_eq_true rfl) (zRm (by omega)) ⟨Nat.le_refl _, Nat.le_refl _⟩ (x_fSt_manOn hG (d - 1) (by omega) 1 zo_1 a8 m _ (zw_b1 h)) (fun r11 m12 q => ?_)
          obtain ⟨rfl, h⟩ := q
          have hJ73 : ∀ (v13 : Int32), zw (fN_judged_j73 p1 p2 m a8 v13) P7 → zv_V S D cA p l e (zv_rm d 0 0) s mi args below meth c 6 (MQ below (zv_Q S D cA (zq_i SH0 (fun v m' => m = m' ∧ P v))) args s 0 0 (zv_fr S)) 0 0 73 [(0, .ref (S.heap.size + 0)), (1, .int p1), (2, .int p2), (3, .int ((m.1 r1 0) * (m.1 r4 0))), (4, .int a8)] [.int v13] SH0 m := by
            intro v13 h
            rw [fN_judged_j73] at h
            refine zr_istore (lo' := [(5, .int v13), (0, .ref (S.heap.size + 0)), (1, .int p1), (2, .int p2), (3, .int ((m.1 r1 0) * (m.1 r4 0))), (4, .int a8)]) X dX10_judged_73 (by decide) rfl ?_
            refine zr_iload X dX10_judged_75 0 rfl ?_
            refine zr_aload_n X dX10_judged_77 1 rfl ?_
            refine zr_getR X dX10_judged_78 zd_X10_88 rfl zo_0 zl_0_13 ?_
            refine zr_iload_n X dX10_judged_81 2 rfl ?_
            refine zr_iload_n X dX10_judged_82 3 rfl ?_
            refine zr_iload X dX10_judged_83 5 rfl ?_
            refine zr_iadd X dX10_judged_85 ?_
            refine zr_callV_l (As := [.int p1, .int (p2 + a8)]) (st := [.int v13]) (d := d - 1) X dX10_judged_86 wm_X10_358 my_X6_get mv_X6_get zo_64 rfl (Nat.le_of_ble_eq_true rfl) (zRm (by omega)) ⟨Nat.le_refl _, Nat.le_refl _⟩ (x_fTa_get hG (d - 1) (by omega) p1 (p2 + a8) m _ (zw_b1 h)) (fun r14 m15 q => ?_)
            obtain ⟨rfl, h⟩ := q
            refine zr_lconst (v := 0) X dX10_judged_89 (by decide) ?_
            refine zr_lcmp X dX10_judged_90 ?_
            have hJ99 : ∀ (v16 : Int32), zw (fN_judged_j99 a8 v13 v16) P7 → zv_V S D cA p l e (zv_rm d 0 0) s mi args below meth c 6 (MQ below (zv_Q S D cA (zq_i SH0 (fun v m' => m = m' ∧ P v))) args s 0 0 (zv_fr S)) 0 0 99 [(0, .ref (S.heap.size + 0)), (1, .int p1), (2, .int p2), (3, .int ((m.1 r1 0) * (m.1 r4 0))), (4, .int a8)] [.int v16, .int v13] SH0 m := by
              intro v16 h
              rw [fN_judged_j99] at h
              refine zr_icmp_eq (tgt := 105) X dX10_judged_99 (by decide) (fun q => ?_) (fun q => ?_)
              · rw [if_pos q] at h
                refine zr_iinc (v := a8 + 1) (lo' := [(4, .int (a8 + 1)), (0, .ref (S.heap.size + 0)), (1, .int p1), (2, .int p2), (3, .int ((m.1 r1 0) * (m.1 r4 0)))]) X dX10_judged_105 4 rfl rfl (by decide) rfl ?_
                refine zr_goto (tgt := 19) X dX10_judged_108 (by decide) ?_
                have h := hl7 _ h
                exact zr_sub [1, 2, 3, 4, 0] rfl h
              · rw [if_neg q] at h
                refine zr_iload X dX10_judged_102 4 rfl ?_
                have h := hr7 _ h
                exact zr_iret X dX10_judged_104 rfl ⟨Nat.le_refl _, Nat.le_refl _⟩ ⟨rfl, _, rfl, rfl, h⟩
            refine zr_if_eq (tgt := 98) X dX10_judged_91 (by decide) (fun q => ?_) (fun q => ?_)
            · rw [if_pos q] at h
              refine zr_iconst (v := 0) X dX10_judged_98 (by decide) ?_
              exact zr_sub [1, 2, 3, 4, 5] rfl (hJ99 0 h)
            · rw [if_neg q] at h
              refine zr_iconst (v := 1) X dX10_judged_94 (by decide) ?_
              refine zr_goto (tgt := 99) X dX10_judged_95 (by decide) ?_
              exact zr_sub [1, 2, 3, 4, 5] rfl (hJ99 1 h)
          refine zr_if_lt (tgt := 72) X dX10_judged_65 (by decide) (fun q => ?_) (fun q => ?_)
          · rw [if_pos q] at h
            refine zr_iconst (v := 0) X dX10_judged_72 (by decide) ?_
            exact zr_sub [0, 1, 2, 3, 4] rfl (hJ73 0 h)
          · rw [if_neg q] at h
            refine zr_iconst (v := 1) X dX10_judged_68 (by decide) ?_
            refine zr_goto (tgt := 73) X dX10_judged_69 (by decide) ?_
            exact zr_sub [0, 1, 2, 3, 4] rfl (hJ73 1 h)
        · rw [if_pos q] at h
          refine zr_bipush (v := 100) X dX10_judged_50 (by decide) ?_
          refine zr_iload X dX10_judged_52 4 rfl ?_
          refine zr_iadd X dX10_judged_54 ?_
          have h := hr7 _ h
          exact zr_iret X dX10_judged_55 rfl ⟨Nat.le_refl _, Nat.le_refl _⟩ ⟨rfl, _, rfl, rfl, h⟩

set_option maxRecDepth 100000 in
set_option maxHeartbeats 4000000 in
theorem x_fN_judge {l : Launch} {S : State} {D : va_G} {cA : Nat → ClassId} {tb sx : Nat → Nat} (hG : zv_G S D cA tb sx) (d : Nat) (hd : 5 ≤ d) (p1 : Int32) (p2 : Int32) (m : zv_M) (P : Int32 → Prop) (h : zw (fN_judge p1 p2 m) P) : zv_Met l S D cA d 0 0 yX10_judge cX10_judge 3 (some .int) [.ref (S.heap.size + 0), .int p1, .int p2] SH0 m (zq_i SH0 (fun v m' => m = m' ∧ P v)) := by
  refine zv_met false hG pf_X10_judge (fun z => by cases z) (Nat.le_of_ble_eq_true rfl) [(0, .ref (S.heap.size + 0)), (1, .int p1), (2, .int p2)] rfl (fun p e s mi args below meth c X => ?_)
  rw [fN_judge] at h
  refine zr_aload_n X dX10_judge_0 0 rfl ?_
  refine zr_getR X dX10_judge_1 zd_X10_88 rfl zo_0 zl_0_13 ?_
  refine zr_iload_n X dX10_judge_4 1 rfl ?_
  refine zr_callV_i (As := [.int p1]) (st := []) (d := d - 1) X dX10_judge_5 wm_X10_316 my_X6_isTape mv_X6_isTape zo_64 rfl (Nat.le_of_ble_eq_true rfl) (zRm (by omega)) ⟨Nat.le_refl _, Nat.le_refl _⟩ (x_fTa_isTape hG (d - 1) (by omega) p1 m _ (zw_b1 h)) (fun r1 m2 q => ?_)
  obtain ⟨rfl, h⟩ := q
  refine zr_if_ne (tgt := 13) X dX10_judge_8 (by decide) (fun q => ?_) (fun q => ?_)
  · rw [if_neg q] at h
    refine zr_aload_n X dX10_judge_13 0 rfl ?_
    refine zr_getR X dX10_judge_14 zd_X10_88 rfl zo_0 zl_0_13 ?_
    refine zr_iload_n X dX10_judge_17 1 rfl ?_
    refine zr_callV_i (As := [.int p1]) (st := []) (d := d - 1) X dX10_judge_18 wm_X10_319 my_X6_holdsNothing mv_X6_holdsNothing zo_64 rfl (Nat.le_of_ble_eq_true rfl) (zRm (by omega)) ⟨Nat.le_refl _, Nat.le_refl _⟩ (x_fTa_holdsNothing hG (d - 1) (by omega) p1 m _ (zw_b1 h)) (fun r3 m4 q => ?_)
    obtain ⟨rfl, h⟩ := q
    refine zr_if_eq (tgt := 27) X dX10_judge_21 (by decide) (fun q => ?_) (fun q => ?_)
    · rw [if_pos q] at h
      refine zr_aload_n X dX10_judge_27 0 rfl ?_
      refine zr_getR X dX10_judge_28 zd_X10_88 rfl zo_0 zl_0_13 ?_
      refine zr_iload_n X dX10_judge_31 1 rfl ?_
      refine zr_callV_i (As := [.int p1]) (st := []) (d := d - 1) X dX10_judge_32 wm_X10_322 my_X6_sortOf mv_X6_sortOf zo_64 rfl (Nat.le_of_ble_eq_true rfl) (zRm (by omega)) ⟨Nat.le_refl _, Nat.le_refl _⟩ (x_fTa_sortOf hG (d - 1) (by omega) p1 m _ (zw_b1 h)) (fun r5 m6 q => ?_)
      obtain ⟨rfl, h⟩ := q
      refine zr_iconst (v := 4) X dX10_judge_35 (by decide) ?_
      refine zr_icmp_eq (tgt := 42) X dX10_judge_36 (by decide) (fun q => ?_) (fun q => ?_)
      · rw [if_pos q] at h
        refine zr_aload_n X dX10_judge_42 0 rfl ?_
        refine zr_iload_n X dX10_judge_43 1 rfl ?_
        refine zr_iload_n X dX10_judge_44 2 rfl ?_
        refine zr_callV_i (As := [.int p1, .int p2]) (st := []) (d := d - 1) X dX10_judge_45 wm_X10_325 my_X10_judged mv_X10_judged zo_0 rfl (Nat.le_of_ble_eq_true rfl) (zRm (by omega)) ⟨Nat.le_refl _, Nat.le_refl _⟩ (x_fN_judged hG (d - 1) (by omega) p1 p2 m _ (zw_b1 h)) (fun r7 m8 q => ?_)
        obtain ⟨rfl, h⟩ := q
        exact zr_iret X dX10_judge_48 rfl ⟨Nat.le_refl _, Nat.le_refl _⟩ ⟨rfl, _, rfl, rfl, h⟩
      · rw [if_neg q] at h
        refine zr_bipush (v := (-12)) X dX10_judge_39 (by decide) ?_
        exact zr_iret X dX10_judge_41 rfl ⟨Nat.le_refl _, Nat.le_refl _⟩ ⟨rfl, _, rfl, rfl, h⟩
    · rw [if_neg q] at h
      refine zr_bipush (v := 100) X dX10_judge_24 (by decide) ?_
      exact zr_iret X dX10_judge_26 rfl ⟨Nat.le_refl _, Nat.le_refl _⟩ ⟨rfl, _, rfl, rfl, h⟩
  · rw [if_pos q] at h
    refine zr_iconst (v := (-1)) X dX10_judge_11 (by decide) ?_
    exact zr_iret X dX10_judge_12 rfl ⟨Nat.le_refl _, Nat.le_refl _⟩ ⟨rfl, _, rfl, rfl, h⟩

set_option maxRecDepth 100000 in
set_option maxHeartbeats 4000000 in
theorem x_fN_image {l : Launch} {S : State} {D : va_G} {cA : Nat → ClassId} {tb sx : Nat → Nat} (hG : zv_G S D cA tb sx) (d : Nat) (hd : 4 ≤ d) (m : zv_M) (P : Int32 → zv_M → Prop) (h : zw2 (fN_image m) P) : zv_Met l S D cA d 0 0 yX10_image cX10_image 1 (some .int) [.ref (S.heap.size + 0)] SH0 m (zq_i SH0 P) := by
  refine zv_met false hG pf_X10_image (fun z => by cases z) (Nat.le_of_ble_eq_true rfl) [(0, .ref (S.heap.size + 0))] rfl (fun p e s mi args below meth c X => ?_)
  rw [fN_image] at h
  refine zr_aload_n X dX10_image_0 0 rfl ?_
  refine zr_getR X dX10_image_1 zd_X10_18 rfl zo_0 zl_0_1 ?_
  refine zr_aload_n X dX10_image_4 0 rfl ?_
  refine zr_getR X dX10_image_5 zd_X10_12 rfl zo_0 zl_0_0 ?_
  refine zr_callV_v (As := [.ref (S.heap.size + 1)]) (st := []) (d := d - 1) X dX10_image_8 wm_X10_328 my_X5_becomes mv_X5_becomes zo_17 rfl (Nat.le_of_ble_eq_true rfl) (zRm (by omega)) ⟨Nat.le_refl _, Nat.le_refl _⟩ (x_fSt_becomes hG (d - 1) (by omega) 17 zo_17 1 zo_1 m _ (zw_b12 h)) (fun m1 q => ?_)
  replace h := q
  refine zr_aload_n X dX10_image_11 0 rfl ?_
  refine zr_iconst (v := 1) X dX10_image_12 (by decide) ?_
  refine zr_put X dX10_image_13 zd_X10_21 rfl rfl rfl zo_0 (by rw [zk_10 zo_0]; decide) ?_
  refine zr_aload_n X dX10_image_16 0 rfl ?_
  refine zr_getR X dX10_image_17 zd_X10_12 rfl zo_0 zl_0_0 ?_
  refine zr_getR X dX10_image_20 zd_X10_96 rfl zo_1 zl_1_0 ?_
  refine zr_getI X dX10_image_23 zd_X10_116 rfl zo_2 (by rw [zk_2 zo_2]; decide) ?_
  exact zr_iret X dX10_image_26 rfl ⟨Nat.le_refl _, Nat.le_refl _⟩ ⟨rfl, _, rfl, h⟩

set_option maxRecDepth 100000 in
set_option maxHeartbeats 4000000 in
theorem x_fN_undo {l : Launch} {S : State} {D : va_G} {cA : Nat → ClassId} {tb sx : Nat → Nat} (hG : zv_G S D cA tb sx) (d : Nat) (hd : 4 ≤ d) (m : zv_M) (P : Int32 → zv_M → Prop) (h : zw2 (fN_undo m) P) : zv_Met l S D cA d 0 0 yX10_undo cX10_undo 1 (some .int) [.ref (S.heap.size + 0)] SH0 m (zq_i SH0 P) := by
  refine zv_met false hG pf_X10_undo (fun z => by cases z) (Nat.le_of_ble_eq_true rfl) [(0, .ref (S.heap.size + 0))] rfl (fun p e s mi args below meth c X => ?_)
  rw [fN_undo] at h
  refine zr_aload_n X dX10_undo_0 0 rfl ?_
  refine zr_getI X dX10_undo_1 zd_X10_21 rfl zo_0 (by rw [zk_10 zo_0]; decide) ?_
  refine zr_if_ne (tgt := 10) X dX10_undo_4 (by decide) (fun q => ?_) (fun q => ?_)
  · rw [if_neg q] at h
    refine zr_aload_n X dX10_undo_10 0 rfl ?_
    refine zr_getR X dX10_undo_11 zd_X10_12 rfl zo_0 zl_0_0 ?_
    refine zr_aload_n X dX10_undo_14 0 rfl ?_
    refine zr_getR X dX10_undo_15 zd_X10_18 rfl zo_0 zl_0_1 ?_
    refine zr_callV_v (As := [.ref (S.heap.size + 17)]) (st := []) (d := d - 1) X dX10_undo_18 wm_X10_328 my_X5_becomes mv_X5_becomes zo_1 rfl (Nat.le_of_ble_eq_true rfl) (zRm (by omega)) ⟨Nat.le_refl _, Nat.le_refl _⟩ (x_fSt_becomes hG (d - 1) (by omega) 1 zo_1 17 zo_17 m _ (zw_b12 h)) (fun m1 q => ?_)
    replace h := q
    refine zr_aload_n X dX10_undo_21 0 rfl ?_
    refine zr_getR X dX10_undo_22 zd_X10_12 rfl zo_0 zl_0_0 ?_
    refine zr_getR X dX10_undo_25 zd_X10_96 rfl zo_1 zl_1_0 ?_
    refine zr_getI X dX10_undo_28 zd_X10_116 rfl zo_2 (by rw [zk_2 zo_2]; decide) ?_
    exact zr_iret X dX10_undo_31 rfl ⟨Nat.le_refl _, Nat.le_refl _⟩ ⟨rfl, _, rfl, h⟩
  · rw [if_pos q] at h
    refine zr_bipush (v := (-3)) X dX10_undo_7 (by decide) ?_
    exact zr_iret X dX10_undo_9 rfl ⟨Nat.le_refl _, Nat.le_refl _⟩ ⟨rfl, _, rfl, h⟩

set_option maxRecDepth 100000 in
set_option maxHeartbeats 4000000 in
theorem x_fN_act {l : Launch} {S : State} {D : va_G} {cA : Nat → ClassId} {tb sx : Nat → Nat} (hG : zv_G S D cA tb sx) (d : Nat) (hd : 32 ≤ d) (p1 : Int32) (p2 : Int32) (p3 : Int32) (m : zv_M) (P : Int32 → zv_M → Prop) (h : zw2 (fN_act p1 p2 p3 m) P) : zv_Met l S D cA d 0 0 yX10_act cX10_act 4 (some .int) [.ref (S.heap.size + 0), .int p1, .int p2, .int p3] SH0 m (zq_i SH0 P) := by
  refine zv_met false hG pf_X10_act (fun z => by cases z) (Nat.le_of_ble_eq_true rfl) [(0, .ref (S.heap.size + 0)), (1, .int p1), (2, .int p2), (3, .int p3)] rfl (fun p e s mi args below meth c X => ?_)
  rw [fN_act] at h
  refine zr_aload_n X dX10_act_0 0 rfl ?_
  refine zr_getR X dX10_act_1 zd_X10_81 rfl zo_0 zl_0_12 ?_
  refine zr_callV_v (As := []) (st := []) (d := d - 1) X dX10_act_4 wm_X10_332 my_X0_forget mv_X0_forget zo_61 rfl (Nat.le_of_ble_eq_true rfl) (zRm (by omega)) ⟨Nat.le_refl _, Nat.le_refl _⟩ (x_fAc_forget hG (d - 1) (by omega) m _ (zw_b12 h)) (fun m1 q => ?_)
  replace h := q
  refine zr_aload_n X dX10_act_7 0 rfl ?_
  refine zr_iload_n X dX10_act_8 1 rfl ?_
  refine zr_callV_i (As := [.int p1]) (st := []) (d := d - 1) X dX10_act_9 wm_X10_119 my_X10_isPlan mv_X10_isPlan zo_0 rfl (Nat.le_of_ble_eq_true rfl) (zRm (by omega)) ⟨Nat.le_refl _, Nat.le_refl _⟩ (x_fN_isPlan hG (d - 1) (by omega) p1 m1 _ (zw_b12 h)) (fun r2 m3 q => ?_)
  obtain ⟨rfl, h⟩ := q
  refine zr_if_eq (tgt := 24) X dX10_act_12 (by decide) (fun q => ?_) (fun q => ?_)
  · rw [if_pos q] at h
    refine zr_iconst (v := 0) X dX10_act_24 (by decide) ?_
    exact zr_iret X dX10_act_25 rfl ⟨Nat.le_refl _, Nat.le_refl _⟩ ⟨rfl, _, rfl, h⟩
  · rw [if_neg q] at h
    refine zr_iload_n X dX10_act_15 2 rfl ?_
    refine zr_if_lt (tgt := 24) X dX10_act_16 (by decide) (fun q => ?_) (fun q => ?_)
    · rw [if_pos q] at h
      refine zr_iconst (v := 0) X dX10_act_24 (by decide) ?_
      exact zr_iret X dX10_act_25 rfl ⟨Nat.le_refl _, Nat.le_refl _⟩ ⟨rfl, _, rfl, h⟩
    · rw [if_neg q] at h
      refine zr_iload_n X dX10_act_19 2 rfl ?_
      refine zr_iconst (v := 2) X dX10_act_20 (by decide) ?_
      refine zr_icmp_le (tgt := 26) X dX10_act_21 (by decide) (fun q => ?_) (fun q => ?_)
      · rw [if_neg q] at h
        refine zr_aload_n X dX10_act_26 0 rfl ?_
        refine zr_getR X dX10_act_27 zd_X10_81 rfl zo_0 zl_0_12 ?_
        refine zr_iload_n X dX10_act_30 1 rfl ?_
        refine zr_aload_n X dX10_act_31 0 rfl ?_
        refine zr_getR X dX10_act_32 zd_X10_12 rfl zo_0 zl_0_0 ?_
        refine zr_getR X dX10_act_35 zd_X10_96 rfl zo_1 zl_1_0 ?_
        refine zr_iload_n X dX10_act_38 1 rfl ?_
        refine zr_callV_i (As := [.int p1]) (st := [.int p1, .ref (S.heap.size + 61)]) (d := d - 1) X dX10_act_39 wm_X10_122 my_X2_get mv_X2_get zo_2 rfl (Nat.le_of_ble_eq_true rfl) (zRm (by omega)) ⟨Nat.le_refl _, Nat.le_refl _⟩ (x_fPi_get hG (d - 1) (by omega) 2 zo_2 p1 m1 _ (zw_b12 h)) (fun r4 m5 q => ?_)
        obtain ⟨rfl, h⟩ := q
        refine zr_aload_n X dX10_act_42 0 rfl ?_
        refine zr_getR X dX10_act_43 zd_X10_12 rfl zo_0 zl_0_0 ?_
        refine zr_getR X dX10_act_46 zd_X10_110 rfl zo_1 zl_1_1 ?_
        refine zr_iload_n X dX10_act_49 1 rfl ?_
        refine zr_callV_i (As := [.int p1]) (st := [.int r4, .int p1, .ref (S.heap.size + 61)]) (d := d - 1) X dX10_act_50 wm_X10_122 my_X2_get mv_X2_get zo_4 rfl (Nat.le_of_ble_eq_true rfl) (zRm (by omega)) ⟨Nat.le_refl _, Nat.le_refl _⟩ (x_fPi_get hG (d - 1) (by omega) 4 zo_4 p1 m1 _ (zw_b12 h)) (fun r6 m7 q => ?_)
        obtain ⟨rfl, h⟩ := q
        refine zr_iload_n X dX10_act_53 2 rfl ?_
        refine zr_iload_n X dX10_act_54 3 rfl ?_
        refine zr_callV_i (As := [.int p1, .int r4, .int r6, .int p2, .int p3]) (st := []) (d := d - 1) X dX10_act_55 wm_X10_335 my_X0_start mv_X0_start zo_61 rfl (Nat.le_of_ble_eq_true rfl) (zRm (by omega)) ⟨Nat.le_refl _, Nat.le_refl _⟩ (x_fAc_start hG (d - 1) (by omega) p1 r4 r6 p2 p3 m1 _ (zw_b22 h)) (fun r8 m9 q => ?_)
        replace h := q
        exact zr_iret X dX10_act_58 rfl ⟨Nat.le_refl _, Nat.le_refl _⟩ ⟨rfl, _, rfl, h⟩
      · rw [if_pos q] at h
        refine zr_iconst (v := 0) X dX10_act_24 (by decide) ?_
        exact zr_iret X dX10_act_25 rfl ⟨Nat.le_refl _, Nat.le_refl _⟩ ⟨rfl, _, rfl, h⟩

set_option maxRecDepth 100000 in
set_option maxHeartbeats 4000000 in
theorem x_fN_trace {l : Launch} {S : State} {D : va_G} {cA : Nat → ClassId} {tb sx : Nat → Nat} (hG : zv_G S D cA tb sx) (d : Nat) (hd : 2 ≤ d) (p1 : Int32) (m : zv_M) (P : Int32 → Prop) (h : zw (fN_trace p1 m) P) : zv_Met l S D cA d 0 0 yX10_trace cX10_trace 2 (some .int) [.ref (S.heap.size + 0), .int p1] SH0 m (zq_i SH0 (fun v m' => m = m' ∧ P v)) := by
  refine zv_met false hG pf_X10_trace (fun z => by cases z) (Nat.le_of_ble_eq_true rfl) [(0, .ref (S.heap.size + 0)), (1, .int p1)] rfl (fun p e s mi args below meth c X => ?_)
  rw [fN_trace] at h
  refine zr_iload_n X dX10_trace_0 1 rfl ?_
  refine zr_if_lt (tgt := 18) X dX10_trace_1 (by decide) (fun q => ?_) (fun q => ?_)
  · rw [if_pos q] at h
    refine zr_iconst (v := (-1)) X dX10_trace_18 (by decide) ?_
    exact zr_iret X dX10_trace_19 rfl ⟨Nat.le_refl _, Nat.le_refl _⟩ ⟨rfl, _, rfl, rfl, h⟩
  · rw [if_neg q] at h
    refine zr_iload_n X dX10_trace_4 1 rfl ?_
    refine zr_aload_n X dX10_trace_5 0 rfl ?_
    refine zr_getR X dX10_trace_6 zd_X10_81 rfl zo_0 zl_0_12 ?_
    refine zr_getR X dX10_trace_9 zd_X10_339 rfl zo_61 zl_61_0 ?_
    refine zr_getI X dX10_trace_12 zd_X10_116 rfl zo_62 (by rw [zk_2 zo_62]; decide) ?_
    refine zr_icmp_lt (tgt := 20) X dX10_trace_15 (by decide) (fun q => ?_) (fun q => ?_)
    · rw [if_pos q] at h
      refine zr_aload_n X dX10_trace_20 0 rfl ?_
      refine zr_getR X dX10_trace_21 zd_X10_81 rfl zo_0 zl_0_12 ?_
      refine zr_getR X dX10_trace_24 zd_X10_339 rfl zo_61 zl_61_0 ?_
      refine zr_iload_n X dX10_trace_27 1 rfl ?_
      refine zr_callV_i (As := [.int p1]) (st := []) (d := d - 1) X dX10_trace_28 wm_X10_122 my_X2_get mv_X2_get zo_62 rfl (Nat.le_of_ble_eq_true rfl) (zRm (by omega)) ⟨Nat.le_refl _, Nat.le_refl _⟩ (x_fPi_get hG (d - 1) (by omega) 62 zo_62 p1 m _ (zw_b1 h)) (fun r1 m2 q => ?_)
      obtain ⟨rfl, h⟩ := q
      exact zr_iret X dX10_trace_31 rfl ⟨Nat.le_refl _, Nat.le_refl _⟩ ⟨rfl, _, rfl, rfl, h⟩
    · rw [if_neg q] at h
      refine zr_iconst (v := (-1)) X dX10_trace_18 (by decide) ?_
      exact zr_iret X dX10_trace_19 rfl ⟨Nat.le_refl _, Nat.le_refl _⟩ ⟨rfl, _, rfl, rfl, h⟩

set_option maxRecDepth 100000 in
set_option maxHeartbeats 4000000 in
theorem x_fN_isUnder {l : Launch} {S : State} {D : va_G} {cA : Nat → ClassId} {tb sx : Nat → Nat} (hG : zv_G S D cA tb sx) (d : Nat) (hd : 2 ≤ d) (p1 : Int32) (p2 : Int32) (m : zv_M) (P : Int32 → Prop) (h : zw (fN_isUnder p1 p2) P) : zv_Met l S D cA d 0 0 yX10_isUnder cX10_isUnder 4 (some .boolean) [.int p1, .int p2] SH0 m (zq_i SH0 (fun v m' => m = m' ∧ P v)) := by
  refine zv_met false hG pf_X10_isUnder (fun z => by cases z) (Nat.le_of_ble_eq_true rfl) [(0, .int p1), (1, .int p2)] rfl (fun p e s mi args below meth c X => ?_)
  rw [fN_isUnder] at h
  refine zr_iload_n X dX10_isUnder_0 0 rfl ?_
  refine zr_istore_n (lo' := [(2, .int p1), (0, .int p1), (1, .int p2)]) X dX10_isUnder_1 (by decide) rfl ?_
  refine zr_iconst (v := 0) X dX10_isUnder_2 (by decide) ?_
  refine zr_istore_n (lo' := [(3, .int 0), (2, .int p1), (0, .int p1), (1, .int p2)]) X dX10_isUnder_3 (by decide) rfl ?_
  refine zr_sub [3, 1, 0] rfl ?_
  refine zl_w2 (fun a2 a3 => zv_V S D cA p l e (zv_rm d 0 0) s mi args below meth c 4 (MQ below (zv_Q S D cA (zq_i SH0 (fun v m' => m = m' ∧ P v))) args s 0 0 (zv_fr S)) 0 0 4 [(1, .int p2), (2, .int a2), (3, .int a3)] [] SH0 m) (fN_isUnder_l4 p2) _ (fun P1 hl1 hr1 a2 a3 h => ?_) zFU p1 0 (zw_b1 h)
  rw [fN_isUnder_l4] at h
  refine zr_iload_n X dX10_isUnder_4 2 rfl ?_
  refine zr_gets X dX10_isUnder_5 (k := 0) (by decide) wg_X10_369 ?_
  refine zr_tlen (v := 7) X dX10_isUnder_8 (k := 0) (by decide) rfl ?_
  refine zr_icmp_ge (tgt := 38) X dX10_isUnder_9 (by decide) (fun q => ?_) (fun q => ?_)
  · rw [if_neg q] at h
    refine zr_iconst (v := 0) X dX10_isUnder_38 (by decide) ?_
    have h := hr1 _ h
    exact zr_iret X dX10_isUnder_39 rfl ⟨Nat.le_refl _, Nat.le_refl _⟩ ⟨rfl, _, rfl, rfl, h⟩
  · rw [if_pos q] at h
    refine zr_iload_n X dX10_isUnder_12 1 rfl ?_
    refine zr_callS_i (As := [.int a2]) (st := []) (d := d - 1) X dX10_isUnder_13 wm_X10_92 ws_X10_isKind my_X10_isKind rfl (Nat.le_of_ble_eq_true rfl) (zRm (by omega)) ⟨Nat.le_refl _, Nat.le_refl _⟩ (x_fN_isKind hG (d - 1) (by omega) a2 m _ (zw_b1 h)) (fun r4 m5 q => ?_)
    obtain ⟨rfl, h⟩ := q
    refine zr_if_eq (tgt := 38) X dX10_isUnder_16 (by decide) (fun q => ?_) (fun q => ?_)
    · rw [if_pos q] at h
      refine zr_iconst (v := 0) X dX10_isUnder_38 (by decide) ?_
      have h := hr1 _ h
      exact zr_iret X dX10_isUnder_39 rfl ⟨Nat.le_refl _, Nat.le_refl _⟩ ⟨rfl, _, rfl, rfl, h⟩
    · rw [if_neg q] at h
      refine zr_iload_n X dX10_isUnder_19 1 rfl ?_
      refine zr_iload_n X dX10_isUnder_20 0 rfl ?_
      refine zr_icmp_ne (tgt := 26) X dX10_isUnder_21 (by decide) (fun q => ?_) (fun q => ?_)
      · rw [if_neg q] at h
        refine zr_gets X dX10_isUnder_26 (k := 0) (by decide) wg_X10_369 ?_
        refine zr_iload_n X dX10_isUnder_29 1 rfl ?_
        obtain ⟨g0, h⟩ := zg_e h
        refine zr_tld X dX10_isUnder_30 (k := 0) (by decide) (zI_in g0) ?_
        refine zr_istore_n (lo' := [(2, .int (zv_tv 0 a2.toNatClampNeg)), (1, .int p2), (3, .int a3)]) X dX10_isUnder_31 (by decide) rfl ?_
        refine zr_iinc (v := a3 + 1) (lo' := [(3, .int (a3 + 1)), (2, .int (zv_tv 0 a2.toNatClampNeg)), (1, .int p2)]) X dX10_isUnder_32 2 rfl rfl (by decide) rfl ?_
        refine zr_goto (tgt := 4) X dX10_isUnder_35 (by decide) ?_
        have h := hl1 _ h
        exact zr_sub [2, 1, 0] rfl h
      · rw [if_pos q] at h
        refine zr_iconst (v := 1) X dX10_isUnder_24 (by decide) ?_
        have h := hr1 _ h
        exact zr_iret X dX10_isUnder_25 rfl ⟨Nat.le_refl _, Nat.le_refl _⟩ ⟨rfl, _, rfl, rfl, h⟩

set_option maxRecDepth 100000 in
set_option maxHeartbeats 4000000 in
theorem x_fN_taken {l : Launch} {S : State} {D : va_G} {cA : Nat → ClassId} {tb sx : Nat → Nat} (hG : zv_G S D cA tb sx) (d : Nat) (hd : 3 ≤ d) (p1 : Int32) (p2 : Int32) (m : zv_M) (P : Int32 → Prop) (h : zw (fN_taken p1 p2 m) P) : zv_Met l S D cA d 0 0 yX10_taken cX10_taken 4 (some .int) [.ref (S.heap.size + 0), .int p1, .int p2] SH0 m (zq_i SH0 (fun v m' => m = m' ∧ P v)) := by
  refine zv_met false hG pf_X10_taken (fun z => by cases z) (Nat.le_of_ble_eq_true rfl) [(0, .ref (S.heap.size + 0)), (1, .int p1), (2, .int p2)] rfl (fun p e s mi args below meth c X => ?_)
  rw [fN_taken] at h
  refine zr_iload_n X dX10_taken_0 2 rfl ?_
  refine zr_callS_i (As := [.int p2]) (st := []) (d := d - 1) X dX10_taken_1 wm_X10_92 ws_X10_isKind my_X10_isKind rfl (Nat.le_of_ble_eq_true rfl) (zRm (by omega)) ⟨Nat.le_refl _, Nat.le_refl _⟩ (x_fN_isKind hG (d - 1) (by omega) p2 m _ (zw_b1 h)) (fun r1 m2 q => ?_)
  obtain ⟨rfl, h⟩ := q
  refine zr_if_ne (tgt := 10) X dX10_taken_4 (by decide) (fun q => ?_) (fun q => ?_)
  · rw [if_neg q] at h
    refine zr_aload_n X dX10_taken_10 0 rfl ?_
    refine zr_iload_n X dX10_taken_11 1 rfl ?_
    refine zr_callV_i (As := [.int p1]) (st := []) (d := d - 1) X dX10_taken_12 wm_X10_119 my_X10_isPlan mv_X10_isPlan zo_0 rfl (Nat.le_of_ble_eq_true rfl) (zRm (by omega)) ⟨Nat.le_refl _, Nat.le_refl _⟩ (x_fN_isPlan hG (d - 1) (by omega) p1 m _ (zw_b1 h)) (fun r3 m4 q => ?_)
    obtain ⟨rfl, h⟩ := q
    refine zr_if_ne (tgt := 21) X dX10_taken_15 (by decide) (fun q => ?_) (fun q => ?_)
    · rw [if_neg q] at h
      refine zr_aload_n X dX10_taken_21 0 rfl ?_
      refine zr_getR X dX10_taken_22 zd_X10_12 rfl zo_0 zl_0_0 ?_
      refine zr_getR X dX10_taken_25 zd_X10_96 rfl zo_1 zl_1_0 ?_
      refine zr_iload_n X dX10_taken_28 1 rfl ?_
      refine zr_callV_i (As := [.int p1]) (st := []) (d := d - 1) X dX10_taken_29 wm_X10_122 my_X2_get mv_X2_get zo_2 rfl (Nat.le_of_ble_eq_true rfl) (zRm (by omega)) ⟨Nat.le_refl _, Nat.le_refl _⟩ (x_fPi_get hG (d - 1) (by omega) 2 zo_2 p1 m _ (zw_b1 h)) (fun r5 m6 q => ?_)
      obtain ⟨rfl, h⟩ := q
      refine zr_istore_n (lo' := [(3, .int r5), (0, .ref (S.heap.size + 0)), (1, .int p1), (2, .int p2)]) X dX10_taken_32 (by decide) rfl ?_
      refine zr_iload_n X dX10_taken_33 0 rfl ?_
      refine zr_iload_n X dX10_taken_34 3 rfl ?_
      refine zr_callS_i (As := [.int r5, .int p2]) (st := []) (d := d - 1) X dX10_taken_35 wm_X10_342 ws_X10_isUnder my_X10_isUnder rfl (Nat.le_of_ble_eq_true rfl) (zRm (by omega)) ⟨Nat.le_refl _, Nat.le_refl _⟩ (x_fN_isUnder hG (d - 1) (by omega) r5 p2 m _ (zw_b1 h)) (fun r7 m8 q => ?_)
      obtain ⟨rfl, h⟩ := q
      refine zr_if_eq (tgt := 45) X dX10_taken_38 (by decide) (fun q => ?_) (fun q => ?_)
      · rw [if_pos q] at h
        refine zr_bipush (v := (-12)) X dX10_taken_45 (by decide) ?_
        exact zr_iret X dX10_taken_47 rfl ⟨Nat.le_refl _, Nat.le_refl _⟩ ⟨rfl, _, rfl, rfl, h⟩
      · rw [if_neg q] at h
        refine zr_iload_n X dX10_taken_41 0 rfl ?_
        refine zr_goto (tgt := 47) X dX10_taken_42 (by decide) ?_
        exact zr_iret X dX10_taken_47 rfl ⟨Nat.le_refl _, Nat.le_refl _⟩ ⟨rfl, _, rfl, rfl, h⟩
    · rw [if_pos q] at h
      refine zr_bipush (v := (-11)) X dX10_taken_18 (by decide) ?_
      exact zr_iret X dX10_taken_20 rfl ⟨Nat.le_refl _, Nat.le_refl _⟩ ⟨rfl, _, rfl, rfl, h⟩
  · rw [if_pos q] at h
    refine zr_bipush (v := (-2)) X dX10_taken_7 (by decide) ?_
    exact zr_iret X dX10_taken_9 rfl ⟨Nat.le_refl _, Nat.le_refl _⟩ ⟨rfl, _, rfl, rfl, h⟩

set_option maxRecDepth 100000 in
set_option maxHeartbeats 4000000 in
theorem x_fN_count {l : Launch} {S : State} {D : va_G} {cA : Nat → ClassId} {tb sx : Nat → Nat} (hG : zv_G S D cA tb sx) (d : Nat) (hd : 1 ≤ d) (p1 : Int32) (m : zv_M) (P : Int32 → Prop) (h : zw (fN_count p1 m) P) : zv_Met l S D cA d 0 0 yX10_count cX10_count 2 (some .int) [.ref (S.heap.size + 0), .int p1] SH0 m (zq_i SH0 (fun v m' => m = m' ∧ P v)) := by
  refine zv_met false hG pf_X10_count (fun z => by cases z) (Nat.le_of_ble_eq_true rfl) [(0, .ref (S.heap.size + 0)), (1, .int p1)] rfl (fun p e s mi args below meth c X => ?_)
  rw [fN_count] at h
  refine zr_iload_n X dX10_count_0 1 rfl ?_
  by_cases e0 : p1 = 0
  · rw [if_pos e0] at h
    refine zr_tableIn (tgt := 44) X dX10_count_1 0 (by rw [e0]; decide) (by decide) (by decide) rfl (by decide) ?_
    refine zr_aload_n X dX10_count_44 0 rfl ?_
    refine zr_getR X dX10_count_45 zd_X10_12 rfl zo_0 zl_0_0 ?_
    refine zr_getR X dX10_count_48 zd_X10_96 rfl zo_1 zl_1_0 ?_
    refine zr_getI X dX10_count_51 zd_X10_116 rfl zo_2 (by rw [zk_2 zo_2]; decide) ?_
    exact zr_iret X dX10_count_54 rfl ⟨Nat.le_refl _, Nat.le_refl _⟩ ⟨rfl, _, rfl, rfl, h⟩
  rw [if_neg e0] at h
  by_cases e1 : p1 = 1
  · rw [if_pos e1] at h
    refine zr_tableIn (tgt := 55) X dX10_count_1 1 (by rw [e1]; decide) (by decide) (by decide) rfl (by decide) ?_
    refine zr_aload_n X dX10_count_55 0 rfl ?_
    refine zr_getI X dX10_count_56 zd_X10_43 rfl zo_0 (by rw [zk_10 zo_0]; decide) ?_
    exact zr_iret X dX10_count_59 rfl ⟨Nat.le_refl _, Nat.le_refl _⟩ ⟨rfl, _, rfl, rfl, h⟩
  rw [if_neg e1] at h
  by_cases e2 : p1 = 2
  · rw [if_pos e2] at h
    refine zr_tableIn (tgt := 60) X dX10_count_1 2 (by rw [e2]; decide) (by decide) (by decide) rfl (by decide) ?_
    refine zr_aload_n X dX10_count_60 0 rfl ?_
    refine zr_getR X dX10_count_61 zd_X10_12 rfl zo_0 zl_0_0 ?_
    refine zr_getR X dX10_count_64 zd_X10_276 rfl zo_1 zl_1_4 ?_
    refine zr_getI X dX10_count_67 zd_X10_116 rfl zo_9 (by rw [zk_2 zo_9]; decide) ?_
    exact zr_iret X dX10_count_70 rfl ⟨Nat.le_refl _, Nat.le_refl _⟩ ⟨rfl, _, rfl, rfl, h⟩
  rw [if_neg e2] at h
  by_cases e3 : p1 = 3
  · rw [if_pos e3] at h
    refine zr_tableIn (tgt := 71) X dX10_count_1 3 (by rw [e3]; decide) (by decide) (by decide) rfl (by decide) ?_
    refine zr_aload_n X dX10_count_71 0 rfl ?_
    refine zr_getR X dX10_count_72 zd_X10_12 rfl zo_0 zl_0_0 ?_
    refine zr_getR X dX10_count_75 zd_X10_292 rfl zo_1 zl_1_5 ?_
    refine zr_getI X dX10_count_78 zd_X10_116 rfl zo_11 (by rw [zk_2 zo_11]; decide) ?_
    exact zr_iret X dX10_count_81 rfl ⟨Nat.le_refl _, Nat.le_refl _⟩ ⟨rfl, _, rfl, rfl, h⟩
  rw [if_neg e3] at h
  by_cases e4 : p1 = 4
  · rw [if_pos e4] at h
    refine zr_tableIn (tgt := 82) X dX10_count_1 4 (by rw [e4]; decide) (by decide) (by decide) rfl (by decide) ?_
    refine zr_aload_n X dX10_count_82 0 rfl ?_
    refine zr_getR X dX10_count_83 zd_X10_12 rfl zo_0 zl_0_0 ?_
    refine zr_getR X dX10_count_86 zd_X10_313 rfl zo_1 zl_1_7 ?_
    refine zr_getI X dX10_count_89 zd_X10_116 rfl zo_15 (by rw [zk_2 zo_15]; decide) ?_
    exact zr_iret X dX10_count_92 rfl ⟨Nat.le_refl _, Nat.le_refl _⟩ ⟨rfl, _, rfl, rfl, h⟩
  rw [if_neg e4] at h
  by_cases e5 : p1 = 5
  · rw [if_pos e5] at h
    refine zr_tableIn (tgt := 93) X dX10_count_1 5 (by rw [e5]; decide) (by decide) (by decide) rfl (by decide) ?_
    refine zr_aload_n X dX10_count_93 0 rfl ?_
    refine zr_getR X dX10_count_94 zd_X10_28 rfl zo_0 zl_0_3 ?_
    refine zr_getI X dX10_count_97 zd_X10_135 rfl zo_33 (by rw [zk_9 zo_33]; decide) ?_
    exact zr_iret X dX10_count_100 rfl ⟨Nat.le_refl _, Nat.le_refl _⟩ ⟨rfl, _, rfl, rfl, h⟩
  rw [if_neg e5] at h
  by_cases e6 : p1 = 6
  · rw [if_pos e6] at h
    refine zr_tableIn (tgt := 101) X dX10_count_1 6 (by rw [e6]; decide) (by decide) (by decide) rfl (by decide) ?_
    refine zr_aload_n X dX10_count_101 0 rfl ?_
    refine zr_getR X dX10_count_102 zd_X10_81 rfl zo_0 zl_0_12 ?_
    refine zr_getI X dX10_count_105 zd_X10_345 rfl zo_61 (by rw [zk_0 zo_61]; decide) ?_
    exact zr_iret X dX10_count_108 rfl ⟨Nat.le_refl _, Nat.le_refl _⟩ ⟨rfl, _, rfl, rfl, h⟩
  rw [if_neg e6] at h
  refine zr_tableOut (tgt := 109) X dX10_count_1 (by have ze0 := lv_neT e0 (by decide : (0 : Int32).toInt = 0); have ze1 := lv_neT e1 (by decide : (1 : Int32).toInt = 1); have ze2 := lv_neT e2 (by decide : (2 : Int32).toInt = 2); have ze3 := lv_neT e3 (by decide : (3 : Int32).toInt = 3); have ze4 := lv_neT e4 (by decide : (4 : Int32).toInt = 4); have ze5 := lv_neT e5 (by decide : (5 : Int32).toInt = 5); have ze6 := lv_neT e6 (by decide : (6 : Int32).toInt = 6); omega) (by decide) ?_
  refine zr_bipush (v := (-2)) X dX10_count_109 (by decide) ?_
  exact zr_iret X dX10_count_111 rfl ⟨Nat.le_refl _, Nat.le_refl _⟩ ⟨rfl, _, rfl, rfl, h⟩

set_option maxRecDepth 100000 in
set_option maxHeartbeats 4000000 in
theorem x_fN_tape {l : Launch} {S : State} {D : va_G} {cA : Nat → ClassId} {tb sx : Nat → Nat} (hG : zv_G S D cA tb sx) (d : Nat) (hd : 3 ≤ d) (p1 : Int32) (p2 : Int32) (p3 : Int32) (m : zv_M) (P : Int32 → zv_M → Prop) (h : zw2 (fN_tape p1 p2 p3 m) P) : zv_Met l S D cA d 0 0 yX10_tape cX10_tape 4 (some .int) [.ref (S.heap.size + 0), .int p1, .int p2, .int p3] SH0 m (zq_i SH0 P) := by
  refine zv_met false hG pf_X10_tape (fun z => by cases z) (Nat.le_of_ble_eq_true rfl) [(0, .ref (S.heap.size + 0)), (1, .int p1), (2, .int p2), (3, .int p3)] rfl (fun p e s mi args below meth c X => ?_)
  rw [fN_tape] at h
  refine zr_aload_n X dX10_tape_0 0 rfl ?_
  refine zr_getR X dX10_tape_1 zd_X10_88 rfl zo_0 zl_0_13 ?_
  refine zr_iload_n X dX10_tape_4 1 rfl ?_
  refine zr_callV_i (As := [.int p1]) (st := []) (d := d - 1) X dX10_tape_5 wm_X10_316 my_X6_isTape mv_X6_isTape zo_64 rfl (Nat.le_of_ble_eq_true rfl) (zRm (by omega)) ⟨Nat.le_refl _, Nat.le_refl _⟩ (x_fTa_isTape hG (d - 1) (by omega) p1 m _ (zw_b12 h)) (fun r1 m2 q => ?_)
  obtain ⟨rfl, h⟩ := q
  refine zr_if_ne (tgt := 13) X dX10_tape_8 (by decide) (fun q => ?_) (fun q => ?_)
  · rw [if_neg q] at h
    refine zr_iload_n X dX10_tape_13 2 rfl ?_
    refine zr_iconst (v := (-1)) X dX10_tape_14 (by decide) ?_
    refine zr_icmp_ne (tgt := 30) X dX10_tape_15 (by decide) (fun q => ?_) (fun q => ?_)
    · rw [if_neg q] at h
      refine zr_iload_n X dX10_tape_30 2 rfl ?_
      refine zr_if_lt (tgt := 45) X dX10_tape_31 (by decide) (fun q => ?_) (fun q => ?_)
      · rw [if_pos q] at h
        refine zr_bipush (v := (-2)) X dX10_tape_45 (by decide) ?_
        exact zr_iret X dX10_tape_47 rfl ⟨Nat.le_refl _, Nat.le_refl _⟩ ⟨rfl, _, rfl, h⟩
      · rw [if_neg q] at h
        refine zr_iload_n X dX10_tape_34 2 rfl ?_
        refine zr_iconst (v := 4) X dX10_tape_35 (by decide) ?_
        refine zr_icmp_gt (tgt := 45) X dX10_tape_36 (by decide) (fun q => ?_) (fun q => ?_)
        · rw [if_pos q] at h
          refine zr_bipush (v := (-2)) X dX10_tape_45 (by decide) ?_
          exact zr_iret X dX10_tape_47 rfl ⟨Nat.le_refl _, Nat.le_refl _⟩ ⟨rfl, _, rfl, h⟩
        · rw [if_neg q] at h
          refine zr_iload_n X dX10_tape_39 3 rfl ?_
          refine zr_bipush (v := 60) X dX10_tape_40 (by decide) ?_
          refine zr_icmp_le (tgt := 48) X dX10_tape_42 (by decide) (fun q => ?_) (fun q => ?_)
          · rw [if_neg q] at h
            refine zr_iload_n X dX10_tape_48 3 rfl ?_
            refine zr_if_ge (tgt := 55) X dX10_tape_49 (by decide) (fun q => ?_) (fun q => ?_)
            · rw [if_neg q] at h
              refine zr_aload_n X dX10_tape_55 0 rfl ?_
              refine zr_getR X dX10_tape_56 zd_X10_88 rfl zo_0 zl_0_13 ?_
              refine zr_iload_n X dX10_tape_59 1 rfl ?_
              refine zr_iload_n X dX10_tape_60 2 rfl ?_
              refine zr_iload_n X dX10_tape_61 3 rfl ?_
              refine zr_callV_v (As := [.int p1, .int p2, .int p3]) (st := []) (d := d - 1) X dX10_tape_62 wm_X10_348 my_X6_become mv_X6_become zo_64 rfl (Nat.le_of_ble_eq_true rfl) (zRm (by omega)) ⟨Nat.le_refl _, Nat.le_refl _⟩ (x_fTa_become hG (d - 1) (by omega) p1 p2 p3 m _ (zw_b12 h)) (fun m3 q => ?_)
              replace h := q
              refine zr_iconst (v := 1) X dX10_tape_65 (by decide) ?_
              exact zr_iret X dX10_tape_66 rfl ⟨Nat.le_refl _, Nat.le_refl _⟩ ⟨rfl, _, rfl, h⟩
            · rw [if_pos q] at h
              refine zr_bipush (v := (-14)) X dX10_tape_52 (by decide) ?_
              exact zr_iret X dX10_tape_54 rfl ⟨Nat.le_refl _, Nat.le_refl _⟩ ⟨rfl, _, rfl, h⟩
          · rw [if_pos q] at h
            refine zr_bipush (v := (-2)) X dX10_tape_45 (by decide) ?_
            exact zr_iret X dX10_tape_47 rfl ⟨Nat.le_refl _, Nat.le_refl _⟩ ⟨rfl, _, rfl, h⟩
    · rw [if_pos q] at h
      refine zr_aload_n X dX10_tape_18 0 rfl ?_
      refine zr_getR X dX10_tape_19 zd_X10_88 rfl zo_0 zl_0_13 ?_
      refine zr_iload_n X dX10_tape_22 1 rfl ?_
      refine zr_iload_n X dX10_tape_23 2 rfl ?_
      refine zr_iconst (v := 0) X dX10_tape_24 (by decide) ?_
      refine zr_callV_v (As := [.int p1, .int p2, .int 0]) (st := []) (d := d - 1) X dX10_tape_25 wm_X10_348 my_X6_become mv_X6_become zo_64 rfl (Nat.le_of_ble_eq_true rfl) (zRm (by omega)) ⟨Nat.le_refl _, Nat.le_refl _⟩ (x_fTa_become hG (d - 1) (by omega) p1 p2 0 m _ (zw_b12 h)) (fun m4 q => ?_)
      replace h := q
      refine zr_iconst (v := 1) X dX10_tape_28 (by decide) ?_
      exact zr_iret X dX10_tape_29 rfl ⟨Nat.le_refl _, Nat.le_refl _⟩ ⟨rfl, _, rfl, h⟩
  · rw [if_pos q] at h
    refine zr_iconst (v := (-1)) X dX10_tape_11 (by decide) ?_
    exact zr_iret X dX10_tape_12 rfl ⟨Nat.le_refl _, Nat.le_refl _⟩ ⟨rfl, _, rfl, h⟩

set_option maxRecDepth 100000 in
set_option maxHeartbeats 4000000 in
theorem x_fN_item {l : Launch} {S : State} {D : va_G} {cA : Nat → ClassId} {tb sx : Nat → Nat} (hG : zv_G S D cA tb sx) (d : Nat) (hd : 4 ≤ d) (p1 : Int32) (p2 : Int32) (p3 : Int64) (m : zv_M) (P : Int32 → zv_M → Prop) (h : zw2 (fN_item p1 p2 p3 m) P) : zv_Met l S D cA d 0 0 yX10_item cX10_item 5 (some .int) [.ref (S.heap.size + 0), .int p1, .int p2, .long p3] SH0 m (zq_i SH0 P) := by
  refine zv_met false hG pf_X10_item (fun z => by cases z) (Nat.le_of_ble_eq_true rfl) [(0, .ref (S.heap.size + 0)), (1, .int p1), (2, .int p2), (3, .long p3)] rfl (fun p e s mi args below meth c X => ?_)
  rw [fN_item] at h
  refine zr_aload_n X dX10_item_0 0 rfl ?_
  refine zr_getR X dX10_item_1 zd_X10_88 rfl zo_0 zl_0_13 ?_
  refine zr_iload_n X dX10_item_4 1 rfl ?_
  refine zr_callV_i (As := [.int p1]) (st := []) (d := d - 1) X dX10_item_5 wm_X10_316 my_X6_isTape mv_X6_isTape zo_64 rfl (Nat.le_of_ble_eq_true rfl) (zRm (by omega)) ⟨Nat.le_refl _, Nat.le_refl _⟩ (x_fTa_isTape hG (d - 1) (by omega) p1 m _ (zw_b12 h)) (fun r1 m2 q => ?_)
  obtain ⟨rfl, h⟩ := q
  refine zr_if_ne (tgt := 13) X dX10_item_8 (by decide) (fun q => ?_) (fun q => ?_)
  · rw [if_neg q] at h
    refine zr_aload_n X dX10_item_13 0 rfl ?_
    refine zr_getR X dX10_item_14 zd_X10_88 rfl zo_0 zl_0_13 ?_
    refine zr_iload_n X dX10_item_17 1 rfl ?_
    refine zr_callV_i (As := [.int p1]) (st := []) (d := d - 1) X dX10_item_18 wm_X10_319 my_X6_holdsNothing mv_X6_holdsNothing zo_64 rfl (Nat.le_of_ble_eq_true rfl) (zRm (by omega)) ⟨Nat.le_refl _, Nat.le_refl _⟩ (x_fTa_holdsNothing hG (d - 1) (by omega) p1 m _ (zw_b12 h)) (fun r3 m4 q => ?_)
    obtain ⟨rfl, h⟩ := q
    refine zr_if_eq (tgt := 27) X dX10_item_21 (by decide) (fun q => ?_) (fun q => ?_)
    · rw [if_pos q] at h
      refine zr_aload_n X dX10_item_27 0 rfl ?_
      refine zr_getR X dX10_item_28 zd_X10_88 rfl zo_0 zl_0_13 ?_
      refine zr_iload_n X dX10_item_31 1 rfl ?_
      refine zr_iload_n X dX10_item_32 2 rfl ?_
      refine zr_callV_i (As := [.int p1, .int p2]) (st := []) (d := d - 1) X dX10_item_33 wm_X10_352 my_X6_isPlace mv_X6_isPlace zo_64 rfl (Nat.le_of_ble_eq_true rfl) (zRm (by omega)) ⟨Nat.le_refl _, Nat.le_refl _⟩ (x_fTa_isPlace hG (d - 1) (by omega) p1 p2 m _ (zw_b12 h)) (fun r5 m6 q => ?_)
      obtain ⟨rfl, h⟩ := q
      refine zr_if_ne (tgt := 42) X dX10_item_36 (by decide) (fun q => ?_) (fun q => ?_)
      · rw [if_neg q] at h
        refine zr_aload_n X dX10_item_42 0 rfl ?_
        refine zr_getR X dX10_item_43 zd_X10_88 rfl zo_0 zl_0_13 ?_
        refine zr_iload_n X dX10_item_46 1 rfl ?_
        refine zr_iload_n X dX10_item_47 2 rfl ?_
        refine zr_lload_n X dX10_item_48 3 rfl ?_
        refine zr_callV_v (As := [.int p1, .int p2, .long p3]) (st := []) (d := d - 1) X dX10_item_49 wm_X10_355 my_X6_put mv_X6_put zo_64 rfl (Nat.le_of_ble_eq_true rfl) (zRm (by omega)) ⟨Nat.le_refl _, Nat.le_refl _⟩ (x_fTa_put hG (d - 1) (by omega) p1 p2 p3 m _ (zw_b12 h)) (fun m7 q => ?_)
        replace h := q
        refine zr_iconst (v := 1) X dX10_item_52 (by decide) ?_
        exact zr_iret X dX10_item_53 rfl ⟨Nat.le_refl _, Nat.le_refl _⟩ ⟨rfl, _, rfl, h⟩
      · rw [if_pos q] at h
        refine zr_bipush (v := (-13)) X dX10_item_39 (by decide) ?_
        exact zr_iret X dX10_item_41 rfl ⟨Nat.le_refl _, Nat.le_refl _⟩ ⟨rfl, _, rfl, h⟩
    · rw [if_neg q] at h
      refine zr_bipush (v := (-11)) X dX10_item_24 (by decide) ?_
      exact zr_iret X dX10_item_26 rfl ⟨Nat.le_refl _, Nat.le_refl _⟩ ⟨rfl, _, rfl, h⟩
  · rw [if_pos q] at h
    refine zr_iconst (v := (-1)) X dX10_item_11 (by decide) ?_
    exact zr_iret X dX10_item_12 rfl ⟨Nat.le_refl _, Nat.le_refl _⟩ ⟨rfl, _, rfl, h⟩

set_option maxRecDepth 100000 in
set_option maxHeartbeats 4000000 in
theorem x_fN_read {l : Launch} {S : State} {D : va_G} {cA : Nat → ClassId} {tb sx : Nat → Nat} (hG : zv_G S D cA tb sx) (d : Nat) (hd : 4 ≤ d) (p1 : Int32) (p2 : Int32) (m : zv_M) (P : Int64 → Prop) (h : zw (fN_read p1 p2 m) P) : zv_Met l S D cA d 0 0 yX10_read cX10_read 3 (some .long) [.ref (S.heap.size + 0), .int p1, .int p2] SH0 m (zq_l SH0 (fun v m' => m = m' ∧ P v)) := by
  refine zv_met false hG pf_X10_read (fun z => by cases z) (Nat.le_of_ble_eq_true rfl) [(0, .ref (S.heap.size + 0)), (1, .int p1), (2, .int p2)] rfl (fun p e s mi args below meth c X => ?_)
  rw [fN_read] at h
  refine zr_aload_n X dX10_read_0 0 rfl ?_
  refine zr_getR X dX10_read_1 zd_X10_88 rfl zo_0 zl_0_13 ?_
  refine zr_iload_n X dX10_read_4 1 rfl ?_
  refine zr_callV_i (As := [.int p1]) (st := []) (d := d - 1) X dX10_read_5 wm_X10_316 my_X6_isTape mv_X6_isTape zo_64 rfl (Nat.le_of_ble_eq_true rfl) (zRm (by omega)) ⟨Nat.le_refl _, Nat.le_refl _⟩ (x_fTa_isTape hG (d - 1) (by omega) p1 m _ (zw_b1 h)) (fun r1 m2 q => ?_)
  obtain ⟨rfl, h⟩ := q
  refine zr_if_eq (tgt := 23) X dX10_read_8 (by decide) (fun q => ?_) (fun q => ?_)
  · rw [if_pos q] at h
    refine zr_ldc2 X dX10_read_23 wc_X10_304 ?_
    exact zr_lret X dX10_read_26 ⟨Nat.le_refl _, Nat.le_refl _⟩ ⟨rfl, _, rfl, rfl, h⟩
  · rw [if_neg q] at h
    refine zr_aload_n X dX10_read_11 0 rfl ?_
    refine zr_getR X dX10_read_12 zd_X10_88 rfl zo_0 zl_0_13 ?_
    refine zr_iload_n X dX10_read_15 1 rfl ?_
    refine zr_iload_n X dX10_read_16 2 rfl ?_
    refine zr_callV_i (As := [.int p1, .int p2]) (st := []) (d := d - 1) X dX10_read_17 wm_X10_352 my_X6_isPlace mv_X6_isPlace zo_64 rfl (Nat.le_of_ble_eq_true rfl) (zRm (by omega)) ⟨Nat.le_refl _, Nat.le_refl _⟩ (x_fTa_isPlace hG (d - 1) (by omega) p1 p2 m _ (zw_b1 h)) (fun r3 m4 q => ?_)
    obtain ⟨rfl, h⟩ := q
    refine zr_if_ne (tgt := 27) X dX10_read_20 (by decide) (fun q => ?_) (fun q => ?_)
    · rw [if_neg q] at h
      refine zr_aload_n X dX10_read_27 0 rfl ?_
      refine zr_getR X dX10_read_28 zd_X10_88 rfl zo_0 zl_0_13 ?_
      refine zr_iload_n X dX10_read_31 1 rfl ?_
      refine zr_iload_n X dX10_read_32 2 rfl ?_
      refine zr_callV_l (As := [.int p1, .int p2]) (st := []) (d := d - 1) X dX10_read_33 wm_X10_358 my_X6_get mv_X6_get zo_64 rfl (Nat.le_of_ble_eq_true rfl) (zRm (by omega)) ⟨Nat.le_refl _, Nat.le_refl _⟩ (x_fTa_get hG (d - 1) (by omega) p1 p2 m _ (zw_b1 h)) (fun r5 m6 q => ?_)
      obtain ⟨rfl, h⟩ := q
      exact zr_lret X dX10_read_36 ⟨Nat.le_refl _, Nat.le_refl _⟩ ⟨rfl, _, rfl, rfl, h⟩
    · rw [if_pos q] at h
      refine zr_ldc2 X dX10_read_23 wc_X10_304 ?_
      exact zr_lret X dX10_read_26 ⟨Nat.le_refl _, Nat.le_refl _⟩ ⟨rfl, _, rfl, rfl, h⟩

set_option maxRecDepth 100000 in
set_option maxHeartbeats 4000000 in
theorem x_fN_shift {l : Launch} {S : State} {D : va_G} {cA : Nat → ClassId} {tb sx : Nat → Nat} (hG : zv_G S D cA tb sx) (d : Nat) (hd : 4 ≤ d) (p1 : Int32) (p2 : Int32) (p3 : Int32) (p4 : Int32) (p5 : Int32) (m : zv_M) (P : Int32 → zv_M → Prop) (h : zw2 (fN_shift p1 p2 p3 p4 p5 m) P) : zv_Met l S D cA d 0 0 yX10_shift cX10_shift 6 (some .int) [.ref (S.heap.size + 0), .int p1, .int p2, .int p3, .int p4, .int p5] SH0 m (zq_i SH0 P) := by
  refine zv_met false hG pf_X10_shift (fun z => by cases z) (Nat.le_of_ble_eq_true rfl) [(0, .ref (S.heap.size + 0)), (1, .int p1), (2, .int p2), (3, .int p3), (4, .int p4), (5, .int p5)] rfl (fun p e s mi args below meth c X => ?_)
  rw [fN_shift] at h
  refine zr_aload_n X dX10_shift_0 0 rfl ?_
  refine zr_getR X dX10_shift_1 zd_X10_88 rfl zo_0 zl_0_13 ?_
  refine zr_iload_n X dX10_shift_4 1 rfl ?_
  refine zr_callV_i (As := [.int p1]) (st := []) (d := d - 1) X dX10_shift_5 wm_X10_316 my_X6_isTape mv_X6_isTape zo_64 rfl (Nat.le_of_ble_eq_true rfl) (zRm (by omega)) ⟨Nat.le_refl _, Nat.le_refl _⟩ (x_fTa_isTape hG (d - 1) (by omega) p1 m _ (zw_b12 h)) (fun r1 m2 q => ?_)
  obtain ⟨rfl, h⟩ := q
  refine zr_if_eq (tgt := 22) X dX10_shift_8 (by decide) (fun q => ?_) (fun q => ?_)
  · rw [if_pos q] at h
    refine zr_iconst (v := (-1)) X dX10_shift_22 (by decide) ?_
    exact zr_iret X dX10_shift_23 rfl ⟨Nat.le_refl _, Nat.le_refl _⟩ ⟨rfl, _, rfl, h⟩
  · rw [if_neg q] at h
    refine zr_aload_n X dX10_shift_11 0 rfl ?_
    refine zr_getR X dX10_shift_12 zd_X10_88 rfl zo_0 zl_0_13 ?_
    refine zr_iload_n X dX10_shift_15 3 rfl ?_
    refine zr_callV_i (As := [.int p3]) (st := []) (d := d - 1) X dX10_shift_16 wm_X10_316 my_X6_isTape mv_X6_isTape zo_64 rfl (Nat.le_of_ble_eq_true rfl) (zRm (by omega)) ⟨Nat.le_refl _, Nat.le_refl _⟩ (x_fTa_isTape hG (d - 1) (by omega) p3 m _ (zw_b12 h)) (fun r3 m4 q => ?_)
    obtain ⟨rfl, h⟩ := q
    refine zr_if_ne (tgt := 24) X dX10_shift_19 (by decide) (fun q => ?_) (fun q => ?_)
    · rw [if_neg q] at h
      refine zr_aload_n X dX10_shift_24 0 rfl ?_
      refine zr_getR X dX10_shift_25 zd_X10_88 rfl zo_0 zl_0_13 ?_
      refine zr_iload_n X dX10_shift_28 1 rfl ?_
      refine zr_callV_i (As := [.int p1]) (st := []) (d := d - 1) X dX10_shift_29 wm_X10_319 my_X6_holdsNothing mv_X6_holdsNothing zo_64 rfl (Nat.le_of_ble_eq_true rfl) (zRm (by omega)) ⟨Nat.le_refl _, Nat.le_refl _⟩ (x_fTa_holdsNothing hG (d - 1) (by omega) p1 m _ (zw_b12 h)) (fun r5 m6 q => ?_)
      obtain ⟨rfl, h⟩ := q
      refine zr_if_ne (tgt := 46) X dX10_shift_32 (by decide) (fun q => ?_) (fun q => ?_)
      · rw [if_neg q] at h
        refine zr_bipush (v := (-11)) X dX10_shift_46 (by decide) ?_
        exact zr_iret X dX10_shift_48 rfl ⟨Nat.le_refl _, Nat.le_refl _⟩ ⟨rfl, _, rfl, h⟩
      · rw [if_pos q] at h
        refine zr_aload_n X dX10_shift_35 0 rfl ?_
        refine zr_getR X dX10_shift_36 zd_X10_88 rfl zo_0 zl_0_13 ?_
        refine zr_iload_n X dX10_shift_39 3 rfl ?_
        refine zr_callV_i (As := [.int p3]) (st := []) (d := d - 1) X dX10_shift_40 wm_X10_319 my_X6_holdsNothing mv_X6_holdsNothing zo_64 rfl (Nat.le_of_ble_eq_true rfl) (zRm (by omega)) ⟨Nat.le_refl _, Nat.le_refl _⟩ (x_fTa_holdsNothing hG (d - 1) (by omega) p3 m _ (zw_b12 h)) (fun r7 m8 q => ?_)
        obtain ⟨rfl, h⟩ := q
        refine zr_if_eq (tgt := 49) X dX10_shift_43 (by decide) (fun q => ?_) (fun q => ?_)
        · rw [if_pos q] at h
          refine zr_aload_n X dX10_shift_49 0 rfl ?_
          refine zr_getR X dX10_shift_50 zd_X10_88 rfl zo_0 zl_0_13 ?_
          refine zr_iload_n X dX10_shift_53 1 rfl ?_
          refine zr_callV_i (As := [.int p1]) (st := []) (d := d - 1) X dX10_shift_54 wm_X10_322 my_X6_sortOf mv_X6_sortOf zo_64 rfl (Nat.le_of_ble_eq_true rfl) (zRm (by omega)) ⟨Nat.le_refl _, Nat.le_refl _⟩ (x_fTa_sortOf hG (d - 1) (by omega) p1 m _ (zw_b12 h)) (fun r9 m10 q => ?_)
          obtain ⟨rfl, h⟩ := q
          refine zr_aload_n X dX10_shift_57 0 rfl ?_
          refine zr_getR X dX10_shift_58 zd_X10_88 rfl zo_0 zl_0_13 ?_
          refine zr_iload_n X dX10_shift_61 3 rfl ?_
          refine zr_callV_i (As := [.int p3]) (st := [.int r9]) (d := d - 1) X dX10_shift_62 wm_X10_322 my_X6_sortOf mv_X6_sortOf zo_64 rfl (Nat.le_of_ble_eq_true rfl) (zRm (by omega)) ⟨Nat.le_refl _, Nat.le_refl _⟩ (x_fTa_sortOf hG (d - 1) (by omega) p3 m _ (zw_b12 h)) (fun r11 m12 q => ?_)
          obtain ⟨rfl, h⟩ := q
          refine zr_icmp_eq (tgt := 71) X dX10_shift_65 (by decide) (fun q => ?_) (fun q => ?_)
          · rw [if_pos q] at h
            refine zr_aload_n X dX10_shift_71 0 rfl ?_
            refine zr_getR X dX10_shift_72 zd_X10_88 rfl zo_0 zl_0_13 ?_
            refine zr_iload_n X dX10_shift_75 1 rfl ?_
            refine zr_iload_n X dX10_shift_76 2 rfl ?_
            refine zr_iload X dX10_shift_77 5 rfl ?_
            refine zr_callV_i (As := [.int p1, .int p2, .int p5]) (st := []) (d := d - 1) X dX10_shift_79 wm_X10_361 my_X6_hasRun mv_X6_hasRun zo_64 rfl (Nat.le_of_ble_eq_true rfl) (zRm (by omega)) ⟨Nat.le_refl _, Nat.le_refl _⟩ (x_fTa_hasRun hG (d - 1) (by omega) p1 p2 p5 m _ (zw_b12 h)) (fun r13 m14 q => ?_)
            obtain ⟨rfl, h⟩ := q
            refine zr_if_eq (tgt := 100) X dX10_shift_82 (by decide) (fun q => ?_) (fun q => ?_)
            · rw [if_pos q] at h
              refine zr_bipush (v := (-13)) X dX10_shift_100 (by decide) ?_
              exact zr_iret X dX10_shift_102 rfl ⟨Nat.le_refl _, Nat.le_refl _⟩ ⟨rfl, _, rfl, h⟩
            · rw [if_neg q] at h
              refine zr_aload_n X dX10_shift_85 0 rfl ?_
              refine zr_getR X dX10_shift_86 zd_X10_88 rfl zo_0 zl_0_13 ?_
              refine zr_iload_n X dX10_shift_89 3 rfl ?_
              refine zr_iload X dX10_shift_90 4 rfl ?_
              refine zr_iload X dX10_shift_92 5 rfl ?_
              refine zr_callV_i (As := [.int p3, .int p4, .int p5]) (st := []) (d := d - 1) X dX10_shift_94 wm_X10_361 my_X6_hasRun mv_X6_hasRun zo_64 rfl (Nat.le_of_ble_eq_true rfl) (zRm (by omega)) ⟨Nat.le_refl _, Nat.le_refl _⟩ (x_fTa_hasRun hG (d - 1) (by omega) p3 p4 p5 m _ (zw_b12 h)) (fun r15 m16 q => ?_)
              obtain ⟨rfl, h⟩ := q
              refine zr_if_ne (tgt := 103) X dX10_shift_97 (by decide) (fun q => ?_) (fun q => ?_)
              · rw [if_neg q] at h
                refine zr_aload_n X dX10_shift_103 0 rfl ?_
                refine zr_getR X dX10_shift_104 zd_X10_88 rfl zo_0 zl_0_13 ?_
                refine zr_iload_n X dX10_shift_107 1 rfl ?_
                refine zr_iload_n X dX10_shift_108 2 rfl ?_
                refine zr_iload_n X dX10_shift_109 3 rfl ?_
                refine zr_iload X dX10_shift_110 4 rfl ?_
                refine zr_iload X dX10_shift_112 5 rfl ?_
                refine zr_callV_v (As := [.int p1, .int p2, .int p3, .int p4, .int p5]) (st := []) (d := d - 1) X dX10_shift_114 wm_X10_365 my_X6_move mv_X6_move zo_64 rfl (Nat.le_of_ble_eq_true rfl) (zRm (by omega)) ⟨Nat.le_refl _, Nat.le_refl _⟩ (x_fTa_move hG (d - 1) (by omega) p1 p2 p3 p4 p5 m _ (zw_b12 h)) (fun m17 q => ?_)
                replace h := q
                refine zr_iload X dX10_shift_117 5 rfl ?_
                exact zr_iret X dX10_shift_119 rfl ⟨Nat.le_refl _, Nat.le_refl _⟩ ⟨rfl, _, rfl, h⟩
              · rw [if_pos q] at h
                refine zr_bipush (v := (-13)) X dX10_shift_100 (by decide) ?_
                exact zr_iret X dX10_shift_102 rfl ⟨Nat.le_refl _, Nat.le_refl _⟩ ⟨rfl, _, rfl, h⟩
          · rw [if_neg q] at h
            refine zr_bipush (v := (-12)) X dX10_shift_68 (by decide) ?_
            exact zr_iret X dX10_shift_70 rfl ⟨Nat.le_refl _, Nat.le_refl _⟩ ⟨rfl, _, rfl, h⟩
        · rw [if_neg q] at h
          refine zr_bipush (v := (-11)) X dX10_shift_46 (by decide) ?_
          exact zr_iret X dX10_shift_48 rfl ⟨Nat.le_refl _, Nat.le_refl _⟩ ⟨rfl, _, rfl, h⟩
    · rw [if_pos q] at h
      refine zr_iconst (v := (-1)) X dX10_shift_22 (by decide) ?_
      exact zr_iret X dX10_shift_23 rfl ⟨Nat.le_refl _, Nat.le_refl _⟩ ⟨rfl, _, rfl, h⟩

