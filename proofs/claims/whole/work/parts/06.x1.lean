set_option maxRecDepth 100000 in
set_option maxHeartbeats 4000000 in
theorem x_fYa_all {l : Launch} {S : State} {D : va_G} {cA : Nat → ClassId} {tb sx : Nat → Nat} (hG : zv_G S D cA tb sx) (d : Nat) (hd : 2 ≤ d) (o : Nat) (ho : zcl o 8) (m : zv_M) (P : Int32 → Prop) (h : zw (fYa_all o m) P) : zv_Met l S D cA d 0 0 yX8_all cX8_all 1 (some .int) [.ref (S.heap.size + o)] SH0 m (zq_i SH0 (fun v m' => m = m' ∧ P v)) := by
  refine zv_met false hG pf_X8_all (fun z => by cases z) (Nat.le_of_ble_eq_true rfl) [(0, .ref (S.heap.size + o))] rfl (fun p e s mi args below meth c X => ?_)
  rw [fYa_all] at h
  refine zr_aload_n X dX8_all_0 0 rfl ?_
  refine zr_getI X dX8_all_1 zd_X8_9 rfl ho (by rw [zk_8 ho]; decide) ?_
  refine zr_callSN_i (As := [.int (m.1 o 0)]) (st := []) (d := d - 1) X dX8_all_4 wm_X8_33 ws_X10_allSquares my_X10_allSquares rfl (Nat.le_of_ble_eq_true rfl) (zRm (by omega)) ⟨Nat.le_refl _, Nat.le_refl _⟩ (x_fN_allSquares hG (d - 1) (by omega) (m.1 o 0) m _ (zw_b1 h)) (fun r1 m2 q => ?_)
  obtain ⟨rfl, h⟩ := q
  exact zr_iret X dX8_all_7 rfl ⟨Nat.le_refl _, Nat.le_refl _⟩ ⟨rfl, _, rfl, rfl, h⟩

set_option maxRecDepth 100000 in
set_option maxHeartbeats 4000000 in
theorem x_fYa_free {l : Launch} {S : State} {D : va_G} {cA : Nat → ClassId} {tb sx : Nat → Nat} (hG : zv_G S D cA tb sx) (d : Nat) (hd : 3 ≤ d) (o : Nat) (ho : zcl o 8) (m : zv_M) (P : Int32 → Prop) (h : zw (fYa_free o m) P) : zv_Met l S D cA d 0 0 yX8_free cX8_free 1 (some .int) [.ref (S.heap.size + o)] SH0 m (zq_i SH0 (fun v m' => m = m' ∧ P v)) := by
  refine zv_met false hG pf_X8_free (fun z => by cases z) (Nat.le_of_ble_eq_true rfl) [(0, .ref (S.heap.size + o))] rfl (fun p e s mi args below meth c X => ?_)
  rw [fYa_free] at h
  refine zr_aload_n X dX8_free_0 0 rfl ?_
  refine zr_callV_i (As := []) (st := []) (d := d - 1) X dX8_free_1 wm_X8_37 my_X8_all mv_X8_all ho rfl (Nat.le_of_ble_eq_true rfl) (zRm (by omega)) ⟨Nat.le_refl _, Nat.le_refl _⟩ (x_fYa_all hG (d - 1) (by omega) o ho m _ (zw_b1 h)) (fun r1 m2 q => ?_)
  obtain ⟨rfl, h⟩ := q
  refine zr_aload_n X dX8_free_4 0 rfl ?_
  refine zr_getI X dX8_free_5 zd_X8_22 rfl ho (by rw [zk_8 ho]; decide) ?_
  refine zr_iconst (v := (-1)) X dX8_free_8 (by decide) ?_
  refine zr_ixor X dX8_free_9 ?_
  refine zr_iand X dX8_free_10 ?_
  exact zr_iret X dX8_free_11 rfl ⟨Nat.le_refl _, Nat.le_refl _⟩ ⟨rfl, _, rfl, rfl, h⟩

set_option maxRecDepth 100000 in
set_option maxHeartbeats 4000000 in
theorem x_fYa_spread {l : Launch} {S : State} {D : va_G} {cA : Nat → ClassId} {tb sx : Nat → Nat} (hG : zv_G S D cA tb sx) (d : Nat) (hd : 4 ≤ d) (o : Nat) (ho : zcl o 8) (p1 : Int32) (m : zv_M) (P : Int32 → Prop) (h : zw (fYa_spread o p1 m) P) : zv_Met l S D cA d 0 0 yX8_spread cX8_spread 6 (some .int) [.ref (S.heap.size + o), .int p1] SH0 m (zq_i SH0 (fun v m' => m = m' ∧ P v)) := by
  refine zv_met false hG pf_X8_spread (fun z => by cases z) (Nat.le_of_ble_eq_true rfl) [(0, .ref (S.heap.size + o)), (1, .int p1)] rfl (fun p e s mi args below meth c X => ?_)
  rw [fYa_spread] at h
  refine zr_iconst (v := 0) X dX8_spread_0 (by decide) ?_
  refine zr_istore_n (lo' := [(2, .int 0), (0, .ref (S.heap.size + o)), (1, .int p1)]) X dX8_spread_1 (by decide) rfl ?_
  refine zr_iconst (v := 0) X dX8_spread_2 (by decide) ?_
  refine zr_istore_n (lo' := [(3, .int 0), (2, .int 0), (0, .ref (S.heap.size + o)), (1, .int p1)]) X dX8_spread_3 (by decide) rfl ?_
  refine zr_sub [2, 3, 1, 0] rfl ?_
  have hR1 : ∀ (a4 : Int32), zw (zlet (((p1 &&& ((a4 <<< (((m.1 o 0) - 1) &&& 31)) ^^^ (-1))) <<< (1 &&& 31)) ||| ((p1 &&& (a4 ^^^ (-1))) >>> (1 &&& 31))) (fun a5 => zb1 (fYa_free o m) (fun r6 => some (p1 ||| ((a5 ||| ((p1 <<< ((m.1 o 0) &&& 31)) ||| (p1 >>> ((m.1 o 0) &&& 31)))) &&& r6)))) : Option (Int32)) P → zv_V S D cA p l e (zv_rm d 0 0) s mi args below meth c 6 (MQ below (zv_Q S D cA (zq_i SH0 (fun v m' => m = m' ∧ P v))) args s 0 0 (zv_fr S)) 0 0 29 [(0, .ref (S.heap.size + o)), (1, .int p1), (2, .int a4)] [] SH0 m := by
    intro a4 h
    refine zr_iload_n X dX8_spread_29 2 rfl ?_
    refine zr_aload_n X dX8_spread_30 0 rfl ?_
    refine zr_getI X dX8_spread_31 zd_X8_9 rfl ho (by rw [zk_8 ho]; decide) ?_
    refine zr_iconst (v := 1) X dX8_spread_34 (by decide) ?_
    refine zr_isub X dX8_spread_35 ?_
    refine zr_ishl X dX8_spread_36 ?_
    refine zr_istore_n (lo' := [(3, .int (a4 <<< (((m.1 o 0) - 1) &&& 31))), (0, .ref (S.heap.size + o)), (1, .int p1), (2, .int a4)]) X dX8_spread_37 (by decide) rfl ?_
    refine zr_iload_n X dX8_spread_38 2 rfl ?_
    refine zr_iload_n X dX8_spread_39 0 rfl ?_
    refine zr_iconst (v := (-1)) X dX8_spread_40 (by decide) ?_
    refine zr_ixor X dX8_spread_41 ?_
    refine zr_iand X dX8_spread_42 ?_
    refine zr_iconst (v := 1) X dX8_spread_43 (by decide) ?_
    refine zr_ishl X dX8_spread_44 ?_
    refine zr_iload_n X dX8_spread_45 2 rfl ?_
    refine zr_iload_n X dX8_spread_46 3 rfl ?_
    refine zr_iconst (v := (-1)) X dX8_spread_47 (by decide) ?_
    refine zr_ixor X dX8_spread_48 ?_
    refine zr_iand X dX8_spread_49 ?_
    refine zr_iconst (v := 1) X dX8_spread_50 (by decide) ?_
    refine zr_ishr X dX8_spread_51 ?_
    refine zr_ior X dX8_spread_52 ?_
    refine zr_topi (fun a5 ea5 => ?_)
    rw [zlet, ← ea5] at h
    refine zr_istore (lo' := [(4, .int a5), (3, .int (a4 <<< (((m.1 o 0) - 1) &&& 31))), (0, .ref (S.heap.size + o)), (1, .int p1), (2, .int a4)]) X dX8_spread_53 (by decide) rfl ?_
    refine zr_iload_n X dX8_spread_55 3 rfl ?_
    refine zr_aload_n X dX8_spread_56 2 rfl ?_
    refine zr_getI X dX8_spread_57 zd_X8_9 rfl ho (by rw [zk_8 ho]; decide) ?_
    refine zr_ishl X dX8_spread_60 ?_
    refine zr_iload_n X dX8_spread_61 3 rfl ?_
    refine zr_aload_n X dX8_spread_62 2 rfl ?_
    refine zr_getI X dX8_spread_63 zd_X8_9 rfl ho (by rw [zk_8 ho]; decide) ?_
    refine zr_ishr X dX8_spread_66 ?_
    refine zr_ior X dX8_spread_67 ?_
    refine zr_istore (lo' := [(5, .int ((p1 <<< ((m.1 o 0) &&& 31)) ||| (p1 >>> ((m.1 o 0) &&& 31)))), (4, .int a5), (3, .int (a4 <<< (((m.1 o 0) - 1) &&& 31))), (0, .ref (S.heap.size + o)), (1, .int p1), (2, .int a4)]) X dX8_spread_68 (by decide) rfl ?_
    refine zr_iload_n X dX8_spread_70 4 rfl ?_
    refine zr_iload X dX8_spread_71 1 rfl ?_
    refine zr_iload X dX8_spread_73 0 rfl ?_
    refine zr_ior X dX8_spread_75 ?_
    refine zr_aload_n X dX8_spread_76 3 rfl ?_
    refine zr_callV_i (As := []) (st := [.int (a5 ||| ((p1 <<< ((m.1 o 0) &&& 31)) ||| (p1 >>> ((m.1 o 0) &&& 31)))), .int p1]) (d := d - 1) X dX8_spread_77 wm_X8_75 my_X8_free mv_X8_free ho rfl (Nat.le_of_ble_eq_true rfl) (zRm (by omega)) ⟨Nat.le_refl _, Nat.le_refl _⟩ (x_fYa_free hG (d - 1) (by omega) o ho m _ (zw_b1 h)) (fun r6 m7 q => ?_)
    obtain ⟨rfl, h⟩ := q
    refine zr_iand X dX8_spread_80 ?_
    refine zr_ior X dX8_spread_81 ?_
    exact zr_iret X dX8_spread_82 rfl ⟨Nat.le_refl _, Nat.le_refl _⟩ ⟨rfl, _, rfl, rfl, h⟩
  refine zl_w2 (fun a2 a3 => zv_V S D cA p l e (zv_rm d 0 0) s mi args below meth c 6 (MQ below (zv_Q S D cA (zq_i SH0 (fun v m' => m = m' ∧ P v))) args s 0 0 (zv_fr S)) 0 0 4 [(0, .ref (S.heap.size + o)), (1, .int p1), (2, .int a2), (3, .int a3)] [] SH0 m) (fYa_spread_l4 o m) _ (fun P1 hl1 hr1 a2 a3 h => ?_) zFU 0 0 (zw_b1 h)
  rw [fYa_spread_l4] at h
  refine zr_iload_n X dX8_spread_4 3 rfl ?_
  refine zr_aload_n X dX8_spread_5 0 rfl ?_
  refine zr_getI X dX8_spread_6 zd_X8_9 rfl ho (by rw [zk_8 ho]; decide) ?_
  refine zr_icmp_ge (tgt := 29) X dX8_spread_9 (by decide) (fun q => ?_) (fun q => ?_)
  · rw [if_neg q] at h
    have h := hr1 _ h
    exact zr_sub [0, 1, 2] rfl (hR1 a2 h)
  · rw [if_pos q] at h
    refine zr_iload_n X dX8_spread_12 2 rfl ?_
    refine zr_iconst (v := 1) X dX8_spread_13 (by decide) ?_
    refine zr_iload_n X dX8_spread_14 3 rfl ?_
    refine zr_aload_n X dX8_spread_15 0 rfl ?_
    refine zr_getI X dX8_spread_16 zd_X8_9 rfl ho (by rw [zk_8 ho]; decide) ?_
    refine zr_imul X dX8_spread_19 ?_
    refine zr_ishl X dX8_spread_20 ?_
    refine zr_ior X dX8_spread_21 ?_
    refine zr_istore_n (lo' := [(2, .int (a2 ||| (1 <<< ((a3 * (m.1 o 0)) &&& 31)))), (0, .ref (S.heap.size + o)), (1, .int p1), (3, .int a3)]) X dX8_spread_22 (by decide) rfl ?_
    refine zr_iinc (v := a3 + 1) (lo' := [(3, .int (a3 + 1)), (2, .int (a2 ||| (1 <<< ((a3 * (m.1 o 0)) &&& 31)))), (0, .ref (S.heap.size + o)), (1, .int p1)]) X dX8_spread_23 3 rfl rfl (by decide) rfl ?_
    refine zr_goto (tgt := 4) X dX8_spread_26 (by decide) ?_
    have h := hl1 _ h
    exact zr_sub [2, 3, 1, 0] rfl h

set_option maxRecDepth 100000 in
set_option maxHeartbeats 4000000 in
theorem x_fWa_measure {l : Launch} {S : State} {D : va_G} {cA : Nat → ClassId} {tb sx : Nat → Nat} (hG : zv_G S D cA tb sx) (d : Nat) (hd : 5 ≤ d) (p1 : Nat) (hp1 : zcl p1 8) (p2 : Int32) (m : zv_M) (P : zv_M → Prop) (h : zw (fWa_measure p1 p2 m) P) : zv_Met l S D cA d 0 0 yX7_measure cX7_measure 6 none [.ref (S.heap.size + 58), .ref (S.heap.size + p1), .int p2] SH0 m (zq_v SH0 P) := by
  refine zv_met false hG pf_X7_measure (fun z => by cases z) (Nat.le_of_ble_eq_true rfl) [(0, .ref (S.heap.size + 58)), (1, .ref (S.heap.size + p1)), (2, .int p2)] rfl (fun p e s mi args below meth c X => ?_)
  rw [fWa_measure] at h
  refine zr_aload_n X dX7_measure_0 0 rfl ?_
  refine zr_getR X dX7_measure_1 zd_X7_9 rfl zo_58 zl_58_0 ?_
  refine zr_ldc X dX7_measure_4 wc_X7_18 ?_
  refine zr_callS_v (As := [.ref (S.heap.size + 59), .int 1000000]) (st := []) (d := d - 1) X dX7_measure_6 wm_X7_19 ws_J7_fill_53178 my_J7_fill_53178 rfl (Nat.le_of_ble_eq_true rfl) (zRm (by omega)) ⟨Nat.le_refl _, Nat.le_refl _⟩ (x_fJ_fill hG (d - 1) (by omega) 59 za_59 1000000 m _ (zw_b1 h)) (fun m1 q => ?_)
  replace h := q
  refine zr_iconst (v := 1) X dX7_measure_9 (by decide) ?_
  refine zr_iload_n X dX7_measure_10 2 rfl ?_
  refine zr_ishl X dX7_measure_11 ?_
  refine zr_istore_n (lo' := [(3, .int (1 <<< (p2 &&& 31))), (0, .ref (S.heap.size + 58)), (1, .ref (S.heap.size + p1)), (2, .int p2)]) X dX7_measure_12 (by decide) rfl ?_
  refine zr_iconst (v := 0) X dX7_measure_13 (by decide) ?_
  refine zr_istore (lo' := [(4, .int 0), (3, .int (1 <<< (p2 &&& 31))), (0, .ref (S.heap.size + 58)), (1, .ref (S.heap.size + p1)), (2, .int p2)]) X dX7_measure_14 (by decide) rfl ?_
  refine zr_sub [2, 3, 1, 0] rfl ?_
  refine zl_w3 (fun a3 a4 m5 => zv_V S D cA p l e (zv_rm d 0 0) s mi args below meth c 6 (MQ below (zv_Q S D cA (zq_v SH0 P)) args s 0 0 (zv_fr S)) 0 0 16 [(0, .ref (S.heap.size + 58)), (1, .ref (S.heap.size + p1)), (3, .int a3), (4, .int a4)] [] SH0 m5) (fWa_measure_l16 p1) _ (fun P2 hl2 hr2 a3 a4 m5 h => ?_) zFU (1 <<< (p2 &&& 31)) 0 m1 (zw_b1 h)
  rw [fWa_measure_l16] at h
  refine zr_iload X dX7_measure_16 3 rfl ?_
  refine zr_bipush (v := 25) X dX7_measure_18 (by decide) ?_
  refine zr_icmp_ge (tgt := 84) X dX7_measure_20 (by decide) (fun q => ?_) (fun q => ?_)
  · rw [if_neg q] at h
    have h := hr2 _ h
    exact zr_vret X dX7_measure_84 ⟨Nat.le_refl _, Nat.le_refl _⟩ ⟨rfl, rfl, h⟩
  · rw [if_pos q] at h
    refine zr_iconst (v := 0) X dX7_measure_23 (by decide) ?_
    refine zr_istore (lo' := [(5, .int 0), (0, .ref (S.heap.size + 58)), (1, .ref (S.heap.size + p1)), (3, .int a3), (4, .int a4)]) X dX7_measure_24 (by decide) rfl ?_
    refine zr_sub [1, 2, 3, 4, 0] rfl ?_
    have hR6 : ∀ (m9 : zv_M), zw (zb1 (fYa_spread p1 a3 m9) (fun r10 => some (.inl (r10, a4 + 1, m9))) : Option ((Int32 × Int32 × zv_M) ⊕ (zv_M))) P2 → zv_V S D cA p l e (zv_rm d 0 0) s mi args below meth c 6 (MQ below (zv_Q S D cA (zq_v SH0 P)) args s 0 0 (zv_fr S)) 0 0 72 [(0, .ref (S.heap.size + 58)), (1, .ref (S.heap.size + p1)), (3, .int a3), (4, .int a4)] [] SH0 m9 := by
      intro m9 h
      refine zr_aload_n X dX7_measure_72 1 rfl ?_
      refine zr_iload_n X dX7_measure_73 2 rfl ?_
      refine zr_callV_i (As := [.int a3]) (st := []) (d := d - 1) X dX7_measure_74 wm_X7_43 my_X8_spread mv_X8_spread hp1 rfl (Nat.le_of_ble_eq_true rfl) (zRm (by omega)) ⟨Nat.le_refl _, Nat.le_refl _⟩ (x_fYa_spread hG (d - 1) (by omega) p1 hp1 a3 m9 _ (zw_b1 h)) (fun r10 m11 q => ?_)
      obtain ⟨rfl, h⟩ := q
      refine zr_istore_n (lo' := [(3, .int r10), (0, .ref (S.heap.size + 58)), (1, .ref (S.heap.size + p1)), (4, .int a4)]) X dX7_measure_77 (by decide) rfl ?_
      refine zr_iinc (v := a4 + 1) (lo' := [(4, .int (a4 + 1)), (3, .int r10), (0, .ref (S.heap.size + 58)), (1, .ref (S.heap.size + p1))]) X dX7_measure_78 3 rfl rfl (by decide) rfl ?_
      refine zr_goto (tgt := 16) X dX7_measure_81 (by decide) ?_
      have h := hl2 _ h
      exact zr_sub [2, 3, 1, 0] rfl h
    refine zl_w2 (fun a7 m8 => zv_V S D cA p l e (zv_rm d 0 0) s mi args below meth c 6 (MQ below (zv_Q S D cA (zq_v SH0 P)) args s 0 0 (zv_fr S)) 0 0 26 [(0, .ref (S.heap.size + 58)), (1, .ref (S.heap.size + p1)), (3, .int a3), (4, .int a4), (5, .int a7)] [] SH0 m8) (fWa_measure_l26 a3 a4) _ (fun P6 hl6 hr6 a7 m8 h => ?_) zFU 0 m5 (zw_b1 h)
    rw [fWa_measure_l26] at h
    refine zr_iload X dX7_measure_26 4 rfl ?_
    refine zr_aload_n X dX7_measure_28 0 rfl ?_
    refine zr_getR X dX7_measure_29 zd_X7_9 rfl zo_58 zl_58_0 ?_
    refine zr_alen (v := 25) X dX7_measure_32 za_59 (by decide) rfl ?_
    refine zr_icmp_ge (tgt := 72) X dX7_measure_33 (by decide) (fun q => ?_) (fun q => ?_)
    · rw [if_neg q] at h
      have h := hr6 _ h
      exact zr_sub [0, 1, 2, 3] rfl (hR6 m8 h)
    · rw [if_pos q] at h
      refine zr_iload_n X dX7_measure_36 2 rfl ?_
      refine zr_iload X dX7_measure_37 4 rfl ?_
      refine zr_callSN_i (As := [.int a3, .int a7]) (st := []) (d := d - 1) X dX7_measure_39 wm_X7_25 ws_X10_isIn my_X10_isIn rfl (Nat.le_of_ble_eq_true rfl) (zRm (by omega)) ⟨Nat.le_refl _, Nat.le_refl _⟩ (x_fN_isIn hG (d - 1) (by omega) a3 a7 m8 _ (zw_b1 h)) (fun r12 m13 q => ?_)
      obtain ⟨rfl, h⟩ := q
      have hJ66 : ∀ (m14 : zv_M), zw (fWa_measure_j66 a7 m14) P6 → zv_V S D cA p l e (zv_rm d 0 0) s mi args below meth c 6 (MQ below (zv_Q S D cA (zq_v SH0 P)) args s 0 0 (zv_fr S)) 0 0 66 [(0, .ref (S.heap.size + 58)), (1, .ref (S.heap.size + p1)), (3, .int a3), (4, .int a4), (5, .int a7)] [] SH0 m14 := by
        intro m14 h
        rw [fWa_measure_j66] at h
        refine zr_iinc (v := a7 + 1) (lo' := [(5, .int (a7 + 1)), (0, .ref (S.heap.size + 58)), (1, .ref (S.heap.size + p1)), (3, .int a3), (4, .int a4)]) X dX7_measure_66 4 rfl rfl (by decide) rfl ?_
        refine zr_goto (tgt := 26) X dX7_measure_69 (by decide) ?_
        have h := hl6 _ h
        exact zr_sub [1, 2, 3, 4, 0] rfl h
      refine zr_if_eq (tgt := 66) X dX7_measure_42 (by decide) (fun q => ?_) (fun q => ?_)
      · rw [if_pos q] at h
        exact zr_sub [0, 1, 2, 3, 4] rfl (hJ66 m8 h)
      · rw [if_neg q] at h
        refine zr_aload_n X dX7_measure_45 0 rfl ?_
        refine zr_getR X dX7_measure_46 zd_X7_9 rfl zo_58 zl_58_0 ?_
        refine zr_iload X dX7_measure_49 4 rfl ?_
        obtain ⟨g0, h⟩ := zg_e h
        refine zr_iald X dX7_measure_51 za_59 (zI_in g0) ?_
        refine zr_ldc X dX7_measure_52 wc_X7_18 ?_
        refine zr_icmp_ne (tgt := 66) X dX7_measure_54 (by decide) (fun q => ?_) (fun q => ?_)
        · rw [if_neg q] at h
          exact zr_sub [0, 1, 2, 3, 4] rfl (hJ66 m8 h)
        · rw [if_pos q] at h
          refine zr_aload_n X dX7_measure_57 0 rfl ?_
          refine zr_getR X dX7_measure_58 zd_X7_9 rfl zo_58 zl_58_0 ?_
          refine zr_iload X dX7_measure_61 4 rfl ?_
          refine zr_iload X dX7_measure_63 3 rfl ?_
          obtain ⟨g0, h⟩ := zg_e h
          refine zr_iast X dX7_measure_65 za_59 (zI_in g0) ?_
          exact zr_sub [0, 1, 2, 3, 4] rfl (hJ66 (wI m8 59 a7.toNatClampNeg a4) h)

set_option maxRecDepth 100000 in
set_option maxHeartbeats 4000000 in
theorem x_fWa_bringOne {l : Launch} {S : State} {D : va_G} {cA : Nat → ClassId} {tb sx : Nat → Nat} (hG : zv_G S D cA tb sx) (d : Nat) (hd : 2 ≤ d) (p1 : Int32) (p2 : Nat) (hp2 : zcl p2 2) (m : zv_M) (P : zv_M → Prop) (h : zw (fWa_bringOne p1 p2 m) P) : zv_Met l S D cA d 0 0 yX7_bringOne cX7_bringOne 6 none [.ref (S.heap.size + 58), .int p1, .ref (S.heap.size + p2)] SH0 m (zq_v SH0 P) := by
  refine zv_met false hG pf_X7_bringOne (fun z => by cases z) (Nat.le_of_ble_eq_true rfl) [(0, .ref (S.heap.size + 58)), (1, .int p1), (2, .ref (S.heap.size + p2))] rfl (fun p e s mi args below meth c X => ?_)
  rw [fWa_bringOne] at h
  refine zr_iconst (v := 0) X dX7_bringOne_0 (by decide) ?_
  refine zr_istore_n (lo' := [(3, .int 0), (0, .ref (S.heap.size + 58)), (1, .int p1), (2, .ref (S.heap.size + p2))]) X dX7_bringOne_1 (by decide) rfl ?_
  refine zr_sub [1, 2, 3, 0] rfl ?_
  refine zl_w2 (fun a2 m3 => zv_V S D cA p l e (zv_rm d 0 0) s mi args below meth c 6 (MQ below (zv_Q S D cA (zq_v SH0 P)) args s 0 0 (zv_fr S)) 0 0 2 [(0, .ref (S.heap.size + 58)), (1, .int p1), (2, .ref (S.heap.size + p2)), (3, .int a2)] [] SH0 m3) (fWa_bringOne_l2 p1 p2) _ (fun P1 hl1 hr1 a2 m3 h => ?_) zFU 0 m (zw_b1 h)
  rw [fWa_bringOne_l2] at h
  refine zr_iload_n X dX7_bringOne_2 3 rfl ?_
  refine zr_aload_n X dX7_bringOne_3 2 rfl ?_
  refine zr_getI X dX7_bringOne_4 zd_X7_37 rfl hp2 (by rw [zk_2 hp2]; decide) ?_
  refine zr_icmp_ge (tgt := 92) X dX7_bringOne_7 (by decide) (fun q => ?_) (fun q => ?_)
  · rw [if_neg q] at h
    have h := hr1 _ h
    exact zr_vret X dX7_bringOne_92 ⟨Nat.le_refl _, Nat.le_refl _⟩ ⟨rfl, rfl, h⟩
  · rw [if_pos q] at h
    refine zr_aload_n X dX7_bringOne_10 2 rfl ?_
    refine zr_iload_n X dX7_bringOne_11 3 rfl ?_
    refine zr_callV_i (As := [.int a2]) (st := []) (d := d - 1) X dX7_bringOne_12 wm_X7_57 my_X2_get mv_X2_get hp2 rfl (Nat.le_of_ble_eq_true rfl) (zRm (by omega)) ⟨Nat.le_refl _, Nat.le_refl _⟩ (x_fPi_get hG (d - 1) (by omega) p2 hp2 a2 m3 _ (zw_b1 h)) (fun r4 m5 q => ?_)
    obtain ⟨rfl, h⟩ := q
    refine zr_istore (lo' := [(4, .int r4), (0, .ref (S.heap.size + 58)), (1, .int p1), (2, .ref (S.heap.size + p2)), (3, .int a2)]) X dX7_bringOne_15 (by decide) rfl ?_
    refine zr_iload_n X dX7_bringOne_17 2 rfl ?_
    refine zr_iconst (v := 1) X dX7_bringOne_18 (by decide) ?_
    refine zr_iload_n X dX7_bringOne_19 4 rfl ?_
    refine zr_ishl X dX7_bringOne_20 ?_
    refine zr_ior X dX7_bringOne_21 ?_
    refine zr_istore (lo' := [(5, .int (p1 ||| (1 <<< (a2 &&& 31)))), (4, .int r4), (0, .ref (S.heap.size + 58)), (1, .int p1), (2, .ref (S.heap.size + p2)), (3, .int a2)]) X dX7_bringOne_22 (by decide) rfl ?_
    refine zr_iload X dX7_bringOne_24 0 rfl ?_
    refine zr_iload_n X dX7_bringOne_26 3 rfl ?_
    have hJ86 : ∀ (m6 : zv_M), zw (fWa_bringOne_j86 a2 m6) P1 → zv_V S D cA p l e (zv_rm d 0 0) s mi args below meth c 6 (MQ below (zv_Q S D cA (zq_v SH0 P)) args s 0 0 (zv_fr S)) 0 0 86 [(0, .ref (S.heap.size + 58)), (1, .int p1), (2, .ref (S.heap.size + p2)), (3, .int a2)] [] SH0 m6 := by
      intro m6 h
      rw [fWa_bringOne_j86] at h
      refine zr_iinc (v := a2 + 1) (lo' := [(3, .int (a2 + 1)), (0, .ref (S.heap.size + 58)), (1, .int p1), (2, .ref (S.heap.size + p2))]) X dX7_bringOne_86 3 rfl rfl (by decide) rfl ?_
      refine zr_goto (tgt := 2) X dX7_bringOne_89 (by decide) ?_
      have h := hl1 _ h
      exact zr_sub [1, 2, 3, 0] rfl h
    refine zr_icmp_eq (tgt := 86) X dX7_bringOne_27 (by decide) (fun q => ?_) (fun q => ?_)
    · rw [if_pos q] at h
      exact zr_sub [2, 3, 4, 5] rfl (hJ86 m3 h)
    · rw [if_neg q] at h
      refine zr_iload X dX7_bringOne_30 0 rfl ?_
      refine zr_aload_n X dX7_bringOne_32 2 rfl ?_
      refine zr_getR X dX7_bringOne_33 zd_X7_15 rfl zo_58 zl_58_1 ?_
      refine zr_alen (v := 32) X dX7_bringOne_36 za_60 (by decide) rfl ?_
      refine zr_icmp_ge (tgt := 86) X dX7_bringOne_37 (by decide) (fun q => ?_) (fun q => ?_)
      · rw [if_neg q] at h
        exact zr_sub [2, 3, 4, 5] rfl (hJ86 m3 h)
      · rw [if_pos q] at h
        refine zr_iload X dX7_bringOne_40 1 rfl ?_
        refine zr_if_lt (tgt := 86) X dX7_bringOne_42 (by decide) (fun q => ?_) (fun q => ?_)
        · rw [if_pos q] at h
          exact zr_sub [2, 3, 4, 5] rfl (hJ86 m3 h)
        · rw [if_neg q] at h
          refine zr_iload X dX7_bringOne_45 1 rfl ?_
          refine zr_aload_n X dX7_bringOne_47 2 rfl ?_
          refine zr_getR X dX7_bringOne_48 zd_X7_9 rfl zo_58 zl_58_0 ?_
          refine zr_alen (v := 25) X dX7_bringOne_51 za_59 (by decide) rfl ?_
          refine zr_icmp_ge (tgt := 86) X dX7_bringOne_52 (by decide) (fun q => ?_) (fun q => ?_)
          · rw [if_neg q] at h
            exact zr_sub [2, 3, 4, 5] rfl (hJ86 m3 h)
          · rw [if_pos q] at h
            refine zr_aload_n X dX7_bringOne_55 2 rfl ?_
            refine zr_getR X dX7_bringOne_56 zd_X7_15 rfl zo_58 zl_58_1 ?_
            refine zr_iload X dX7_bringOne_59 0 rfl ?_
            refine zr_aload_n X dX7_bringOne_61 2 rfl ?_
            refine zr_getR X dX7_bringOne_62 zd_X7_15 rfl zo_58 zl_58_1 ?_
            refine zr_iload X dX7_bringOne_65 0 rfl ?_
            obtain ⟨g0, h⟩ := zg_e h
            refine zr_iald X dX7_bringOne_67 za_60 (zI_in g0) ?_
            refine zr_aload_n X dX7_bringOne_68 2 rfl ?_
            refine zr_getR X dX7_bringOne_69 zd_X7_15 rfl zo_58 zl_58_1 ?_
            refine zr_iload_n X dX7_bringOne_72 3 rfl ?_
            obtain ⟨g0, h⟩ := zg_e h
            refine zr_iald X dX7_bringOne_73 za_60 (zI_in g0) ?_
            refine zr_aload_n X dX7_bringOne_74 2 rfl ?_
            refine zr_getR X dX7_bringOne_75 zd_X7_9 rfl zo_58 zl_58_0 ?_
            refine zr_iload X dX7_bringOne_78 1 rfl ?_
            obtain ⟨g0, h⟩ := zg_e h
            refine zr_iald X dX7_bringOne_80 za_59 (zI_in g0) ?_
            refine zr_iadd X dX7_bringOne_81 ?_
            refine zr_callS_i (As := [.int (m3.1 60 (p1 ||| (1 <<< (a2 &&& 31))).toNatClampNeg), .int ((m3.1 60 p1.toNatClampNeg) + (m3.1 59 r4.toNatClampNeg))]) (st := [.int (p1 ||| (1 <<< (a2 &&& 31))), .ref (S.heap.size + 60)]) (d := d - 1) X dX7_bringOne_82 wm_X7_60 ws_J9_min_7cf53 my_J9_min_7cf53 rfl (Nat.le_of_ble_eq_true rfl) (zRm (by omega)) ⟨Nat.le_refl _, Nat.le_refl _⟩ (x_fJ_min hG (d - 1) (by omega) (m3.1 60 (p1 ||| (1 <<< (a2 &&& 31))).toNatClampNeg) ((m3.1 60 p1.toNatClampNeg) + (m3.1 59 r4.toNatClampNeg)) m3 _ (zw_b1 h)) (fun r7 m8 q => ?_)
            obtain ⟨rfl, h⟩ := q
            obtain ⟨g0, h⟩ := zg_e h
            refine zr_iast X dX7_bringOne_85 za_60 (zI_in g0) ?_
            exact zr_sub [2, 3, 4, 5] rfl (hJ86 (wI m3 60 (p1 ||| (1 <<< (a2 &&& 31))).toNatClampNeg r7) h)

set_option maxRecDepth 100000 in
set_option maxHeartbeats 4000000 in
theorem x_fWa_bring {l : Launch} {S : State} {D : va_G} {cA : Nat → ClassId} {tb sx : Nat → Nat} (hG : zv_G S D cA tb sx) (d : Nat) (hd : 3 ≤ d) (p1 : Int32) (p2 : Nat) (hp2 : zcl p2 2) (m : zv_M) (P : zv_M → Prop) (h : zw (fWa_bring p1 p2 m) P) : zv_Met l S D cA d 0 0 yX7_bring cX7_bring 4 none [.ref (S.heap.size + 58), .int p1, .ref (S.heap.size + p2)] SH0 m (zq_v SH0 P) := by
  refine zv_met false hG pf_X7_bring (fun z => by cases z) (Nat.le_of_ble_eq_true rfl) [(0, .ref (S.heap.size + 58)), (1, .int p1), (2, .ref (S.heap.size + p2))] rfl (fun p e s mi args below meth c X => ?_)
  rw [fWa_bring] at h
  refine zr_iconst (v := 0) X dX7_bring_0 (by decide) ?_
  refine zr_istore_n (lo' := [(3, .int 0), (0, .ref (S.heap.size + 58)), (1, .int p1), (2, .ref (S.heap.size + p2))]) X dX7_bring_1 (by decide) rfl ?_
  refine zr_sub [1, 2, 3, 0] rfl ?_
  refine zl_w2 (fun a2 m3 => zv_V S D cA p l e (zv_rm d 0 0) s mi args below meth c 4 (MQ below (zv_Q S D cA (zq_v SH0 P)) args s 0 0 (zv_fr S)) 0 0 2 [(0, .ref (S.heap.size + 58)), (1, .int p1), (2, .ref (S.heap.size + p2)), (3, .int a2)] [] SH0 m3) (fWa_bring_l2 p1 p2) _ (fun P1 hl1 hr1 a2 m3 h => ?_) zFU 0 m (zw_b1 h)
  rw [fWa_bring_l2] at h
  refine zr_iload_n X dX7_bring_2 3 rfl ?_
  refine zr_aload_n X dX7_bring_3 0 rfl ?_
  refine zr_getR X dX7_bring_4 zd_X7_15 rfl zo_58 zl_58_1 ?_
  refine zr_alen (v := 32) X dX7_bring_7 za_60 (by decide) rfl ?_
  refine zr_icmp_ge (tgt := 42) X dX7_bring_8 (by decide) (fun q => ?_) (fun q => ?_)
  · rw [if_neg q] at h
    have h := hr1 _ h
    exact zr_vret X dX7_bring_42 ⟨Nat.le_refl _, Nat.le_refl _⟩ ⟨rfl, rfl, h⟩
  · rw [if_pos q] at h
    refine zr_iload_n X dX7_bring_11 3 rfl ?_
    refine zr_callS_i (As := [.int a2]) (st := []) (d := d - 1) X dX7_bring_12 wm_X7_49 ws_J6_bitCount_0f7a4 my_J6_bitCount_0f7a4 rfl (Nat.le_of_ble_eq_true rfl) (zRm (by omega)) ⟨Nat.le_refl _, Nat.le_refl _⟩ (x_fJ_bitCount hG (d - 1) (by omega) a2 m3 _ (zw_b1 h)) (fun r4 m5 q => ?_)
    obtain ⟨rfl, h⟩ := q
    refine zr_iload_n X dX7_bring_15 1 rfl ?_
    have hJ36 : ∀ (m6 : zv_M), zw (fWa_bring_j36 a2 m6) P1 → zv_V S D cA p l e (zv_rm d 0 0) s mi args below meth c 4 (MQ below (zv_Q S D cA (zq_v SH0 P)) args s 0 0 (zv_fr S)) 0 0 36 [(0, .ref (S.heap.size + 58)), (1, .int p1), (2, .ref (S.heap.size + p2)), (3, .int a2)] [] SH0 m6 := by
      intro m6 h
      rw [fWa_bring_j36] at h
      refine zr_iinc (v := a2 + 1) (lo' := [(3, .int (a2 + 1)), (0, .ref (S.heap.size + 58)), (1, .int p1), (2, .ref (S.heap.size + p2))]) X dX7_bring_36 3 rfl rfl (by decide) rfl ?_
      refine zr_goto (tgt := 2) X dX7_bring_39 (by decide) ?_
      have h := hl1 _ h
      exact zr_sub [1, 2, 3, 0] rfl h
    refine zr_icmp_ne (tgt := 36) X dX7_bring_16 (by decide) (fun q => ?_) (fun q => ?_)
    · rw [if_neg q] at h
      exact zr_sub [0, 1, 2, 3] rfl (hJ36 m3 h)
    · rw [if_pos q] at h
      refine zr_aload_n X dX7_bring_19 0 rfl ?_
      refine zr_getR X dX7_bring_20 zd_X7_15 rfl zo_58 zl_58_1 ?_
      refine zr_iload_n X dX7_bring_23 3 rfl ?_
      obtain ⟨g0, h⟩ := zg_e h
      refine zr_iald X dX7_bring_24 za_60 (zI_in g0) ?_
      refine zr_ldc X dX7_bring_25 wc_X7_18 ?_
      refine zr_icmp_ge (tgt := 36) X dX7_bring_27 (by decide) (fun q => ?_) (fun q => ?_)
      · rw [if_neg q] at h
        exact zr_sub [0, 1, 2, 3] rfl (hJ36 m3 h)
      · rw [if_pos q] at h
        refine zr_aload_n X dX7_bring_30 0 rfl ?_
        refine zr_iload_n X dX7_bring_31 3 rfl ?_
        refine zr_aload_n X dX7_bring_32 2 rfl ?_
        refine zr_callV_v (As := [.int a2, .ref (S.heap.size + p2)]) (st := []) (d := d - 1) X dX7_bring_33 wm_X7_54 my_X7_bringOne mv_X7_bringOne zo_58 rfl (Nat.le_of_ble_eq_true rfl) (zRm (by omega)) ⟨Nat.le_refl _, Nat.le_refl _⟩ (x_fWa_bringOne hG (d - 1) (by omega) a2 p2 hp2 m3 _ (zw_b1 h)) (fun m7 q => ?_)
        replace h := q
        exact zr_sub [0, 1, 2, 3] rfl (hJ36 m7 h)

set_option maxRecDepth 100000 in
set_option maxHeartbeats 4000000 in
theorem x_fWa_fewestSteps {l : Launch} {S : State} {D : va_G} {cA : Nat → ClassId} {tb sx : Nat → Nat} (hG : zv_G S D cA tb sx) (d : Nat) (hd : 6 ≤ d) (p1 : Nat) (hp1 : zcl p1 8) (p2 : Int32) (p3 : Nat) (hp3 : zcl p3 2) (m : zv_M) (P : Int32 → zv_M → Prop) (h : zw2 (fWa_fewestSteps p1 p2 p3 m) P) : zv_Met l S D cA d 0 0 yX7_fewestSteps cX7_fewestSteps 6 (some .int) [.ref (S.heap.size + 58), .ref (S.heap.size + p1), .int p2, .ref (S.heap.size + p3)] SH0 m (zq_i SH0 P) := by
  refine zv_met false hG pf_X7_fewestSteps (fun z => by cases z) (Nat.le_of_ble_eq_true rfl) [(0, .ref (S.heap.size + 58)), (1, .ref (S.heap.size + p1)), (2, .int p2), (3, .ref (S.heap.size + p3))] rfl (fun p e s mi args below meth c X => ?_)
  rw [fWa_fewestSteps] at h
  refine zr_aload_n X dX7_fewestSteps_0 0 rfl ?_
  refine zr_getR X dX7_fewestSteps_1 zd_X7_15 rfl zo_58 zl_58_1 ?_
  refine zr_ldc X dX7_fewestSteps_4 wc_X7_18 ?_
  refine zr_callS_v (As := [.ref (S.heap.size + 60), .int 1000000]) (st := []) (d := d - 1) X dX7_fewestSteps_6 wm_X7_19 ws_J7_fill_53178 my_J7_fill_53178 rfl (Nat.le_of_ble_eq_true rfl) (zRm (by omega)) ⟨Nat.le_refl _, Nat.le_refl _⟩ (x_fJ_fill hG (d - 1) (by omega) 60 za_60 1000000 m _ (zw_b12 h)) (fun m1 q => ?_)
  replace h := q
  refine zr_aload_n X dX7_fewestSteps_9 0 rfl ?_
  refine zr_getR X dX7_fewestSteps_10 zd_X7_15 rfl zo_58 zl_58_1 ?_
  refine zr_iconst (v := 0) X dX7_fewestSteps_13 (by decide) ?_
  refine zr_iconst (v := 0) X dX7_fewestSteps_14 (by decide) ?_
  obtain ⟨g0, h⟩ := zg_e2 h
  refine zr_iast X dX7_fewestSteps_15 za_60 (zI_in g0) ?_
  refine zr_iconst (v := 0) X dX7_fewestSteps_16 (by decide) ?_
  refine zr_istore (lo' := [(4, .int 0), (0, .ref (S.heap.size + 58)), (1, .ref (S.heap.size + p1)), (2, .int p2), (3, .ref (S.heap.size + p3))]) X dX7_fewestSteps_17 (by decide) rfl ?_
  refine zr_iconst (v := 0) X dX7_fewestSteps_19 (by decide) ?_
  refine zr_istore (lo' := [(5, .int 0), (4, .int 0), (0, .ref (S.heap.size + 58)), (1, .ref (S.heap.size + p1)), (2, .int p2), (3, .ref (S.heap.size + p3))]) X dX7_fewestSteps_20 (by decide) rfl ?_
  refine zr_sub [2, 3, 4, 5, 1, 0] rfl ?_
  have hR2 : ∀ (m6 : zv_M), zw2 (if (1 <<< ((m6.1 p3 1) &&& 31)) - 1 < 0 then some ((-5), m6) else if (1 <<< ((m6.1 p3 1) &&& 31)) - 1 < 32 then zg (zI ((1 <<< ((m6.1 p3 1) &&& 31)) - 1) 32) (if m6.1 60 ((1 <<< ((m6.1 p3 1) &&& 31)) - 1).toNatClampNeg < 1000000 then zg (zI ((1 <<< ((m6.1 p3 1) &&& 31)) - 1) 32) (some (m6.1 60 ((1 <<< ((m6.1 p3 1) &&& 31)) - 1).toNatClampNeg, m6)) else some ((-5), m6)) else some ((-5), m6) : Option (Int32 × zv_M)) P → zv_V S D cA p l e (zv_rm d 0 0) s mi args below meth c 6 (MQ below (zv_Q S D cA (zq_i SH0 P)) args s 0 0 (zv_fr S)) 0 0 61 [(0, .ref (S.heap.size + 58)), (3, .ref (S.heap.size + p3))] [] SH0 m6 := by
    intro m6 h
    refine zr_iconst (v := 1) X dX7_fewestSteps_61 (by decide) ?_
    refine zr_aload_n X dX7_fewestSteps_62 1 rfl ?_
    refine zr_getI X dX7_fewestSteps_63 zd_X7_37 rfl hp3 (by rw [zk_2 hp3]; decide) ?_
    refine zr_ishl X dX7_fewestSteps_66 ?_
    refine zr_iconst (v := 1) X dX7_fewestSteps_67 (by decide) ?_
    refine zr_isub X dX7_fewestSteps_68 ?_
    refine zr_istore (lo' := [(5, .int ((1 <<< ((m6.1 p3 1) &&& 31)) - 1)), (0, .ref (S.heap.size + 58)), (3, .ref (S.heap.size + p3))]) X dX7_fewestSteps_69 (by decide) rfl ?_
    refine zr_iload X dX7_fewestSteps_71 0 rfl ?_
    refine zr_if_lt (tgt := 98) X dX7_fewestSteps_73 (by decide) (fun q => ?_) (fun q => ?_)
    · rw [if_pos q] at h
      refine zr_bipush (v := (-5)) X dX7_fewestSteps_98 (by decide) ?_
      exact zr_iret X dX7_fewestSteps_100 rfl ⟨Nat.le_refl _, Nat.le_refl _⟩ ⟨rfl, _, rfl, h⟩
    · rw [if_neg q] at h
      refine zr_iload X dX7_fewestSteps_76 0 rfl ?_
      refine zr_aload_n X dX7_fewestSteps_78 1 rfl ?_
      refine zr_getR X dX7_fewestSteps_79 zd_X7_15 rfl zo_58 zl_58_1 ?_
      refine zr_alen (v := 32) X dX7_fewestSteps_82 za_60 (by decide) rfl ?_
      refine zr_icmp_ge (tgt := 98) X dX7_fewestSteps_83 (by decide) (fun q => ?_) (fun q => ?_)
      · rw [if_neg q] at h
        refine zr_bipush (v := (-5)) X dX7_fewestSteps_98 (by decide) ?_
        exact zr_iret X dX7_fewestSteps_100 rfl ⟨Nat.le_refl _, Nat.le_refl _⟩ ⟨rfl, _, rfl, h⟩
      · rw [if_pos q] at h
        refine zr_aload_n X dX7_fewestSteps_86 1 rfl ?_
        refine zr_getR X dX7_fewestSteps_87 zd_X7_15 rfl zo_58 zl_58_1 ?_
        refine zr_iload X dX7_fewestSteps_90 0 rfl ?_
        obtain ⟨g0, h⟩ := zg_e2 h
        refine zr_iald X dX7_fewestSteps_92 za_60 (zI_in g0) ?_
        refine zr_ldc X dX7_fewestSteps_93 wc_X7_18 ?_
        refine zr_icmp_lt (tgt := 101) X dX7_fewestSteps_95 (by decide) (fun q => ?_) (fun q => ?_)
        · rw [if_pos q] at h
          refine zr_aload_n X dX7_fewestSteps_101 1 rfl ?_
          refine zr_getR X dX7_fewestSteps_102 zd_X7_15 rfl zo_58 zl_58_1 ?_
          refine zr_iload X dX7_fewestSteps_105 0 rfl ?_
          obtain ⟨g0, h⟩ := zg_e2 h
          refine zr_iald X dX7_fewestSteps_107 za_60 (zI_in g0) ?_
          exact zr_iret X dX7_fewestSteps_108 rfl ⟨Nat.le_refl _, Nat.le_refl _⟩ ⟨rfl, _, rfl, h⟩
        · rw [if_neg q] at h
          refine zr_bipush (v := (-5)) X dX7_fewestSteps_98 (by decide) ?_
          exact zr_iret X dX7_fewestSteps_100 rfl ⟨Nat.le_refl _, Nat.le_refl _⟩ ⟨rfl, _, rfl, h⟩
  refine zl_w3 (fun a3 a4 m5 => zv_V S D cA p l e (zv_rm d 0 0) s mi args below meth c 6 (MQ below (zv_Q S D cA (zq_i SH0 P)) args s 0 0 (zv_fr S)) 0 0 22 [(0, .ref (S.heap.size + 58)), (1, .ref (S.heap.size + p1)), (2, .int p2), (3, .ref (S.heap.size + p3)), (4, .int a3), (5, .int a4)] [] SH0 m5) (fWa_fewestSteps_l22 p1 p2 p3) _ (fun P2 hl2 hr2 a3 a4 m5 h => ?_) zFU 0 0 (wI m1 60 (0 : Int32).toNatClampNeg 0) (zw_b12 h)
  rw [fWa_fewestSteps_l22] at h
  refine zr_iload X dX7_fewestSteps_22 5 rfl ?_
  refine zr_bipush (v := 25) X dX7_fewestSteps_24 (by decide) ?_
  refine zr_icmp_ge (tgt := 61) X dX7_fewestSteps_26 (by decide) (fun q => ?_) (fun q => ?_)
  · rw [if_neg q] at h
    have h := hr2 _ h
    exact zr_sub [0, 3] rfl (hR2 m5 h)
  · rw [if_pos q] at h
    refine zr_iload_n X dX7_fewestSteps_29 2 rfl ?_
    refine zr_iload X dX7_fewestSteps_30 5 rfl ?_
    refine zr_callSN_i (As := [.int p2, .int a4]) (st := []) (d := d - 1) X dX7_fewestSteps_32 wm_X7_25 ws_X10_isIn my_X10_isIn rfl (Nat.le_of_ble_eq_true rfl) (zRm (by omega)) ⟨Nat.le_refl _, Nat.le_refl _⟩ (x_fN_isIn hG (d - 1) (by omega) p2 a4 m5 _ (zw_b1 h)) (fun r7 m8 q => ?_)
    obtain ⟨rfl, h⟩ := q
    have hJ55 : ∀ (a9 : Int32) (m10 : zv_M), zw (fWa_fewestSteps_j55 a4 a9 m10) P2 → zv_V S D cA p l e (zv_rm d 0 0) s mi args below meth c 6 (MQ below (zv_Q S D cA (zq_i SH0 P)) args s 0 0 (zv_fr S)) 0 0 55 [(0, .ref (S.heap.size + 58)), (1, .ref (S.heap.size + p1)), (2, .int p2), (3, .ref (S.heap.size + p3)), (4, .int a9), (5, .int a4)] [] SH0 m10 := by
      intro a9 m10 h
      rw [fWa_fewestSteps_j55] at h
      refine zr_iinc (v := a4 + 1) (lo' := [(5, .int (a4 + 1)), (0, .ref (S.heap.size + 58)), (1, .ref (S.heap.size + p1)), (2, .int p2), (3, .ref (S.heap.size + p3)), (4, .int a9)]) X dX7_fewestSteps_55 5 rfl rfl (by decide) rfl ?_
      refine zr_goto (tgt := 22) X dX7_fewestSteps_58 (by decide) ?_
      have h := hl2 _ h
      exact zr_sub [1, 2, 3, 4, 5, 0] rfl h
    refine zr_if_eq (tgt := 55) X dX7_fewestSteps_35 (by decide) (fun q => ?_) (fun q => ?_)
    · rw [if_pos q] at h
      exact zr_sub [0, 1, 2, 3, 4, 5] rfl (hJ55 a3 m5 h)
    · rw [if_neg q] at h
      refine zr_aload_n X dX7_fewestSteps_38 0 rfl ?_
      refine zr_aload_n X dX7_fewestSteps_39 1 rfl ?_
      refine zr_iload X dX7_fewestSteps_40 5 rfl ?_
      refine zr_callV_v (As := [.ref (S.heap.size + p1), .int a4]) (st := []) (d := d - 1) X dX7_fewestSteps_42 wm_X7_29 my_X7_measure mv_X7_measure zo_58 rfl (Nat.le_of_ble_eq_true rfl) (zRm (by omega)) ⟨Nat.le_refl _, Nat.le_refl _⟩ (x_fWa_measure hG (d - 1) (by omega) p1 hp1 a4 m5 _ (zw_b1 h)) (fun m11 q => ?_)
      replace h := q
      refine zr_aload_n X dX7_fewestSteps_45 0 rfl ?_
      refine zr_iload X dX7_fewestSteps_46 4 rfl ?_
      refine zr_aload_n X dX7_fewestSteps_48 3 rfl ?_
      refine zr_callV_v (As := [.int a3, .ref (S.heap.size + p3)]) (st := []) (d := d - 1) X dX7_fewestSteps_49 wm_X7_33 my_X7_bring mv_X7_bring zo_58 rfl (Nat.le_of_ble_eq_true rfl) (zRm (by omega)) ⟨Nat.le_refl _, Nat.le_refl _⟩ (x_fWa_bring hG (d - 1) (by omega) a3 p3 hp3 m11 _ (zw_b1 h)) (fun m12 q => ?_)
      replace h := q
      refine zr_iinc (v := a3 + 1) (lo' := [(4, .int (a3 + 1)), (0, .ref (S.heap.size + 58)), (1, .ref (S.heap.size + p1)), (2, .int p2), (3, .ref (S.heap.size + p3)), (5, .int a4)]) X dX7_fewestSteps_52 4 rfl rfl (by decide) rfl ?_
      exact zr_sub [1, 2, 3, 4, 0, 5] rfl (hJ55 (a3 + 1) m12 h)

set_option maxRecDepth 100000 in
set_option maxHeartbeats 4000000 in
theorem x_fYa_layOut {l : Launch} {S : State} {D : va_G} {cA : Nat → ClassId} {tb sx : Nat → Nat} (hG : zv_G S D cA tb sx) (d : Nat) (hd : 1 ≤ d) (o : Nat) (ho : zcl o 8) (p1 : Nat) (hp1 : zcl p1 9) (m : zv_M) (P : zv_M → Prop) (h : zw (fYa_layOut o p1 m) P) : zv_Met l S D cA d 0 0 yX8_layOut cX8_layOut 2 none [.ref (S.heap.size + o), .ref (S.heap.size + p1)] SH0 m (zq_v SH0 P) := by
  refine zv_met false hG pf_X8_layOut (fun z => by cases z) (Nat.le_of_ble_eq_true rfl) [(0, .ref (S.heap.size + o)), (1, .ref (S.heap.size + p1))] rfl (fun p e s mi args below meth c X => ?_)
  rw [fYa_layOut] at h
  refine zr_aload_n X dX8_layOut_0 0 rfl ?_
  refine zr_aload_n X dX8_layOut_1 1 rfl ?_
  refine zr_getI X dX8_layOut_2 zd_X8_25 rfl hp1 (by rw [zk_9 hp1]; decide) ?_
  refine zr_put X dX8_layOut_5 zd_X8_9 rfl rfl rfl ho (by rw [zk_8 ho]; decide) ?_
  refine zr_aload_n X dX8_layOut_8 0 rfl ?_
  refine zr_aload_n X dX8_layOut_9 1 rfl ?_
  refine zr_getI X dX8_layOut_10 zd_X8_28 rfl hp1 (by rw [zk_9 hp1]; decide) ?_
  obtain ⟨g0, h⟩ := zg_e h
  refine zr_put X dX8_layOut_13 zd_X8_15 rfl (zB_n g0) (zB_f g0) ho (by rw [zk_8 ho]; decide) ?_
  refine zr_aload_n X dX8_layOut_16 0 rfl ?_
  refine zr_aload_n X dX8_layOut_17 1 rfl ?_
  refine zr_getI X dX8_layOut_18 zd_X8_29 rfl hp1 (by rw [zk_9 hp1]; decide) ?_
  refine zr_put X dX8_layOut_21 zd_X8_19 rfl rfl rfl ho (by rw [zk_8 ho]; decide) ?_
  refine zr_aload_n X dX8_layOut_24 0 rfl ?_
  refine zr_aload_n X dX8_layOut_25 1 rfl ?_
  refine zr_getI X dX8_layOut_26 zd_X8_29 rfl hp1 (by rw [zk_9 hp1]; decide) ?_
  refine zr_aload_n X dX8_layOut_29 1 rfl ?_
  refine zr_getI X dX8_layOut_30 zd_X8_30 rfl hp1 (by rw [zk_9 hp1]; decide) ?_
  refine zr_ior X dX8_layOut_33 ?_
  refine zr_put X dX8_layOut_34 zd_X8_22 rfl rfl rfl ho (by rw [zk_8 ho]; decide) ?_
  exact zr_vret X dX8_layOut_37 ⟨Nat.le_refl _, Nat.le_refl _⟩ ⟨rfl, rfl, h⟩

set_option maxRecDepth 100000 in
set_option maxHeartbeats 4000000 in
theorem x_fYa_waysOf {l : Launch} {S : State} {D : va_G} {cA : Nat → ClassId} {tb sx : Nat → Nat} (hG : zv_G S D cA tb sx) (d : Nat) (hd : 1 ≤ d) (o : Nat) (ho : zcl o 8) (p1 : Int32) (m : zv_M) (P : Int32 → Prop) (h : zw (fYa_waysOf o p1) P) : zv_Met l S D cA d 0 0 yX8_waysOf cX8_waysOf 2 (some .int) [.ref (S.heap.size + o), .int p1] SH0 m (zq_i SH0 (fun v m' => m = m' ∧ P v)) := by
  refine zv_met false hG pf_X8_waysOf (fun z => by cases z) (Nat.le_of_ble_eq_true rfl) [(0, .ref (S.heap.size + o)), (1, .int p1)] rfl (fun p e s mi args below meth c X => ?_)
  rw [fYa_waysOf] at h
  refine zr_iload_n X dX8_waysOf_0 1 rfl ?_
  by_cases e0 : p1 = 1
  · rw [if_pos e0] at h
    refine zr_tableIn (tgt := 36) X dX8_waysOf_1 1 (by rw [e0]; decide) (by decide) (by decide) rfl (by decide) ?_
    refine zr_bipush (v := 15) X dX8_waysOf_36 (by decide) ?_
    exact zr_iret X dX8_waysOf_38 rfl ⟨Nat.le_refl _, Nat.le_refl _⟩ ⟨rfl, _, rfl, rfl, h⟩
  rw [if_neg e0] at h
  by_cases e1 : p1 = 2
  · rw [if_pos e1] at h
    refine zr_tableIn (tgt := 39) X dX8_waysOf_1 2 (by rw [e1]; decide) (by decide) (by decide) rfl (by decide) ?_
    refine zr_sipush (v := 240) X dX8_waysOf_39 (by decide) ?_
    exact zr_iret X dX8_waysOf_42 rfl ⟨Nat.le_refl _, Nat.le_refl _⟩ ⟨rfl, _, rfl, rfl, h⟩
  rw [if_neg e1] at h
  by_cases e2 : p1 = 3
  · rw [if_pos e2] at h
    refine zr_tableIn (tgt := 47) X dX8_waysOf_1 3 (by rw [e2]; decide) (by decide) (by decide) rfl (by decide) ?_
    refine zr_sipush (v := 255) X dX8_waysOf_47 (by decide) ?_
    exact zr_iret X dX8_waysOf_50 rfl ⟨Nat.le_refl _, Nat.le_refl _⟩ ⟨rfl, _, rfl, rfl, h⟩
  rw [if_neg e2] at h
  by_cases e3 : p1 = 4
  · rw [if_pos e3] at h
    refine zr_tableIn (tgt := 51) X dX8_waysOf_1 4 (by rw [e3]; decide) (by decide) (by decide) rfl (by decide) ?_
    refine zr_sipush (v := 255) X dX8_waysOf_51 (by decide) ?_
    exact zr_iret X dX8_waysOf_54 rfl ⟨Nat.le_refl _, Nat.le_refl _⟩ ⟨rfl, _, rfl, rfl, h⟩
  rw [if_neg e3] at h
  by_cases e4 : p1 = 5
  · rw [if_pos e4] at h
    refine zr_tableIn (tgt := 43) X dX8_waysOf_1 5 (by rw [e4]; decide) (by decide) (by decide) rfl (by decide) ?_
    refine zr_sipush (v := 240) X dX8_waysOf_43 (by decide) ?_
    exact zr_iret X dX8_waysOf_46 rfl ⟨Nat.le_refl _, Nat.le_refl _⟩ ⟨rfl, _, rfl, rfl, h⟩
  rw [if_neg e4] at h
  refine zr_tableOut (tgt := 55) X dX8_waysOf_1 (by have ze0 := lv_neT e0 (by decide : (1 : Int32).toInt = 1); have ze1 := lv_neT e1 (by decide : (2 : Int32).toInt = 2); have ze2 := lv_neT e2 (by decide : (3 : Int32).toInt = 3); have ze3 := lv_neT e3 (by decide : (4 : Int32).toInt = 4); have ze4 := lv_neT e4 (by decide : (5 : Int32).toInt = 5); omega) (by decide) ?_
  refine zr_iconst (v := 0) X dX8_waysOf_55 (by decide) ?_
  exact zr_iret X dX8_waysOf_56 rfl ⟨Nat.le_refl _, Nat.le_refl _⟩ ⟨rfl, _, rfl, rfl, h⟩

set_option maxRecDepth 100000 in
set_option maxHeartbeats 4000000 in
theorem x_fYa_xOf {l : Launch} {S : State} {D : va_G} {cA : Nat → ClassId} {tb sx : Nat → Nat} (hG : zv_G S D cA tb sx) (d : Nat) (hd : 1 ≤ d) (o : Nat) (ho : zcl o 8) (p1 : Int32) (m : zv_M) (P : Int32 → Prop) (h : zw (fYa_xOf o p1 m) P) : zv_Met l S D cA d 0 0 yX8_xOf cX8_xOf 2 (some .int) [.ref (S.heap.size + o), .int p1] SH0 m (zq_i SH0 (fun v m' => m = m' ∧ P v)) := by
  refine zv_met false hG pf_X8_xOf (fun z => by cases z) (Nat.le_of_ble_eq_true rfl) [(0, .ref (S.heap.size + o)), (1, .int p1)] rfl (fun p e s mi args below meth c X => ?_)
  rw [fYa_xOf] at h
  refine zr_aload_n X dX8_xOf_0 0 rfl ?_
  refine zr_getI X dX8_xOf_1 zd_X8_9 rfl ho (by rw [zk_8 ho]; decide) ?_
  refine zr_iconst (v := 1) X dX8_xOf_4 (by decide) ?_
  refine zr_icmp_ge (tgt := 12) X dX8_xOf_5 (by decide) (fun q => ?_) (fun q => ?_)
  · rw [if_neg q] at h
    refine zr_iload_n X dX8_xOf_12 1 rfl ?_
    refine zr_aload_n X dX8_xOf_13 0 rfl ?_
    refine zr_getI X dX8_xOf_14 zd_X8_9 rfl ho (by rw [zk_8 ho]; decide) ?_
    obtain ⟨g0, h⟩ := zg_e h
    refine zr_irem X dX8_xOf_17 (zN_ne g0) ?_
    exact zr_iret X dX8_xOf_18 rfl ⟨Nat.le_refl _, Nat.le_refl _⟩ ⟨rfl, _, rfl, rfl, h⟩
  · rw [if_pos q] at h
    refine zr_iconst (v := 0) X dX8_xOf_8 (by decide) ?_
    refine zr_goto (tgt := 18) X dX8_xOf_9 (by decide) ?_
    exact zr_iret X dX8_xOf_18 rfl ⟨Nat.le_refl _, Nat.le_refl _⟩ ⟨rfl, _, rfl, rfl, h⟩

set_option maxRecDepth 100000 in
set_option maxHeartbeats 4000000 in
theorem x_fYa_yOf {l : Launch} {S : State} {D : va_G} {cA : Nat → ClassId} {tb sx : Nat → Nat} (hG : zv_G S D cA tb sx) (d : Nat) (hd : 1 ≤ d) (o : Nat) (ho : zcl o 8) (p1 : Int32) (m : zv_M) (P : Int32 → Prop) (h : zw (fYa_yOf o p1 m) P) : zv_Met l S D cA d 0 0 yX8_yOf cX8_yOf 2 (some .int) [.ref (S.heap.size + o), .int p1] SH0 m (zq_i SH0 (fun v m' => m = m' ∧ P v)) := by
  refine zv_met false hG pf_X8_yOf (fun z => by cases z) (Nat.le_of_ble_eq_true rfl) [(0, .ref (S.heap.size + o)), (1, .int p1)] rfl (fun p e s mi args below meth c X => ?_)
  rw [fYa_yOf] at h
  refine zr_aload_n X dX8_yOf_0 0 rfl ?_
  refine zr_getI X dX8_yOf_1 zd_X8_9 rfl ho (by rw [zk_8 ho]; decide) ?_
  refine zr_iconst (v := 1) X dX8_yOf_4 (by decide) ?_
  refine zr_icmp_ge (tgt := 12) X dX8_yOf_5 (by decide) (fun q => ?_) (fun q => ?_)
  · rw [if_neg q] at h
    refine zr_iload_n X dX8_yOf_12 1 rfl ?_
    refine zr_aload_n X dX8_yOf_13 0 rfl ?_
    refine zr_getI X dX8_yOf_14 zd_X8_9 rfl ho (by rw [zk_8 ho]; decide) ?_
    obtain ⟨g0, h⟩ := zg_e h
    refine zr_idiv X dX8_yOf_17 (zN_ne g0) ?_
    exact zr_iret X dX8_yOf_18 rfl ⟨Nat.le_refl _, Nat.le_refl _⟩ ⟨rfl, _, rfl, rfl, h⟩
  · rw [if_pos q] at h
    refine zr_iconst (v := 0) X dX8_yOf_8 (by decide) ?_
    refine zr_goto (tgt := 18) X dX8_yOf_9 (by decide) ?_
    exact zr_iret X dX8_yOf_18 rfl ⟨Nat.le_refl _, Nat.le_refl _⟩ ⟨rfl, _, rfl, rfl, h⟩

set_option maxRecDepth 100000 in
set_option maxHeartbeats 4000000 in
theorem x_fJ_floorMod {l : Launch} {S : State} {D : va_G} {cA : Nat → ClassId} {tb sx : Nat → Nat} (hG : zv_G S D cA tb sx) (d : Nat) (hd : 1 ≤ d) (p1 : Int32) (p2 : Int32) (m : zv_M) (P : Int32 → Prop) (h : zw (fJ_floorMod p1 p2) P) : zv_Met l S D cA d 0 0 yJ9_floorMod_7cf53 cJ9_floorMod_7cf53 3 (some .int) [.int p1, .int p2] SH0 m (zq_i SH0 (fun v m' => m = m' ∧ P v)) := by
  refine zv_met false hG pf_J9_floorMod_7cf53 (fun z => by cases z) (Nat.le_of_ble_eq_true rfl) [(0, .int p1), (1, .int p2)] rfl (fun p e s mi args below meth c X => ?_)
  rw [fJ_floorMod] at h
  refine zr_iload_n X dJ9_floorMod_7cf53_0 0 rfl ?_
  refine zr_iload_n X dJ9_floorMod_7cf53_1 1 rfl ?_
  obtain ⟨g0, h⟩ := zg_e h
  refine zr_irem X dJ9_floorMod_7cf53_2 (zN_ne g0) ?_
  refine zr_istore_n (lo' := [(2, .int (p1 - p1 / p2 * p2)), (0, .int p1), (1, .int p2)]) X dJ9_floorMod_7cf53_3 (by decide) rfl ?_
  refine zr_iload_n X dJ9_floorMod_7cf53_4 1 rfl ?_
  refine zr_iload_n X dJ9_floorMod_7cf53_5 2 rfl ?_
  refine zr_ixor X dJ9_floorMod_7cf53_6 ?_
  refine zr_if_ge (tgt := 18) X dJ9_floorMod_7cf53_7 (by decide) (fun q => ?_) (fun q => ?_)
  · rw [if_neg q] at h
    refine zr_iload_n X dJ9_floorMod_7cf53_18 0 rfl ?_
    exact zr_iret X dJ9_floorMod_7cf53_19 rfl ⟨Nat.le_refl _, Nat.le_refl _⟩ ⟨rfl, _, rfl, rfl, h⟩
  · rw [if_pos q] at h
    refine zr_iload_n X dJ9_floorMod_7cf53_10 0 rfl ?_
    refine zr_if_eq (tgt := 18) X dJ9_floorMod_7cf53_11 (by decide) (fun q => ?_) (fun q => ?_)
    · rw [if_pos q] at h
      refine zr_iload_n X dJ9_floorMod_7cf53_18 0 rfl ?_
      exact zr_iret X dJ9_floorMod_7cf53_19 rfl ⟨Nat.le_refl _, Nat.le_refl _⟩ ⟨rfl, _, rfl, rfl, h⟩
    · rw [if_neg q] at h
      refine zr_iload_n X dJ9_floorMod_7cf53_14 0 rfl ?_
      refine zr_iload_n X dJ9_floorMod_7cf53_15 2 rfl ?_
      refine zr_iadd X dJ9_floorMod_7cf53_16 ?_
      exact zr_iret X dJ9_floorMod_7cf53_17 rfl ⟨Nat.le_refl _, Nat.le_refl _⟩ ⟨rfl, _, rfl, rfl, h⟩

set_option maxRecDepth 100000 in
set_option maxHeartbeats 4000000 in
theorem x_fYa_goOn {l : Launch} {S : State} {D : va_G} {cA : Nat → ClassId} {tb sx : Nat → Nat} (hG : zv_G S D cA tb sx) (d : Nat) (hd : 2 ≤ d) (o : Nat) (ho : zcl o 8) (p1 : Int32) (m : zv_M) (P : Int32 → Prop) (h : zw (fYa_goOn o p1 m) P) : zv_Met l S D cA d 0 0 yX8_goOn cX8_goOn 2 (some .int) [.ref (S.heap.size + o), .int p1] SH0 m (zq_i SH0 (fun v m' => m = m' ∧ P v)) := by
  refine zv_met false hG pf_X8_goOn (fun z => by cases z) (Nat.le_of_ble_eq_true rfl) [(0, .ref (S.heap.size + o)), (1, .int p1)] rfl (fun p e s mi args below meth c X => ?_)
  rw [fYa_goOn] at h
  refine zr_iload_n X dX8_goOn_0 1 rfl ?_
  have hJ14 : zw (fYa_goOn_j14 o p1 m) P → zv_V S D cA p l e (zv_rm d 0 0) s mi args below meth c 2 (MQ below (zv_Q S D cA (zq_i SH0 (fun v m' => m = m' ∧ P v))) args s 0 0 (zv_fr S)) 0 0 14 [(0, .ref (S.heap.size + o)), (1, .int p1)] [] SH0 m := by
    intro h
    rw [fYa_goOn_j14] at h
    refine zr_aload_n X dX8_goOn_14 0 rfl ?_
    refine zr_getI X dX8_goOn_15 zd_X8_15 rfl ho (by rw [zk_8 ho]; decide) ?_
    refine zr_if_eq (tgt := 39) X dX8_goOn_18 (by decide) (fun q => ?_) (fun q => ?_)
    · rw [if_pos q] at h
      refine zr_iconst (v := (-1)) X dX8_goOn_39 (by decide) ?_
      exact zr_iret X dX8_goOn_40 rfl ⟨Nat.le_refl _, Nat.le_refl _⟩ ⟨rfl, _, rfl, rfl, h⟩
    · rw [if_neg q] at h
      refine zr_aload_n X dX8_goOn_21 0 rfl ?_
      refine zr_getI X dX8_goOn_22 zd_X8_9 rfl ho (by rw [zk_8 ho]; decide) ?_
      refine zr_if_le (tgt := 39) X dX8_goOn_25 (by decide) (fun q => ?_) (fun q => ?_)
      · rw [if_neg q] at h
        refine zr_iconst (v := (-1)) X dX8_goOn_39 (by decide) ?_
        exact zr_iret X dX8_goOn_40 rfl ⟨Nat.le_refl _, Nat.le_refl _⟩ ⟨rfl, _, rfl, rfl, h⟩
      · rw [if_pos q] at h
        refine zr_iload_n X dX8_goOn_28 1 rfl ?_
        refine zr_aload_n X dX8_goOn_29 0 rfl ?_
        refine zr_getI X dX8_goOn_30 zd_X8_9 rfl ho (by rw [zk_8 ho]; decide) ?_
        refine zr_callS_i (As := [.int p1, .int (m.1 o 0)]) (st := []) (d := d - 1) X dX8_goOn_33 wm_X8_69 ws_J9_floorMod_7cf53 my_J9_floorMod_7cf53 rfl (Nat.le_of_ble_eq_true rfl) (zRm (by omega)) ⟨Nat.le_refl _, Nat.le_refl _⟩ (x_fJ_floorMod hG (d - 1) (by omega) p1 (m.1 o 0) m _ (zw_b1 h)) (fun r1 m2 q => ?_)
        obtain ⟨rfl, h⟩ := q
        refine zr_goto (tgt := 40) X dX8_goOn_36 (by decide) ?_
        exact zr_iret X dX8_goOn_40 rfl ⟨Nat.le_refl _, Nat.le_refl _⟩ ⟨rfl, _, rfl, rfl, h⟩
  refine zr_if_lt (tgt := 14) X dX8_goOn_1 (by decide) (fun q => ?_) (fun q => ?_)
  · rw [if_pos q] at h
    exact zr_sub [0, 1] rfl (hJ14 h)
  · rw [if_neg q] at h
    refine zr_iload_n X dX8_goOn_4 1 rfl ?_
    refine zr_aload_n X dX8_goOn_5 0 rfl ?_
    refine zr_getI X dX8_goOn_6 zd_X8_9 rfl ho (by rw [zk_8 ho]; decide) ?_
    refine zr_icmp_ge (tgt := 14) X dX8_goOn_9 (by decide) (fun q => ?_) (fun q => ?_)
    · rw [if_neg q] at h
      exact zr_sub [0, 1] rfl (hJ14 h)
    · rw [if_pos q] at h
      refine zr_iload_n X dX8_goOn_12 1 rfl ?_
      exact zr_iret X dX8_goOn_13 rfl ⟨Nat.le_refl _, Nat.le_refl _⟩ ⟨rfl, _, rfl, rfl, h⟩

set_option maxRecDepth 100000 in
set_option maxHeartbeats 4000000 in
theorem x_fYa_lookAlong {l : Launch} {S : State} {D : va_G} {cA : Nat → ClassId} {tb sx : Nat → Nat} (hG : zv_G S D cA tb sx) (d : Nat) (hd : 3 ≤ d) (o : Nat) (ho : zcl o 8) (p1 : Int32) (p2 : Int32) (p3 : Int32) (p4 : Int32) (m : zv_M) (P : Int32 → Prop) (h : zw (fYa_lookAlong o p1 p2 p3 p4 m) P) : zv_Met l S D cA d 0 0 yX8_lookAlong cX8_lookAlong 10 (some .int) [.ref (S.heap.size + o), .int p1, .int p2, .int p3, .int p4] SH0 m (zq_i SH0 (fun v m' => m = m' ∧ P v)) := by
  refine zv_met false hG pf_X8_lookAlong (fun z => by cases z) (Nat.le_of_ble_eq_true rfl) [(0, .ref (S.heap.size + o)), (1, .int p1), (2, .int p2), (3, .int p3), (4, .int p4)] rfl (fun p e s mi args below meth c X => ?_)
  rw [fYa_lookAlong] at h
  refine zr_aload_n X dX8_lookAlong_0 0 rfl ?_
  refine zr_iload_n X dX8_lookAlong_1 1 rfl ?_
  refine zr_callV_i (As := [.int p1]) (st := []) (d := d - 1) X dX8_lookAlong_2 wm_X8_56 my_X8_xOf mv_X8_xOf ho rfl (Nat.le_of_ble_eq_true rfl) (zRm (by omega)) ⟨Nat.le_refl _, Nat.le_refl _⟩ (x_fYa_xOf hG (d - 1) (by omega) o ho p1 m _ (zw_b1 h)) (fun r1 m2 q => ?_)
  obtain ⟨rfl, h⟩ := q
  refine zr_istore (lo' := [(5, .int r1), (0, .ref (S.heap.size + o)), (1, .int p1), (2, .int p2), (3, .int p3), (4, .int p4)]) X dX8_lookAlong_5 (by decide) rfl ?_
  refine zr_aload_n X dX8_lookAlong_7 1 rfl ?_
  refine zr_iload_n X dX8_lookAlong_8 2 rfl ?_
  refine zr_callV_i (As := [.int p1]) (st := []) (d := d - 1) X dX8_lookAlong_9 wm_X8_59 my_X8_yOf mv_X8_yOf ho rfl (Nat.le_of_ble_eq_true rfl) (zRm (by omega)) ⟨Nat.le_refl _, Nat.le_refl _⟩ (x_fYa_yOf hG (d - 1) (by omega) o ho p1 m _ (zw_b1 h)) (fun r3 m4 q => ?_)
  obtain ⟨rfl, h⟩ := q
  refine zr_istore (lo' := [(6, .int r3), (5, .int r1), (0, .ref (S.heap.size + o)), (1, .int p1), (2, .int p2), (3, .int p3), (4, .int p4)]) X dX8_lookAlong_12 (by decide) rfl ?_
  refine zr_iconst (v := 0) X dX8_lookAlong_14 (by decide) ?_
  refine zr_istore (lo' := [(7, .int 0), (6, .int r3), (5, .int r1), (0, .ref (S.heap.size + o)), (1, .int p1), (2, .int p2), (3, .int p3), (4, .int p4)]) X dX8_lookAlong_15 (by decide) rfl ?_
  refine zr_iconst (v := 0) X dX8_lookAlong_17 (by decide) ?_
  refine zr_istore (lo' := [(8, .int 0), (7, .int 0), (6, .int r3), (5, .int r1), (0, .ref (S.heap.size + o)), (1, .int p1), (2, .int p2), (3, .int p3), (4, .int p4)]) X dX8_lookAlong_18 (by decide) rfl ?_
  refine zr_sub [4, 5, 6, 7, 8, 3, 2, 1, 0] rfl ?_
  refine zl_w4 (fun a6 a7 a8 a9 => zv_V S D cA p l e (zv_rm d 0 0) s mi args below meth c 10 (MQ below (zv_Q S D cA (zq_i SH0 (fun v m' => m = m' ∧ P v))) args s 0 0 (zv_fr S)) 0 0 20 [(0, .ref (S.heap.size + o)), (1, .int p1), (2, .int p2), (3, .int p3), (4, .int p4), (5, .int a6), (6, .int a7), (7, .int a8), (8, .int a9)] [] SH0 m) (fYa_lookAlong_l20 o p1 p2 p3 p4 m) _ (fun P5 hl5 hr5 a6 a7 a8 a9 h => ?_) zFU r1 r3 0 0 (zw_b1 h)
  rw [fYa_lookAlong_l20] at h
  refine zr_iload X dX8_lookAlong_20 8 rfl ?_
  refine zr_iload X dX8_lookAlong_22 4 rfl ?_
  refine zr_icmp_ge (tgt := 105) X dX8_lookAlong_24 (by decide) (fun q => ?_) (fun q => ?_)
  · rw [if_neg q] at h
    refine zr_iload X dX8_lookAlong_105 7 rfl ?_
    have h := hr5 _ h
    exact zr_iret X dX8_lookAlong_107 rfl ⟨Nat.le_refl _, Nat.le_refl _⟩ ⟨rfl, _, rfl, rfl, h⟩
  · rw [if_pos q] at h
    refine zr_aload_n X dX8_lookAlong_27 0 rfl ?_
    refine zr_iload X dX8_lookAlong_28 5 rfl ?_
    refine zr_iload_n X dX8_lookAlong_30 2 rfl ?_
    refine zr_iadd X dX8_lookAlong_31 ?_
    refine zr_callV_i (As := [.int (a6 + p2)]) (st := []) (d := d - 1) X dX8_lookAlong_32 wm_X8_62 my_X8_goOn mv_X8_goOn ho rfl (Nat.le_of_ble_eq_true rfl) (zRm (by omega)) ⟨Nat.le_refl _, Nat.le_refl _⟩ (x_fYa_goOn hG (d - 1) (by omega) o ho (a6 + p2) m _ (zw_b1 h)) (fun r10 m11 q => ?_)
    obtain ⟨rfl, h⟩ := q
    refine zr_istore (lo' := [(5, .int r10), (0, .ref (S.heap.size + o)), (1, .int p1), (2, .int p2), (3, .int p3), (4, .int p4), (6, .int a7), (7, .int a8), (8, .int a9)]) X dX8_lookAlong_35 (by decide) rfl ?_
    refine zr_aload_n X dX8_lookAlong_37 1 rfl ?_
    refine zr_iload X dX8_lookAlong_38 6 rfl ?_
    refine zr_iload_n X dX8_lookAlong_40 4 rfl ?_
    refine zr_iadd X dX8_lookAlong_41 ?_
    refine zr_callV_i (As := [.int (a7 + p3)]) (st := []) (d := d - 1) X dX8_lookAlong_42 wm_X8_62 my_X8_goOn mv_X8_goOn ho rfl (Nat.le_of_ble_eq_true rfl) (zRm (by omega)) ⟨Nat.le_refl _, Nat.le_refl _⟩ (x_fYa_goOn hG (d - 1) (by omega) o ho (a7 + p3) m _ (zw_b1 h)) (fun r12 m13 q => ?_)
    obtain ⟨rfl, h⟩ := q
    refine zr_istore (lo' := [(6, .int r12), (5, .int r10), (0, .ref (S.heap.size + o)), (1, .int p1), (2, .int p2), (3, .int p3), (4, .int p4), (7, .int a8), (8, .int a9)]) X dX8_lookAlong_45 (by decide) rfl ?_
    refine zr_iload X dX8_lookAlong_47 0 rfl ?_
    refine zr_aload_n X dX8_lookAlong_49 2 rfl ?_
    refine zr_getI X dX8_lookAlong_50 zd_X8_9 rfl ho (by rw [zk_8 ho]; decide) ?_
    refine zr_imul X dX8_lookAlong_53 ?_
    refine zr_iload X dX8_lookAlong_54 1 rfl ?_
    refine zr_iadd X dX8_lookAlong_56 ?_
    refine zr_istore (lo' := [(9, .int ((r12 * (m.1 o 0)) + r10)), (6, .int r12), (5, .int r10), (0, .ref (S.heap.size + o)), (1, .int p1), (2, .int p2), (3, .int p3), (4, .int p4), (7, .int a8), (8, .int a9)]) X dX8_lookAlong_57 (by decide) rfl ?_
    refine zr_iload X dX8_lookAlong_59 2 rfl ?_
    refine zr_if_lt (tgt := 105) X dX8_lookAlong_61 (by decide) (fun q => ?_) (fun q => ?_)
    · rw [if_pos q] at h
      refine zr_iload X dX8_lookAlong_105 8 rfl ?_
      have h := hr5 _ h
      exact zr_iret X dX8_lookAlong_107 rfl ⟨Nat.le_refl _, Nat.le_refl _⟩ ⟨rfl, _, rfl, rfl, h⟩
    · rw [if_neg q] at h
      refine zr_iload X dX8_lookAlong_64 1 rfl ?_
      refine zr_if_lt (tgt := 105) X dX8_lookAlong_66 (by decide) (fun q => ?_) (fun q => ?_)
      · rw [if_pos q] at h
        refine zr_iload X dX8_lookAlong_105 8 rfl ?_
        have h := hr5 _ h
        exact zr_iret X dX8_lookAlong_107 rfl ⟨Nat.le_refl _, Nat.le_refl _⟩ ⟨rfl, _, rfl, rfl, h⟩
      · rw [if_neg q] at h
        refine zr_iload X dX8_lookAlong_69 0 rfl ?_
        refine zr_iload_n X dX8_lookAlong_71 4 rfl ?_
        refine zr_icmp_eq (tgt := 105) X dX8_lookAlong_72 (by decide) (fun q => ?_) (fun q => ?_)
        · rw [if_pos q] at h
          refine zr_iload X dX8_lookAlong_105 8 rfl ?_
          have h := hr5 _ h
          exact zr_iret X dX8_lookAlong_107 rfl ⟨Nat.le_refl _, Nat.le_refl _⟩ ⟨rfl, _, rfl, rfl, h⟩
        · rw [if_neg q] at h
          refine zr_aload_n X dX8_lookAlong_75 3 rfl ?_
          refine zr_getI X dX8_lookAlong_76 zd_X8_19 rfl ho (by rw [zk_8 ho]; decide) ?_
          refine zr_iload X dX8_lookAlong_79 0 rfl ?_
          refine zr_callSN_i (As := [.int (m.1 o 2), .int ((r12 * (m.1 o 0)) + r10)]) (st := []) (d := d - 1) X dX8_lookAlong_81 wm_X8_65 ws_X10_isIn my_X10_isIn rfl (Nat.le_of_ble_eq_true rfl) (zRm (by omega)) ⟨Nat.le_refl _, Nat.le_refl _⟩ (x_fN_isIn hG (d - 1) (by omega) (m.1 o 2) ((r12 * (m.1 o 0)) + r10) m _ (zw_b1 h)) (fun r14 m15 q => ?_)
          obtain ⟨rfl, h⟩ := q
          refine zr_if_eq (tgt := 90) X dX8_lookAlong_84 (by decide) (fun q => ?_) (fun q => ?_)
          · rw [if_pos q] at h
            refine zr_iload X dX8_lookAlong_90 8 rfl ?_
            refine zr_iconst (v := 1) X dX8_lookAlong_92 (by decide) ?_
            refine zr_iload X dX8_lookAlong_93 0 rfl ?_
            refine zr_ishl X dX8_lookAlong_95 ?_
            refine zr_ior X dX8_lookAlong_96 ?_
            refine zr_istore (lo' := [(7, .int (a8 ||| (1 <<< (((r12 * (m.1 o 0)) + r10) &&& 31)))), (9, .int ((r12 * (m.1 o 0)) + r10)), (6, .int r12), (5, .int r10), (0, .ref (S.heap.size + o)), (1, .int p1), (2, .int p2), (3, .int p3), (4, .int p4), (8, .int a9)]) X dX8_lookAlong_97 (by decide) rfl ?_
            refine zr_iinc (v := a9 + 1) (lo' := [(8, .int (a9 + 1)), (7, .int (a8 ||| (1 <<< (((r12 * (m.1 o 0)) + r10) &&& 31)))), (9, .int ((r12 * (m.1 o 0)) + r10)), (6, .int r12), (5, .int r10), (0, .ref (S.heap.size + o)), (1, .int p1), (2, .int p2), (3, .int p3), (4, .int p4)]) X dX8_lookAlong_99 9 rfl rfl (by decide) rfl ?_
            refine zr_goto (tgt := 20) X dX8_lookAlong_102 (by decide) ?_
            have h := hl5 _ h
            exact zr_sub [5, 6, 7, 8, 9, 4, 3, 1, 0] rfl h
          · rw [if_neg q] at h
            refine zr_goto (tgt := 105) X dX8_lookAlong_87 (by decide) ?_
            refine zr_iload X dX8_lookAlong_105 8 rfl ?_
            have h := hr5 _ h
            exact zr_iret X dX8_lookAlong_107 rfl ⟨Nat.le_refl _, Nat.le_refl _⟩ ⟨rfl, _, rfl, rfl, h⟩

set_option maxRecDepth 100000 in
set_option maxHeartbeats 4000000 in
theorem x_fYa_view {l : Launch} {S : State} {D : va_G} {cA : Nat → ClassId} {tb sx : Nat → Nat} (hG : zv_G S D cA tb sx) (d : Nat) (hd : 4 ≤ d) (o : Nat) (ho : zcl o 8) (p1 : Int32) (p2 : Int32) (p3 : Int32) (p4 : Int32) (m : zv_M) (P : Int32 → Prop) (h : zw (fYa_view o p1 p2 p3 p4 m) P) : zv_Met l S D cA d 0 0 yX8_view cX8_view 10 (some .int) [.ref (S.heap.size + o), .int p1, .int p2, .int p3, .int p4] SH0 m (zq_i SH0 (fun v m' => m = m' ∧ P v)) := by
  refine zv_met false hG pf_X8_view (fun z => by cases z) (Nat.le_of_ble_eq_true rfl) [(0, .ref (S.heap.size + o)), (1, .int p1), (2, .int p2), (3, .int p3), (4, .int p4)] rfl (fun p e s mi args below meth c X => ?_)
  rw [fYa_view] at h
  refine zr_iload_n X dX8_view_0 1 rfl ?_
  refine zr_iconst (v := 5) X dX8_view_1 (by decide) ?_
  have hJ15 : ∀ (v1 : Int32), zw (fYa_view_j15 o p1 p3 p4 m v1) P → zv_V S D cA p l e (zv_rm d 0 0) s mi args below meth c 10 (MQ below (zv_Q S D cA (zq_i SH0 (fun v m' => m = m' ∧ P v))) args s 0 0 (zv_fr S)) 0 0 15 [(0, .ref (S.heap.size + o)), (1, .int p1), (3, .int p3), (4, .int p4)] [.int v1] SH0 m := by
    intro v1 h
    rw [fYa_view_j15] at h
    refine zr_istore (lo' := [(5, .int v1), (0, .ref (S.heap.size + o)), (1, .int p1), (3, .int p3), (4, .int p4)]) X dX8_view_15 (by decide) rfl ?_
    refine zr_iload_n X dX8_view_17 2 rfl ?_
    refine zr_iconst (v := 3) X dX8_view_18 (by decide) ?_
    have hJ38 : ∀ (v2 : Int32), zw (fYa_view_j38 o p1 p3 p4 m v1 v2) P → zv_V S D cA p l e (zv_rm d 0 0) s mi args below meth c 10 (MQ below (zv_Q S D cA (zq_i SH0 (fun v m' => m = m' ∧ P v))) args s 0 0 (zv_fr S)) 0 0 38 [(0, .ref (S.heap.size + o)), (1, .int p1), (3, .int p3), (4, .int p4), (5, .int v1)] [.int v2] SH0 m := by
      intro v2 h
      rw [fYa_view_j38] at h
      refine zr_istore (lo' := [(6, .int v2), (0, .ref (S.heap.size + o)), (1, .int p1), (3, .int p3), (4, .int p4), (5, .int v1)]) X dX8_view_38 (by decide) rfl ?_
      refine zr_iload X dX8_view_40 5 rfl ?_
      have hJ69 : ∀ (v3 : Int32), zw (fYa_view_j69 o p4 m v2 v3) P → zv_V S D cA p l e (zv_rm d 0 0) s mi args below meth c 10 (MQ below (zv_Q S D cA (zq_i SH0 (fun v m' => m = m' ∧ P v))) args s 0 0 (zv_fr S)) 0 0 69 [(0, .ref (S.heap.size + o)), (4, .int p4), (6, .int v2)] [.int v3] SH0 m := by
        intro v3 h
        rw [fYa_view_j69] at h
        refine zr_istore (lo' := [(7, .int v3), (0, .ref (S.heap.size + o)), (4, .int p4), (6, .int v2)]) X dX8_view_69 (by decide) rfl ?_
        refine zr_iconst (v := 0) X dX8_view_71 (by decide) ?_
        refine zr_istore (lo' := [(8, .int 0), (7, .int v3), (0, .ref (S.heap.size + o)), (4, .int p4), (6, .int v2)]) X dX8_view_72 (by decide) rfl ?_
        refine zr_iconst (v := 0) X dX8_view_74 (by decide) ?_
        refine zr_istore (lo' := [(9, .int 0), (8, .int 0), (7, .int v3), (0, .ref (S.heap.size + o)), (4, .int p4), (6, .int v2)]) X dX8_view_75 (by decide) rfl ?_
        refine zr_sub [3, 4, 5, 2, 1, 0] rfl ?_
        refine zl_w2 (fun a5 a6 => zv_V S D cA p l e (zv_rm d 0 0) s mi args below meth c 10 (MQ below (zv_Q S D cA (zq_i SH0 (fun v m' => m = m' ∧ P v))) args s 0 0 (zv_fr S)) 0 0 77 [(0, .ref (S.heap.size + o)), (4, .int p4), (6, .int v2), (7, .int v3), (8, .int a5), (9, .int a6)] [] SH0 m) (fYa_view_l77 o p4 m v2 v3) _ (fun P4 hl4 hr4 a5 a6 h => ?_) zFU 0 0 (zw_b1 h)
        rw [fYa_view_l77] at h
        refine zr_iload X dX8_view_77 5 rfl ?_
        refine zr_gets X dX8_view_79 (k := 1) (by decide) wg_X8_45 ?_
        refine zr_tlen (v := 16) X dX8_view_82 (k := 1) (by decide) rfl ?_
        refine zr_icmp_ge (tgt := 136) X dX8_view_83 (by decide) (fun q => ?_) (fun q => ?_)
        · rw [if_neg q] at h
          refine zr_iload X dX8_view_136 4 rfl ?_
          have h := hr4 _ h
          exact zr_iret X dX8_view_138 rfl ⟨Nat.le_refl _, Nat.le_refl _⟩ ⟨rfl, _, rfl, rfl, h⟩
        · rw [if_pos q] at h
          refine zr_iload X dX8_view_86 5 rfl ?_
          refine zr_gets X dX8_view_88 (k := 2) (by decide) wg_X8_49 ?_
          refine zr_tlen (v := 16) X dX8_view_91 (k := 2) (by decide) rfl ?_
          refine zr_icmp_ge (tgt := 136) X dX8_view_92 (by decide) (fun q => ?_) (fun q => ?_)
          · rw [if_neg q] at h
            refine zr_iload X dX8_view_136 4 rfl ?_
            have h := hr4 _ h
            exact zr_iret X dX8_view_138 rfl ⟨Nat.le_refl _, Nat.le_refl _⟩ ⟨rfl, _, rfl, rfl, h⟩
          · rw [if_pos q] at h
            refine zr_iload X dX8_view_95 3 rfl ?_
            refine zr_iload X dX8_view_97 5 rfl ?_
            refine zr_ishr X dX8_view_99 ?_
            refine zr_iconst (v := 1) X dX8_view_100 (by decide) ?_
            refine zr_iand X dX8_view_101 ?_
            have hJ130 : ∀ (a7 : Int32), zw (fYa_view_j130 a6 a7) P4 → zv_V S D cA p l e (zv_rm d 0 0) s mi args below meth c 10 (MQ below (zv_Q S D cA (zq_i SH0 (fun v m' => m = m' ∧ P v))) args s 0 0 (zv_fr S)) 0 0 130 [(0, .ref (S.heap.size + o)), (4, .int p4), (6, .int v2), (7, .int v3), (8, .int a7), (9, .int a6)] [] SH0 m := by
              intro a7 h
              rw [fYa_view_j130] at h
              refine zr_iinc (v := a6 + 1) (lo' := [(9, .int (a6 + 1)), (0, .ref (S.heap.size + o)), (4, .int p4), (6, .int v2), (7, .int v3), (8, .int a7)]) X dX8_view_130 5 rfl rfl (by decide) rfl ?_
              refine zr_goto (tgt := 77) X dX8_view_133 (by decide) ?_
              have h := hl4 _ h
              exact zr_sub [1, 2, 3, 4, 5, 0] rfl h
            refine zr_if_eq (tgt := 130) X dX8_view_102 (by decide) (fun q => ?_) (fun q => ?_)
            · rw [if_pos q] at h
              exact zr_sub [0, 1, 2, 3, 4, 5] rfl (hJ130 a5 h)
            · rw [if_neg q] at h
              refine zr_iload X dX8_view_105 4 rfl ?_
              refine zr_aload_n X dX8_view_107 0 rfl ?_
              refine zr_iload X dX8_view_108 1 rfl ?_
              refine zr_gets X dX8_view_110 (k := 1) (by decide) wg_X8_45 ?_
              refine zr_iload X dX8_view_113 5 rfl ?_
              obtain ⟨g0, h⟩ := zg_e h
              refine zr_tld X dX8_view_115 (k := 1) (by decide) (zI_in g0) ?_
              refine zr_gets X dX8_view_116 (k := 2) (by decide) wg_X8_49 ?_
              refine zr_iload X dX8_view_119 5 rfl ?_
              obtain ⟨g0, h⟩ := zg_e h
              refine zr_tld X dX8_view_121 (k := 2) (by decide) (zI_in g0) ?_
              refine zr_iload X dX8_view_122 2 rfl ?_
              refine zr_callV_i (As := [.int p4, .int (zv_tv 1 a6.toNatClampNeg), .int (zv_tv 2 a6.toNatClampNeg), .int v2]) (st := [.int a5]) (d := d - 1) X dX8_view_124 wm_X8_52 my_X8_lookAlong mv_X8_lookAlong ho rfl (Nat.le_of_ble_eq_true rfl) (zRm (by omega)) ⟨Nat.le_refl _, Nat.le_refl _⟩ (x_fYa_lookAlong hG (d - 1) (by omega) o ho p4 (zv_tv 1 a6.toNatClampNeg) (zv_tv 2 a6.toNatClampNeg) v2 m _ (zw_b1 h)) (fun r8 m9 q => ?_)
              obtain ⟨rfl, h⟩ := q
              refine zr_ior X dX8_view_127 ?_
              refine zr_istore (lo' := [(8, .int (a5 ||| r8)), (0, .ref (S.heap.size + o)), (4, .int p4), (6, .int v2), (7, .int v3), (9, .int a6)]) X dX8_view_128 (by decide) rfl ?_
              exact zr_sub [1, 2, 3, 4, 0, 5] rfl (hJ130 (a5 ||| r8) h)
      refine zr_if_eq (tgt := 50) X dX8_view_42 (by decide) (fun q => ?_) (fun q => ?_)
      · rw [if_pos q] at h
        refine zr_iload_n X dX8_view_50 2 rfl ?_
        refine zr_bipush (v := 6) X dX8_view_51 (by decide) ?_
        refine zr_icmp_ne (tgt := 64) X dX8_view_53 (by decide) (fun q => ?_) (fun q => ?_)
        · rw [if_neg q] at h
          refine zr_aload_n X dX8_view_64 1 rfl ?_
          refine zr_iload_n X dX8_view_65 2 rfl ?_
          refine zr_callV_i (As := [.int p1]) (st := []) (d := d - 1) X dX8_view_66 wm_X8_42 my_X8_waysOf mv_X8_waysOf ho rfl (Nat.le_of_ble_eq_true rfl) (zRm (by omega)) ⟨Nat.le_refl _, Nat.le_refl _⟩ (x_fYa_waysOf hG (d - 1) (by omega) o ho p1 m _ (zw_b1 h)) (fun r10 m11 q => ?_)
          obtain ⟨rfl, h⟩ := q
          exact zr_sub [1, 4, 0] rfl (hJ69 r10 h)
        · rw [if_pos q] at h
          refine zr_iload_n X dX8_view_56 3 rfl ?_
          refine zr_sipush (v := 255) X dX8_view_57 (by decide) ?_
          refine zr_iand X dX8_view_60 ?_
          refine zr_goto (tgt := 69) X dX8_view_61 (by decide) ?_
          exact zr_sub [1, 4, 0] rfl (hJ69 (p3 &&& 255) h)
      · rw [if_neg q] at h
        refine zr_ldc X dX8_view_45 wc_X8_41 ?_
        refine zr_goto (tgt := 69) X dX8_view_47 (by decide) ?_
        exact zr_sub [1, 4, 0] rfl (hJ69 65280 h)
    have hJ33 : zw (fYa_view_j33 o p1 p3 p4 m v1) P → zv_V S D cA p l e (zv_rm d 0 0) s mi args below meth c 10 (MQ below (zv_Q S D cA (zq_i SH0 (fun v m' => m = m' ∧ P v))) args s 0 0 (zv_fr S)) 0 0 33 [(0, .ref (S.heap.size + o)), (1, .int p1), (3, .int p3), (4, .int p4), (5, .int v1)] [] SH0 m := by
      intro h
      rw [fYa_view_j33] at h
      refine zr_iconst (v := 1) X dX8_view_33 (by decide) ?_
      refine zr_goto (tgt := 38) X dX8_view_34 (by decide) ?_
      exact zr_sub [0, 1, 2, 3, 4] rfl (hJ38 1 h)
    refine zr_icmp_eq (tgt := 33) X dX8_view_19 (by decide) (fun q => ?_) (fun q => ?_)
    · rw [if_pos q] at h
      exact zr_sub [1, 2, 3, 4, 0] rfl (hJ33 h)
    · rw [if_neg q] at h
      refine zr_iload_n X dX8_view_22 2 rfl ?_
      refine zr_bipush (v := 6) X dX8_view_23 (by decide) ?_
      refine zr_icmp_eq (tgt := 33) X dX8_view_25 (by decide) (fun q => ?_) (fun q => ?_)
      · rw [if_pos q] at h
        exact zr_sub [1, 2, 3, 4, 0] rfl (hJ33 h)
      · rw [if_neg q] at h
        refine zr_iload X dX8_view_28 0 rfl ?_
        refine zr_if_eq (tgt := 37) X dX8_view_30 (by decide) (fun q => ?_) (fun q => ?_)
        · rw [if_pos q] at h
          refine zr_iconst (v := 5) X dX8_view_37 (by decide) ?_
          exact zr_sub [1, 2, 3, 4, 0] rfl (hJ38 5 h)
        · rw [if_neg q] at h
          exact zr_sub [1, 2, 3, 4, 0] rfl (hJ33 h)
  have hJ14 : zw (fYa_view_j14 o p1 p3 p4 m) P → zv_V S D cA p l e (zv_rm d 0 0) s mi args below meth c 10 (MQ below (zv_Q S D cA (zq_i SH0 (fun v m' => m = m' ∧ P v))) args s 0 0 (zv_fr S)) 0 0 14 [(0, .ref (S.heap.size + o)), (1, .int p1), (3, .int p3), (4, .int p4)] [] SH0 m := by
    intro h
    rw [fYa_view_j14] at h
    refine zr_iconst (v := 0) X dX8_view_14 (by decide) ?_
    exact zr_sub [0, 1, 2, 3] rfl (hJ15 0 h)
  refine zr_icmp_ne (tgt := 14) X dX8_view_2 (by decide) (fun q => ?_) (fun q => ?_)
  · rw [if_neg q] at h
    exact zr_sub [0, 1, 3, 4] rfl (hJ14 h)
  · rw [if_pos q] at h
    refine zr_iload_n X dX8_view_5 2 rfl ?_
    refine zr_iconst (v := 4) X dX8_view_6 (by decide) ?_
    refine zr_icmp_le (tgt := 14) X dX8_view_7 (by decide) (fun q => ?_) (fun q => ?_)
    · rw [if_neg q] at h
      exact zr_sub [0, 1, 3, 4] rfl (hJ14 h)
    · rw [if_pos q] at h
      refine zr_iconst (v := 1) X dX8_view_10 (by decide) ?_
      refine zr_goto (tgt := 15) X dX8_view_11 (by decide) ?_
      exact zr_sub [0, 1, 3, 4] rfl (hJ15 1 h)

set_option maxRecDepth 100000 in
set_option maxHeartbeats 4000000 in
theorem x_fYa_turn {l : Launch} {S : State} {D : va_G} {cA : Nat → ClassId} {tb sx : Nat → Nat} (hG : zv_G S D cA tb sx) (d : Nat) (hd : 2 ≤ d) (o : Nat) (ho : zcl o 8) (p1 : Int32) (p2 : Int32) (m : zv_M) (P : Int32 → Prop) (h : zw (fYa_turn o p1 p2 m) P) : zv_Met l S D cA d 0 0 yX8_turn cX8_turn 10 (some .int) [.ref (S.heap.size + o), .int p1, .int p2] SH0 m (zq_i SH0 (fun v m' => m = m' ∧ P v)) := by
  refine zv_met false hG pf_X8_turn (fun z => by cases z) (Nat.le_of_ble_eq_true rfl) [(0, .ref (S.heap.size + o)), (1, .int p1), (2, .int p2)] rfl (fun p e s mi args below meth c X => ?_)
  rw [fYa_turn] at h
  refine zr_aload_n X dX8_turn_0 0 rfl ?_
  refine zr_getI X dX8_turn_1 zd_X8_9 rfl ho (by rw [zk_8 ho]; decide) ?_
  refine zr_iconst (v := 1) X dX8_turn_4 (by decide) ?_
  refine zr_isub X dX8_turn_5 ?_
  refine zr_istore_n (lo' := [(3, .int ((m.1 o 0) - 1)), (0, .ref (S.heap.size + o)), (1, .int p1), (2, .int p2)]) X dX8_turn_6 (by decide) rfl ?_
  refine zr_iconst (v := 0) X dX8_turn_7 (by decide) ?_
  refine zr_istore (lo' := [(4, .int 0), (3, .int ((m.1 o 0) - 1)), (0, .ref (S.heap.size + o)), (1, .int p1), (2, .int p2)]) X dX8_turn_8 (by decide) rfl ?_
  refine zr_iconst (v := 0) X dX8_turn_10 (by decide) ?_
  refine zr_istore (lo' := [(5, .int 0), (4, .int 0), (3, .int ((m.1 o 0) - 1)), (0, .ref (S.heap.size + o)), (1, .int p1), (2, .int p2)]) X dX8_turn_11 (by decide) rfl ?_
  refine zr_sub [3, 4, 5, 2, 1, 0] rfl ?_
  refine zl_w2 (fun a2 a3 => zv_V S D cA p l e (zv_rm d 0 0) s mi args below meth c 10 (MQ below (zv_Q S D cA (zq_i SH0 (fun v m' => m = m' ∧ P v))) args s 0 0 (zv_fr S)) 0 0 13 [(0, .ref (S.heap.size + o)), (1, .int p1), (2, .int p2), (3, .int ((m.1 o 0) - 1)), (4, .int a2), (5, .int a3)] [] SH0 m) (fYa_turn_l13 o p1 p2 m) _ (fun P1 hl1 hr1 a2 a3 h => ?_) zFU 0 0 (zw_b1 h)
  rw [fYa_turn_l13] at h
  refine zr_iload X dX8_turn_13 5 rfl ?_
  refine zr_bipush (v := 25) X dX8_turn_15 (by decide) ?_
  refine zr_icmp_ge (tgt := 115) X dX8_turn_17 (by decide) (fun q => ?_) (fun q => ?_)
  · rw [if_neg q] at h
    refine zr_iload X dX8_turn_115 4 rfl ?_
    have h := hr1 _ h
    exact zr_iret X dX8_turn_117 rfl ⟨Nat.le_refl _, Nat.le_refl _⟩ ⟨rfl, _, rfl, rfl, h⟩
  · rw [if_pos q] at h
    refine zr_iload_n X dX8_turn_20 1 rfl ?_
    refine zr_iload X dX8_turn_21 5 rfl ?_
    refine zr_callSN_i (As := [.int p1, .int a3]) (st := []) (d := d - 1) X dX8_turn_23 wm_X8_65 ws_X10_isIn my_X10_isIn rfl (Nat.le_of_ble_eq_true rfl) (zRm (by omega)) ⟨Nat.le_refl _, Nat.le_refl _⟩ (x_fN_isIn hG (d - 1) (by omega) p1 a3 m _ (zw_b1 h)) (fun r4 m5 q => ?_)
    obtain ⟨rfl, h⟩ := q
    have hJ109 : ∀ (a6 : Int32), zw (fYa_turn_j109 a3 a6) P1 → zv_V S D cA p l e (zv_rm d 0 0) s mi args below meth c 10 (MQ below (zv_Q S D cA (zq_i SH0 (fun v m' => m = m' ∧ P v))) args s 0 0 (zv_fr S)) 0 0 109 [(0, .ref (S.heap.size + o)), (1, .int p1), (2, .int p2), (3, .int ((m.1 o 0) - 1)), (4, .int a6), (5, .int a3)] [] SH0 m := by
      intro a6 h
      rw [fYa_turn_j109] at h
      refine zr_iinc (v := a3 + 1) (lo' := [(5, .int (a3 + 1)), (0, .ref (S.heap.size + o)), (1, .int p1), (2, .int p2), (3, .int ((m.1 o 0) - 1)), (4, .int a6)]) X dX8_turn_109 5 rfl rfl (by decide) rfl ?_
      refine zr_goto (tgt := 13) X dX8_turn_112 (by decide) ?_
      have h := hl1 _ h
      exact zr_sub [1, 2, 3, 4, 5, 0] rfl h
    refine zr_if_eq (tgt := 109) X dX8_turn_26 (by decide) (fun q => ?_) (fun q => ?_)
    · rw [if_pos q] at h
      exact zr_sub [0, 1, 2, 3, 4, 5] rfl (hJ109 a2 h)
    · rw [if_neg q] at h
      refine zr_iload_n X dX8_turn_29 2 rfl ?_
      refine zr_iconst (v := 4) X dX8_turn_30 (by decide) ?_
      have hJ51 : ∀ (v7 : Int32), zw (fYa_turn_j51 o p2 m a2 a3 v7) P1 → zv_V S D cA p l e (zv_rm d 0 0) s mi args below meth c 10 (MQ below (zv_Q S D cA (zq_i SH0 (fun v m' => m = m' ∧ P v))) args s 0 0 (zv_fr S)) 0 0 51 [(0, .ref (S.heap.size + o)), (1, .int p1), (2, .int p2), (3, .int ((m.1 o 0) - 1)), (4, .int a2), (5, .int a3)] [.int v7] SH0 m := by
        intro v7 h
        rw [fYa_turn_j51] at h
        refine zr_istore (lo' := [(6, .int v7), (0, .ref (S.heap.size + o)), (1, .int p1), (2, .int p2), (3, .int ((m.1 o 0) - 1)), (4, .int a2), (5, .int a3)]) X dX8_turn_51 (by decide) rfl ?_
        refine zr_aload_n X dX8_turn_53 1 rfl ?_
        refine zr_iload X dX8_turn_54 6 rfl ?_
        refine zr_callV_i (As := [.int a3]) (st := []) (d := d - 1) X dX8_turn_56 wm_X8_59 my_X8_yOf mv_X8_yOf ho rfl (Nat.le_of_ble_eq_true rfl) (zRm (by omega)) ⟨Nat.le_refl _, Nat.le_refl _⟩ (x_fYa_yOf hG (d - 1) (by omega) o ho a3 m _ (zw_b1 h)) (fun r8 m9 q => ?_)
        obtain ⟨rfl, h⟩ := q
        refine zr_istore (lo' := [(7, .int r8), (6, .int v7), (0, .ref (S.heap.size + o)), (1, .int p1), (2, .int p2), (3, .int ((m.1 o 0) - 1)), (4, .int a2), (5, .int a3)]) X dX8_turn_59 (by decide) rfl ?_
        refine zr_iconst (v := 0) X dX8_turn_61 (by decide) ?_
        refine zr_istore (lo' := [(8, .int 0), (7, .int r8), (6, .int v7), (0, .ref (S.heap.size + o)), (1, .int p1), (2, .int p2), (3, .int ((m.1 o 0) - 1)), (4, .int a2), (5, .int a3)]) X dX8_turn_62 (by decide) rfl ?_
        refine zr_sub [3, 4, 5, 6, 7, 8, 2, 1, 0] rfl ?_
        have hR10 : ∀ (a14 : Int32) (a15 : Int32), zw (fYa_turn_j109 a3 (a2 ||| (1 <<< (((a15 * (m.1 o 0)) + a14) &&& 31))) : Option ((Int32 × Int32) ⊕ (Int32))) P1 → zv_V S D cA p l e (zv_rm d 0 0) s mi args below meth c 10 (MQ below (zv_Q S D cA (zq_i SH0 (fun v m' => m = m' ∧ P v))) args s 0 0 (zv_fr S)) 0 0 92 [(0, .ref (S.heap.size + o)), (1, .int p1), (2, .int p2), (3, .int ((m.1 o 0) - 1)), (4, .int a2), (5, .int a3), (6, .int a14), (7, .int a15)] [] SH0 m := by
          intro a14 a15 h
          refine zr_iload X dX8_turn_92 4 rfl ?_
          refine zr_iconst (v := 1) X dX8_turn_94 (by decide) ?_
          refine zr_iload X dX8_turn_95 7 rfl ?_
          refine zr_aload_n X dX8_turn_97 0 rfl ?_
          refine zr_getI X dX8_turn_98 zd_X8_9 rfl ho (by rw [zk_8 ho]; decide) ?_
          refine zr_imul X dX8_turn_101 ?_
          refine zr_iload X dX8_turn_102 6 rfl ?_
          refine zr_iadd X dX8_turn_104 ?_
          refine zr_ishl X dX8_turn_105 ?_
          refine zr_ior X dX8_turn_106 ?_
          refine zr_istore (lo' := [(4, .int (a2 ||| (1 <<< (((a15 * (m.1 o 0)) + a14) &&& 31)))), (0, .ref (S.heap.size + o)), (1, .int p1), (2, .int p2), (3, .int ((m.1 o 0) - 1)), (5, .int a3), (6, .int a14), (7, .int a15)]) X dX8_turn_107 (by decide) rfl ?_
          exact zr_sub [1, 2, 3, 4, 0, 5] rfl (hJ109 (a2 ||| (1 <<< (((a15 * (m.1 o 0)) + a14) &&& 31))) h)
        refine zl_w3 (fun a11 a12 a13 => zv_V S D cA p l e (zv_rm d 0 0) s mi args below meth c 10 (MQ below (zv_Q S D cA (zq_i SH0 (fun v m' => m = m' ∧ P v))) args s 0 0 (zv_fr S)) 0 0 64 [(0, .ref (S.heap.size + o)), (1, .int p1), (2, .int p2), (3, .int ((m.1 o 0) - 1)), (4, .int a2), (5, .int a3), (6, .int a11), (7, .int a12), (8, .int a13)] [] SH0 m) (fYa_turn_l64 o p2 m) _ (fun P10 hl10 hr10 a11 a12 a13 h => ?_) zFU v7 r8 0 (zw_b1 h)
        rw [fYa_turn_l64] at h
        refine zr_iload X dX8_turn_64 8 rfl ?_
        refine zr_iload_n X dX8_turn_66 2 rfl ?_
        refine zr_iconst (v := 3) X dX8_turn_67 (by decide) ?_
        refine zr_iand X dX8_turn_68 ?_
        refine zr_icmp_ge (tgt := 92) X dX8_turn_69 (by decide) (fun q => ?_) (fun q => ?_)
        · rw [if_neg q] at h
          have h := hr10 _ h
          exact zr_sub [0, 1, 2, 3, 4, 5, 6, 7] rfl (hR10 a11 a12 h)
        · rw [if_pos q] at h
          refine zr_iload X dX8_turn_72 6 rfl ?_
          refine zr_istore (lo' := [(9, .int a11), (0, .ref (S.heap.size + o)), (1, .int p1), (2, .int p2), (3, .int ((m.1 o 0) - 1)), (4, .int a2), (5, .int a3), (6, .int a11), (7, .int a12), (8, .int a13)]) X dX8_turn_74 (by decide) rfl ?_
          refine zr_iload_n X dX8_turn_76 4 rfl ?_
          refine zr_iload X dX8_turn_77 8 rfl ?_
          refine zr_isub X dX8_turn_79 ?_
          refine zr_istore (lo' := [(6, .int (((m.1 o 0) - 1) - a12)), (9, .int a11), (0, .ref (S.heap.size + o)), (1, .int p1), (2, .int p2), (3, .int ((m.1 o 0) - 1)), (4, .int a2), (5, .int a3), (7, .int a12), (8, .int a13)]) X dX8_turn_80 (by decide) rfl ?_
          refine zr_iload X dX8_turn_82 1 rfl ?_
          refine zr_istore (lo' := [(7, .int a11), (6, .int (((m.1 o 0) - 1) - a12)), (9, .int a11), (0, .ref (S.heap.size + o)), (1, .int p1), (2, .int p2), (3, .int ((m.1 o 0) - 1)), (4, .int a2), (5, .int a3), (8, .int a13)]) X dX8_turn_84 (by decide) rfl ?_
          refine zr_iinc (v := a13 + 1) (lo' := [(8, .int (a13 + 1)), (7, .int a11), (6, .int (((m.1 o 0) - 1) - a12)), (9, .int a11), (0, .ref (S.heap.size + o)), (1, .int p1), (2, .int p2), (3, .int ((m.1 o 0) - 1)), (4, .int a2), (5, .int a3)]) X dX8_turn_86 9 rfl rfl (by decide) rfl ?_
          refine zr_goto (tgt := 64) X dX8_turn_89 (by decide) ?_
          have h := hl10 _ h
          exact zr_sub [4, 5, 6, 7, 8, 9, 2, 1, 0] rfl h
      refine zr_icmp_lt (tgt := 45) X dX8_turn_31 (by decide) (fun q => ?_) (fun q => ?_)
      · rw [if_pos q] at h
        refine zr_aload_n X dX8_turn_45 0 rfl ?_
        refine zr_iload X dX8_turn_46 5 rfl ?_
        refine zr_callV_i (As := [.int a3]) (st := []) (d := d - 1) X dX8_turn_48 wm_X8_56 my_X8_xOf mv_X8_xOf ho rfl (Nat.le_of_ble_eq_true rfl) (zRm (by omega)) ⟨Nat.le_refl _, Nat.le_refl _⟩ (x_fYa_xOf hG (d - 1) (by omega) o ho a3 m _ (zw_b1 h)) (fun r16 m17 q => ?_)
        obtain ⟨rfl, h⟩ := q
        exact zr_sub [0, 1, 2, 3, 4, 5] rfl (hJ51 r16 h)
      · rw [if_neg q] at h
        refine zr_iload_n X dX8_turn_34 3 rfl ?_
        refine zr_aload_n X dX8_turn_35 0 rfl ?_
        refine zr_iload X dX8_turn_36 5 rfl ?_
        refine zr_callV_i (As := [.int a3]) (st := [.int ((m.1 o 0) - 1)]) (d := d - 1) X dX8_turn_38 wm_X8_56 my_X8_xOf mv_X8_xOf ho rfl (Nat.le_of_ble_eq_true rfl) (zRm (by omega)) ⟨Nat.le_refl _, Nat.le_refl _⟩ (x_fYa_xOf hG (d - 1) (by omega) o ho a3 m _ (zw_b1 h)) (fun r18 m19 q => ?_)
        obtain ⟨rfl, h⟩ := q
        refine zr_isub X dX8_turn_41 ?_
        refine zr_goto (tgt := 51) X dX8_turn_42 (by decide) ?_
        exact zr_sub [0, 1, 2, 3, 4, 5] rfl (hJ51 (((m.1 o 0) - 1) - r18) h)

set_option maxRecDepth 100000 in
set_option maxHeartbeats 4000000 in
theorem x_fRe_isFull {l : Launch} {S : State} {D : va_G} {cA : Nat → ClassId} {tb sx : Nat → Nat} (hG : zv_G S D cA tb sx) (d : Nat) (hd : 1 ≤ d) (m : zv_M) (P : Int32 → Prop) (h : zw (fRe_isFull m) P) : zv_Met l S D cA d 0 0 yX9_isFull cX9_isFull 1 (some .boolean) [.ref (S.heap.size + 33)] SH0 m (zq_i SH0 (fun v m' => m = m' ∧ P v)) := by
  refine zv_met false hG pf_X9_isFull (fun z => by cases z) (Nat.le_of_ble_eq_true rfl) [(0, .ref (S.heap.size + 33))] rfl (fun p e s mi args below meth c X => ?_)
  rw [fRe_isFull] at h
  refine zr_aload_n X dX9_isFull_0 0 rfl ?_
  refine zr_getI X dX9_isFull_1 zd_X9_15 rfl zo_33 (by rw [zk_9 zo_33]; decide) ?_
  refine zr_aload_n X dX9_isFull_4 0 rfl ?_
  refine zr_getR X dX9_isFull_5 zd_X9_9 rfl zo_33 zl_33_0 ?_
  refine zr_alen (v := 100) X dX9_isFull_8 za_34 (by decide) rfl ?_
  refine zr_icmp_lt (tgt := 16) X dX9_isFull_9 (by decide) (fun q => ?_) (fun q => ?_)
  · rw [if_pos q] at h
    refine zr_iconst (v := 0) X dX9_isFull_16 (by decide) ?_
    exact zr_iret X dX9_isFull_17 rfl ⟨Nat.le_refl _, Nat.le_refl _⟩ ⟨rfl, _, rfl, rfl, h⟩
  · rw [if_neg q] at h
    refine zr_iconst (v := 1) X dX9_isFull_12 (by decide) ?_
    refine zr_goto (tgt := 17) X dX9_isFull_13 (by decide) ?_
    exact zr_iret X dX9_isFull_17 rfl ⟨Nat.le_refl _, Nat.le_refl _⟩ ⟨rfl, _, rfl, rfl, h⟩

set_option maxRecDepth 100000 in
set_option maxHeartbeats 4000000 in
theorem x_fRe_add {l : Launch} {S : State} {D : va_G} {cA : Nat → ClassId} {tb sx : Nat → Nat} (hG : zv_G S D cA tb sx) (d : Nat) (hd : 1 ≤ d) (p1 : Int32) (m : zv_M) (P : zv_M → Prop) (h : zw (fRe_add p1 m) P) : zv_Met l S D cA d 0 0 yX9_add cX9_add 2 none [.ref (S.heap.size + 33), .int p1] SH0 m (zq_v SH0 P) := by
  refine zv_met false hG pf_X9_add (fun z => by cases z) (Nat.le_of_ble_eq_true rfl) [(0, .ref (S.heap.size + 33)), (1, .int p1)] rfl (fun p e s mi args below meth c X => ?_)
  rw [fRe_add] at h
  refine zr_aload_n X dX9_add_0 0 rfl ?_
  refine zr_getI X dX9_add_1 zd_X9_15 rfl zo_33 (by rw [zk_9 zo_33]; decide) ?_
  refine zr_if_lt (tgt := 40) X dX9_add_4 (by decide) (fun q => ?_) (fun q => ?_)
  · rw [if_pos q] at h
    exact zr_vret X dX9_add_40 ⟨Nat.le_refl _, Nat.le_refl _⟩ ⟨rfl, rfl, h⟩
  · rw [if_neg q] at h
    refine zr_aload_n X dX9_add_7 0 rfl ?_
    refine zr_getI X dX9_add_8 zd_X9_15 rfl zo_33 (by rw [zk_9 zo_33]; decide) ?_
    refine zr_aload_n X dX9_add_11 0 rfl ?_
    refine zr_getR X dX9_add_12 zd_X9_9 rfl zo_33 zl_33_0 ?_
    refine zr_alen (v := 100) X dX9_add_15 za_34 (by decide) rfl ?_
    refine zr_icmp_ge (tgt := 40) X dX9_add_16 (by decide) (fun q => ?_) (fun q => ?_)
    · rw [if_neg q] at h
      exact zr_vret X dX9_add_40 ⟨Nat.le_refl _, Nat.le_refl _⟩ ⟨rfl, rfl, h⟩
    · rw [if_pos q] at h
      refine zr_aload_n X dX9_add_19 0 rfl ?_
      refine zr_getR X dX9_add_20 zd_X9_9 rfl zo_33 zl_33_0 ?_
      refine zr_aload_n X dX9_add_23 0 rfl ?_
      refine zr_getI X dX9_add_24 zd_X9_15 rfl zo_33 (by rw [zk_9 zo_33]; decide) ?_
      refine zr_iload_n X dX9_add_27 1 rfl ?_
      refine zr_i2b X dX9_add_28 ?_
      obtain ⟨g0, h⟩ := zg_e h
      refine zr_bast X dX9_add_29 za_34 (zI_in g0) ?_
      refine zr_aload_n X dX9_add_30 0 rfl ?_
      refine zr_dup X dX9_add_31 rfl ?_
      refine zr_getI X dX9_add_32 zd_X9_15 rfl zo_33 (by rw [zk_9 zo_33]; decide) ?_
      refine zr_iconst (v := 1) X dX9_add_35 (by decide) ?_
      refine zr_iadd X dX9_add_36 ?_
      refine zr_put X dX9_add_37 zd_X9_15 rfl rfl rfl zo_33 (by rw [zk_9 zo_33]; decide) ?_
      exact zr_vret X dX9_add_40 ⟨Nat.le_refl _, Nat.le_refl _⟩ ⟨rfl, rfl, h⟩

set_option maxRecDepth 100000 in
set_option maxHeartbeats 4000000 in
theorem x_fRe_moveTo {l : Launch} {S : State} {D : va_G} {cA : Nat → ClassId} {tb sx : Nat → Nat} (hG : zv_G S D cA tb sx) (d : Nat) (hd : 1 ≤ d) (p1 : Int32) (m : zv_M) (P : zv_M → Prop) (h : zw (fRe_moveTo p1 m) P) : zv_Met l S D cA d 0 0 yX9_moveTo cX9_moveTo 2 none [.ref (S.heap.size + 33), .int p1] SH0 m (zq_v SH0 P) := by
  refine zv_met false hG pf_X9_moveTo (fun z => by cases z) (Nat.le_of_ble_eq_true rfl) [(0, .ref (S.heap.size + 33)), (1, .int p1)] rfl (fun p e s mi args below meth c X => ?_)
  rw [fRe_moveTo] at h
  refine zr_aload_n X dX9_moveTo_0 0 rfl ?_
  refine zr_iload_n X dX9_moveTo_1 1 rfl ?_
  refine zr_put X dX9_moveTo_2 zd_X9_32 rfl rfl rfl zo_33 (by rw [zk_9 zo_33]; decide) ?_
  refine zr_aload_n X dX9_moveTo_5 0 rfl ?_
  refine zr_iload_n X dX9_moveTo_6 1 rfl ?_
  refine zr_if_lt (tgt := 36) X dX9_moveTo_7 (by decide) (fun q => ?_) (fun q => ?_)
  · rw [if_pos q] at h
    refine zr_iconst (v := (-1)) X dX9_moveTo_36 (by decide) ?_
    refine zr_put X dX9_moveTo_37 zd_X9_35 rfl rfl rfl zo_33 (by rw [zk_9 zo_33]; decide) ?_
    exact zr_vret X dX9_moveTo_40 ⟨Nat.le_refl _, Nat.le_refl _⟩ ⟨rfl, rfl, h⟩
  · rw [if_neg q] at h
    refine zr_iload_n X dX9_moveTo_10 1 rfl ?_
    refine zr_aload_n X dX9_moveTo_11 0 rfl ?_
    refine zr_getI X dX9_moveTo_12 zd_X9_15 rfl zo_33 (by rw [zk_9 zo_33]; decide) ?_
    refine zr_icmp_ge (tgt := 36) X dX9_moveTo_15 (by decide) (fun q => ?_) (fun q => ?_)
    · rw [if_neg q] at h
      refine zr_iconst (v := (-1)) X dX9_moveTo_36 (by decide) ?_
      refine zr_put X dX9_moveTo_37 zd_X9_35 rfl rfl rfl zo_33 (by rw [zk_9 zo_33]; decide) ?_
      exact zr_vret X dX9_moveTo_40 ⟨Nat.le_refl _, Nat.le_refl _⟩ ⟨rfl, rfl, h⟩
    · rw [if_pos q] at h
      refine zr_iload_n X dX9_moveTo_18 1 rfl ?_
      refine zr_aload_n X dX9_moveTo_19 0 rfl ?_
      refine zr_getR X dX9_moveTo_20 zd_X9_9 rfl zo_33 zl_33_0 ?_
      refine zr_alen (v := 100) X dX9_moveTo_23 za_34 (by decide) rfl ?_
      refine zr_icmp_ge (tgt := 36) X dX9_moveTo_24 (by decide) (fun q => ?_) (fun q => ?_)
      · rw [if_neg q] at h
        refine zr_iconst (v := (-1)) X dX9_moveTo_36 (by decide) ?_
        refine zr_put X dX9_moveTo_37 zd_X9_35 rfl rfl rfl zo_33 (by rw [zk_9 zo_33]; decide) ?_
        exact zr_vret X dX9_moveTo_40 ⟨Nat.le_refl _, Nat.le_refl _⟩ ⟨rfl, rfl, h⟩
      · rw [if_pos q] at h
        refine zr_aload_n X dX9_moveTo_27 0 rfl ?_
        refine zr_getR X dX9_moveTo_28 zd_X9_9 rfl zo_33 zl_33_0 ?_
        refine zr_iload_n X dX9_moveTo_31 1 rfl ?_
        obtain ⟨g0, h⟩ := zg_e h
        refine zr_bald X dX9_moveTo_32 za_34 (zI_in g0) ?_
        refine zr_goto (tgt := 37) X dX9_moveTo_33 (by decide) ?_
        refine zr_put X dX9_moveTo_37 zd_X9_35 rfl rfl rfl zo_33 (by rw [zk_9 zo_33]; decide) ?_
        exact zr_vret X dX9_moveTo_40 ⟨Nat.le_refl _, Nat.le_refl _⟩ ⟨rfl, rfl, h⟩

set_option maxRecDepth 100000 in
set_option maxHeartbeats 4000000 in
theorem x_fRe_readWord {l : Launch} {S : State} {D : va_G} {cA : Nat → ClassId} {tb sx : Nat → Nat} (hG : zv_G S D cA tb sx) (d : Nat) (hd : 5 ≤ d) (p1 : Nat) (hp1 : p1 < 6) (m : zv_M) (P : zv_M → Prop) (h : zw (fRe_readWord p1 m) P) : zv_Met l S D cA d 0 0 yX9_readWord cX9_readWord 3 none [.ref (S.heap.size + 33), .ref (sx p1)] SH0 m (zq_v SH0 P) := by
  refine zv_met false hG pf_X9_readWord (fun z => by cases z) (Nat.le_of_ble_eq_true rfl) [(0, .ref (S.heap.size + 33)), (1, .ref (sx p1))] rfl (fun p e s mi args below meth c X => ?_)
  rw [fRe_readWord] at h
  refine zr_iconst (v := 0) X dX9_readWord_0 (by decide) ?_
  refine zr_istore_n (lo' := [(2, .int 0), (0, .ref (S.heap.size + 33)), (1, .ref (sx p1))]) X dX9_readWord_1 (by decide) rfl ?_
  refine zr_sub [1, 2, 0] rfl ?_
  refine zl_w2 (fun a2 m3 => zv_V S D cA p l e (zv_rm d 0 0) s mi args below meth c 3 (MQ below (zv_Q S D cA (zq_v SH0 P)) args s 0 0 (zv_fr S)) 0 0 2 [(0, .ref (S.heap.size + 33)), (1, .ref (sx p1)), (2, .int a2)] [] SH0 m3) (fRe_readWord_l2 p1) _ (fun P1 hl1 hr1 a2 m3 h => ?_) zFU 0 m (zw_b1 h)
  rw [fRe_readWord_l2] at h
  refine zr_iload_n X dX9_readWord_2 2 rfl ?_
  refine zr_aload_n X dX9_readWord_3 1 rfl ?_
  refine zr_slen X hG dX9_readWord_4 wm_X9_81 hp1 (zRm (d' := d - 1) (by omega)) (by omega) ⟨rfl, rfl⟩ (Nat.le_of_ble_eq_true rfl) ?_
  refine zr_icmp_ge (tgt := 53) X dX9_readWord_7 (by decide) (fun q => ?_) (fun q => ?_)
  · rw [if_neg q] at h
    have h := hr1 _ h
    exact zr_vret X dX9_readWord_53 ⟨Nat.le_refl _, Nat.le_refl _⟩ ⟨rfl, rfl, h⟩
  · rw [if_pos q] at h
    refine zr_aload_n X dX9_readWord_10 0 rfl ?_
    refine zr_getI X dX9_readWord_11 zd_X9_38 rfl zo_33 (by rw [zk_9 zo_33]; decide) ?_
    refine zr_if_ne (tgt := 53) X dX9_readWord_14 (by decide) (fun q => ?_) (fun q => ?_)
    · rw [if_neg q] at h
      have h := hr1 _ h
      exact zr_vret X dX9_readWord_53 ⟨Nat.le_refl _, Nat.le_refl _⟩ ⟨rfl, rfl, h⟩
    · rw [if_pos q] at h
      refine zr_aload_n X dX9_readWord_17 0 rfl ?_
      refine zr_getI X dX9_readWord_18 zd_X9_35 rfl zo_33 (by rw [zk_9 zo_33]; decide) ?_
      refine zr_aload_n X dX9_readWord_21 1 rfl ?_
      refine zr_iload_n X dX9_readWord_22 2 rfl ?_
      obtain ⟨g0, h⟩ := zg_e h
      refine zr_schr X hG dX9_readWord_23 wm_X9_85 hp1 (zI_in g0) (zRm (d' := d - 1) (by omega)) (by omega) ⟨rfl, rfl⟩ (Nat.le_of_ble_eq_true rfl) ?_
      have hJ47 : ∀ (m4 : zv_M), zw (fRe_readWord_j47 a2 m4) P1 → zv_V S D cA p l e (zv_rm d 0 0) s mi args below meth c 3 (MQ below (zv_Q S D cA (zq_v SH0 P)) args s 0 0 (zv_fr S)) 0 0 47 [(0, .ref (S.heap.size + 33)), (1, .ref (sx p1)), (2, .int a2)] [] SH0 m4 := by
        intro m4 h
        rw [fRe_readWord_j47] at h
        refine zr_iinc (v := a2 + 1) (lo' := [(2, .int (a2 + 1)), (0, .ref (S.heap.size + 33)), (1, .ref (sx p1))]) X dX9_readWord_47 2 rfl rfl (by decide) rfl ?_
        refine zr_goto (tgt := 2) X dX9_readWord_50 (by decide) ?_
        have h := hl1 _ h
        exact zr_sub [1, 2, 0] rfl h
      refine zr_icmp_ne (tgt := 42) X dX9_readWord_26 (by decide) (fun q => ?_) (fun q => ?_)
      · rw [if_neg q] at h
        refine zr_aload_n X dX9_readWord_42 0 rfl ?_
        refine zr_iconst (v := 1) X dX9_readWord_43 (by decide) ?_
        refine zr_put X dX9_readWord_44 zd_X9_38 rfl rfl rfl zo_33 (by rw [zk_9 zo_33]; decide) ?_
        exact zr_sub [0, 1, 2] rfl (hJ47 (wI m3 33 8 1) h)
      · rw [if_pos q] at h
        refine zr_aload_n X dX9_readWord_29 0 rfl ?_
        refine zr_aload_n X dX9_readWord_30 0 rfl ?_
        refine zr_getI X dX9_readWord_31 zd_X9_32 rfl zo_33 (by rw [zk_9 zo_33]; decide) ?_
        refine zr_iconst (v := 1) X dX9_readWord_34 (by decide) ?_
        refine zr_iadd X dX9_readWord_35 ?_
        refine zr_callV_v (As := [.int ((m3.1 33 6) + 1)]) (st := []) (d := d - 1) X dX9_readWord_36 wm_X9_44 my_X9_moveTo mv_X9_moveTo zo_33 rfl (Nat.le_of_ble_eq_true rfl) (zRm (by omega)) ⟨Nat.le_refl _, Nat.le_refl _⟩ (x_fRe_moveTo hG (d - 1) (by omega) ((m3.1 33 6) + 1) m3 _ (zw_b1 h)) (fun m5 q => ?_)
        replace h := q
        refine zr_goto (tgt := 47) X dX9_readWord_39 (by decide) ?_
        exact zr_sub [0, 1, 2] rfl (hJ47 m5 h)

set_option maxRecDepth 100000 in
set_option maxHeartbeats 4000000 in
theorem x_fRe_readNumber {l : Launch} {S : State} {D : va_G} {cA : Nat → ClassId} {tb sx : Nat → Nat} (hG : zv_G S D cA tb sx) (d : Nat) (hd : 2 ≤ d) (m : zv_M) (P : Int32 → zv_M → Prop) (h : zw2 (fRe_readNumber m) P) : zv_Met l S D cA d 0 0 yX9_readNumber cX9_readNumber 2 (some .int) [.ref (S.heap.size + 33)] SH0 m (zq_i SH0 P) := by
  refine zv_met false hG pf_X9_readNumber (fun z => by cases z) (Nat.le_of_ble_eq_true rfl) [(0, .ref (S.heap.size + 33))] rfl (fun p e s mi args below meth c X => ?_)
  rw [fRe_readNumber] at h
  refine zr_aload_n X dX9_readNumber_0 0 rfl ?_
  refine zr_getI X dX9_readNumber_1 zd_X9_38 rfl zo_33 (by rw [zk_9 zo_33]; decide) ?_
  refine zr_if_ne (tgt := 25) X dX9_readNumber_4 (by decide) (fun q => ?_) (fun q => ?_)
  · rw [if_neg q] at h
    refine zr_aload_n X dX9_readNumber_25 0 rfl ?_
    refine zr_iconst (v := 1) X dX9_readNumber_26 (by decide) ?_
    refine zr_put X dX9_readNumber_27 zd_X9_38 rfl rfl rfl zo_33 (by rw [zk_9 zo_33]; decide) ?_
    refine zr_iconst (v := 0) X dX9_readNumber_30 (by decide) ?_
    exact zr_iret X dX9_readNumber_31 rfl ⟨Nat.le_refl _, Nat.le_refl _⟩ ⟨rfl, _, rfl, h⟩
  · rw [if_pos q] at h
    refine zr_aload_n X dX9_readNumber_7 0 rfl ?_
    refine zr_getI X dX9_readNumber_8 zd_X9_35 rfl zo_33 (by rw [zk_9 zo_33]; decide) ?_
    refine zr_bipush (v := 48) X dX9_readNumber_11 (by decide) ?_
    refine zr_icmp_lt (tgt := 25) X dX9_readNumber_13 (by decide) (fun q => ?_) (fun q => ?_)
    · rw [if_pos q] at h
      refine zr_aload_n X dX9_readNumber_25 0 rfl ?_
      refine zr_iconst (v := 1) X dX9_readNumber_26 (by decide) ?_
      refine zr_put X dX9_readNumber_27 zd_X9_38 rfl rfl rfl zo_33 (by rw [zk_9 zo_33]; decide) ?_
      refine zr_iconst (v := 0) X dX9_readNumber_30 (by decide) ?_
      exact zr_iret X dX9_readNumber_31 rfl ⟨Nat.le_refl _, Nat.le_refl _⟩ ⟨rfl, _, rfl, h⟩
    · rw [if_neg q] at h
      refine zr_aload_n X dX9_readNumber_16 0 rfl ?_
      refine zr_getI X dX9_readNumber_17 zd_X9_35 rfl zo_33 (by rw [zk_9 zo_33]; decide) ?_
      refine zr_bipush (v := 57) X dX9_readNumber_20 (by decide) ?_
      refine zr_icmp_le (tgt := 32) X dX9_readNumber_22 (by decide) (fun q => ?_) (fun q => ?_)
      · rw [if_neg q] at h
        refine zr_aload_n X dX9_readNumber_32 0 rfl ?_
        refine zr_getI X dX9_readNumber_33 zd_X9_35 rfl zo_33 (by rw [zk_9 zo_33]; decide) ?_
        refine zr_bipush (v := 48) X dX9_readNumber_36 (by decide) ?_
        refine zr_isub X dX9_readNumber_38 ?_
        refine zr_istore_n (lo' := [(1, .int ((m.1 33 7) - 48)), (0, .ref (S.heap.size + 33))]) X dX9_readNumber_39 (by decide) rfl ?_
        refine zr_aload_n X dX9_readNumber_40 1 rfl ?_
        refine zr_aload_n X dX9_readNumber_41 1 rfl ?_
        refine zr_getI X dX9_readNumber_42 zd_X9_32 rfl zo_33 (by rw [zk_9 zo_33]; decide) ?_
        refine zr_iconst (v := 1) X dX9_readNumber_45 (by decide) ?_
        refine zr_iadd X dX9_readNumber_46 ?_
        refine zr_callV_v (As := [.int ((m.1 33 6) + 1)]) (st := []) (d := d - 1) X dX9_readNumber_47 wm_X9_44 my_X9_moveTo mv_X9_moveTo zo_33 rfl (Nat.le_of_ble_eq_true rfl) (zRm (by omega)) ⟨Nat.le_refl _, Nat.le_refl _⟩ (x_fRe_moveTo hG (d - 1) (by omega) ((m.1 33 6) + 1) m _ (zw_b12 h)) (fun m1 q => ?_)
        replace h := q
        refine zr_aload_n X dX9_readNumber_50 1 rfl ?_
        refine zr_getI X dX9_readNumber_51 zd_X9_35 rfl zo_33 (by rw [zk_9 zo_33]; decide) ?_
        refine zr_bipush (v := 48) X dX9_readNumber_54 (by decide) ?_
        refine zr_icmp_lt (tgt := 91) X dX9_readNumber_56 (by decide) (fun q => ?_) (fun q => ?_)
        · rw [if_pos q] at h
          refine zr_iload_n X dX9_readNumber_91 0 rfl ?_
          exact zr_iret X dX9_readNumber_92 rfl ⟨Nat.le_refl _, Nat.le_refl _⟩ ⟨rfl, _, rfl, h⟩
        · rw [if_neg q] at h
          refine zr_aload_n X dX9_readNumber_59 1 rfl ?_
          refine zr_getI X dX9_readNumber_60 zd_X9_35 rfl zo_33 (by rw [zk_9 zo_33]; decide) ?_
          refine zr_bipush (v := 57) X dX9_readNumber_63 (by decide) ?_
          refine zr_icmp_gt (tgt := 91) X dX9_readNumber_65 (by decide) (fun q => ?_) (fun q => ?_)
          · rw [if_pos q] at h
            refine zr_iload_n X dX9_readNumber_91 0 rfl ?_
            exact zr_iret X dX9_readNumber_92 rfl ⟨Nat.le_refl _, Nat.le_refl _⟩ ⟨rfl, _, rfl, h⟩
          · rw [if_neg q] at h
            refine zr_iload_n X dX9_readNumber_68 0 rfl ?_
            refine zr_bipush (v := 10) X dX9_readNumber_69 (by decide) ?_
            refine zr_imul X dX9_readNumber_71 ?_
            refine zr_aload_n X dX9_readNumber_72 1 rfl ?_
            refine zr_getI X dX9_readNumber_73 zd_X9_35 rfl zo_33 (by rw [zk_9 zo_33]; decide) ?_
            refine zr_iadd X dX9_readNumber_76 ?_
            refine zr_bipush (v := 48) X dX9_readNumber_77 (by decide) ?_
            refine zr_isub X dX9_readNumber_79 ?_
            refine zr_istore_n (lo' := [(1, .int (((((m.1 33 7) - 48) * 10) + (m1.1 33 7)) - 48)), (0, .ref (S.heap.size + 33))]) X dX9_readNumber_80 (by decide) rfl ?_
            refine zr_aload_n X dX9_readNumber_81 1 rfl ?_
            refine zr_aload_n X dX9_readNumber_82 1 rfl ?_
            refine zr_getI X dX9_readNumber_83 zd_X9_32 rfl zo_33 (by rw [zk_9 zo_33]; decide) ?_
            refine zr_iconst (v := 1) X dX9_readNumber_86 (by decide) ?_
            refine zr_iadd X dX9_readNumber_87 ?_
            refine zr_callV_v (As := [.int ((m1.1 33 6) + 1)]) (st := []) (d := d - 1) X dX9_readNumber_88 wm_X9_44 my_X9_moveTo mv_X9_moveTo zo_33 rfl (Nat.le_of_ble_eq_true rfl) (zRm (by omega)) ⟨Nat.le_refl _, Nat.le_refl _⟩ (x_fRe_moveTo hG (d - 1) (by omega) ((m1.1 33 6) + 1) m1 _ (zw_b12 h)) (fun m2 q => ?_)
            replace h := q
            refine zr_iload_n X dX9_readNumber_91 0 rfl ?_
            exact zr_iret X dX9_readNumber_92 rfl ⟨Nat.le_refl _, Nat.le_refl _⟩ ⟨rfl, _, rfl, h⟩
      · rw [if_pos q] at h
        refine zr_aload_n X dX9_readNumber_25 0 rfl ?_
        refine zr_iconst (v := 1) X dX9_readNumber_26 (by decide) ?_
        refine zr_put X dX9_readNumber_27 zd_X9_38 rfl rfl rfl zo_33 (by rw [zk_9 zo_33]; decide) ?_
        refine zr_iconst (v := 0) X dX9_readNumber_30 (by decide) ?_
        exact zr_iret X dX9_readNumber_31 rfl ⟨Nat.le_refl _, Nat.le_refl _⟩ ⟨rfl, _, rfl, h⟩

set_option maxRecDepth 100000 in
set_option maxHeartbeats 4000000 in
theorem x_fRe_isLetter {l : Launch} {S : State} {D : va_G} {cA : Nat → ClassId} {tb sx : Nat → Nat} (hG : zv_G S D cA tb sx) (d : Nat) (hd : 1 ≤ d) (p1 : Int32) (m : zv_M) (P : Int32 → Prop) (h : zw (fRe_isLetter p1) P) : zv_Met l S D cA d 0 0 yX9_isLetter cX9_isLetter 2 (some .boolean) [.ref (S.heap.size + 33), .int p1] SH0 m (zq_i SH0 (fun v m' => m = m' ∧ P v)) := by
  refine zv_met false hG pf_X9_isLetter (fun z => by cases z) (Nat.le_of_ble_eq_true rfl) [(0, .ref (S.heap.size + 33)), (1, .int p1)] rfl (fun p e s mi args below meth c X => ?_)
  rw [fRe_isLetter] at h
  refine zr_iload_n X dX9_isLetter_0 1 rfl ?_
  refine zr_bipush (v := 120) X dX9_isLetter_1 (by decide) ?_
  refine zr_icmp_eq (tgt := 36) X dX9_isLetter_3 (by decide) (fun q => ?_) (fun q => ?_)
  · rw [if_pos q] at h
    refine zr_iconst (v := 1) X dX9_isLetter_36 (by decide) ?_
    refine zr_goto (tgt := 41) X dX9_isLetter_37 (by decide) ?_
    exact zr_iret X dX9_isLetter_41 rfl ⟨Nat.le_refl _, Nat.le_refl _⟩ ⟨rfl, _, rfl, rfl, h⟩
  · rw [if_neg q] at h
    refine zr_iload_n X dX9_isLetter_6 1 rfl ?_
    refine zr_bipush (v := 121) X dX9_isLetter_7 (by decide) ?_
    refine zr_icmp_eq (tgt := 36) X dX9_isLetter_9 (by decide) (fun q => ?_) (fun q => ?_)
    · rw [if_pos q] at h
      refine zr_iconst (v := 1) X dX9_isLetter_36 (by decide) ?_
      refine zr_goto (tgt := 41) X dX9_isLetter_37 (by decide) ?_
      exact zr_iret X dX9_isLetter_41 rfl ⟨Nat.le_refl _, Nat.le_refl _⟩ ⟨rfl, _, rfl, rfl, h⟩
    · rw [if_neg q] at h
      refine zr_iload_n X dX9_isLetter_12 1 rfl ?_
      refine zr_bipush (v := 115) X dX9_isLetter_13 (by decide) ?_
      refine zr_icmp_eq (tgt := 36) X dX9_isLetter_15 (by decide) (fun q => ?_) (fun q => ?_)
      · rw [if_pos q] at h
        refine zr_iconst (v := 1) X dX9_isLetter_36 (by decide) ?_
        refine zr_goto (tgt := 41) X dX9_isLetter_37 (by decide) ?_
        exact zr_iret X dX9_isLetter_41 rfl ⟨Nat.le_refl _, Nat.le_refl _⟩ ⟨rfl, _, rfl, rfl, h⟩
      · rw [if_neg q] at h
        refine zr_iload_n X dX9_isLetter_18 1 rfl ?_
        refine zr_bipush (v := 100) X dX9_isLetter_19 (by decide) ?_
        refine zr_icmp_eq (tgt := 36) X dX9_isLetter_21 (by decide) (fun q => ?_) (fun q => ?_)
        · rw [if_pos q] at h
          refine zr_iconst (v := 1) X dX9_isLetter_36 (by decide) ?_
          refine zr_goto (tgt := 41) X dX9_isLetter_37 (by decide) ?_
          exact zr_iret X dX9_isLetter_41 rfl ⟨Nat.le_refl _, Nat.le_refl _⟩ ⟨rfl, _, rfl, rfl, h⟩
        · rw [if_neg q] at h
          refine zr_iload_n X dX9_isLetter_24 1 rfl ?_
          refine zr_bipush (v := 110) X dX9_isLetter_25 (by decide) ?_
          refine zr_icmp_eq (tgt := 36) X dX9_isLetter_27 (by decide) (fun q => ?_) (fun q => ?_)
          · rw [if_pos q] at h
            refine zr_iconst (v := 1) X dX9_isLetter_36 (by decide) ?_
            refine zr_goto (tgt := 41) X dX9_isLetter_37 (by decide) ?_
            exact zr_iret X dX9_isLetter_41 rfl ⟨Nat.le_refl _, Nat.le_refl _⟩ ⟨rfl, _, rfl, rfl, h⟩
          · rw [if_neg q] at h
            refine zr_iload_n X dX9_isLetter_30 1 rfl ?_
            refine zr_bipush (v := 119) X dX9_isLetter_31 (by decide) ?_
            refine zr_icmp_ne (tgt := 40) X dX9_isLetter_33 (by decide) (fun q => ?_) (fun q => ?_)
            · rw [if_neg q] at h
              refine zr_iconst (v := 0) X dX9_isLetter_40 (by decide) ?_
              exact zr_iret X dX9_isLetter_41 rfl ⟨Nat.le_refl _, Nat.le_refl _⟩ ⟨rfl, _, rfl, rfl, h⟩
            · rw [if_pos q] at h
              refine zr_iconst (v := 1) X dX9_isLetter_36 (by decide) ?_
              refine zr_goto (tgt := 41) X dX9_isLetter_37 (by decide) ?_
              exact zr_iret X dX9_isLetter_41 rfl ⟨Nat.le_refl _, Nat.le_refl _⟩ ⟨rfl, _, rfl, rfl, h⟩

set_option maxRecDepth 100000 in
set_option maxHeartbeats 4000000 in
theorem x_fRe_numberOf {l : Launch} {S : State} {D : va_G} {cA : Nat → ClassId} {tb sx : Nat → Nat} (hG : zv_G S D cA tb sx) (d : Nat) (hd : 1 ≤ d) (p1 : Int32) (p2 : Int32) (p3 : Int32) (m : zv_M) (P : Int32 → Prop) (h : zw (fRe_numberOf p1 p2 p3 m) P) : zv_Met l S D cA d 0 0 yX9_numberOf cX9_numberOf 4 (some .int) [.ref (S.heap.size + 33), .int p1, .int p2, .int p3] SH0 m (zq_i SH0 (fun v m' => m = m' ∧ P v)) := by
  refine zv_met false hG pf_X9_numberOf (fun z => by cases z) (Nat.le_of_ble_eq_true rfl) [(0, .ref (S.heap.size + 33)), (1, .int p1), (2, .int p2), (3, .int p3)] rfl (fun p e s mi args below meth c X => ?_)
  rw [fRe_numberOf] at h
  refine zr_iload_n X dX9_numberOf_0 1 rfl ?_
  by_cases e0 : p1 = 100
  · rw [if_pos e0] at h
    refine zr_lookup (off := 59) (tgt := 60) X dX9_numberOf_1 (by decide) (by rw [e0]; decide) (by decide) ?_
    refine zr_iload_n X dX9_numberOf_60 2 rfl ?_
    refine zr_iload_n X dX9_numberOf_61 3 rfl ?_
    refine zr_icmp_ge (tgt := 71) X dX9_numberOf_62 (by decide) (fun q => ?_) (fun q => ?_)
    · rw [if_neg q] at h
      refine zr_iload_n X dX9_numberOf_71 2 rfl ?_
      refine zr_iload_n X dX9_numberOf_72 3 rfl ?_
      refine zr_isub X dX9_numberOf_73 ?_
      exact zr_iret X dX9_numberOf_74 rfl ⟨Nat.le_refl _, Nat.le_refl _⟩ ⟨rfl, _, rfl, rfl, h⟩
    · rw [if_pos q] at h
      refine zr_iload_n X dX9_numberOf_65 3 rfl ?_
      refine zr_iload_n X dX9_numberOf_66 2 rfl ?_
      refine zr_isub X dX9_numberOf_67 ?_
      refine zr_goto (tgt := 74) X dX9_numberOf_68 (by decide) ?_
      exact zr_iret X dX9_numberOf_74 rfl ⟨Nat.le_refl _, Nat.le_refl _⟩ ⟨rfl, _, rfl, rfl, h⟩
  rw [if_neg e0] at h
  by_cases e1 : p1 = 110
  · rw [if_pos e1] at h
    refine zr_lookup (off := 74) (tgt := 75) X dX9_numberOf_1 (by decide) (by rw [e1]; decide) (by decide) ?_
    refine zr_iload_n X dX9_numberOf_75 3 rfl ?_
    refine zr_aload_n X dX9_numberOf_76 0 rfl ?_
    refine zr_getI X dX9_numberOf_77 zd_X9_41 rfl zo_33 (by rw [zk_9 zo_33]; decide) ?_
    refine zr_imul X dX9_numberOf_80 ?_
    refine zr_iload_n X dX9_numberOf_81 2 rfl ?_
    refine zr_iadd X dX9_numberOf_82 ?_
    exact zr_iret X dX9_numberOf_83 rfl ⟨Nat.le_refl _, Nat.le_refl _⟩ ⟨rfl, _, rfl, rfl, h⟩
  rw [if_neg e1] at h
  by_cases e2 : p1 = 115
  · rw [if_pos e2] at h
    refine zr_lookup (off := 55) (tgt := 56) X dX9_numberOf_1 (by decide) (by rw [e2]; decide) (by decide) ?_
    refine zr_iload_n X dX9_numberOf_56 2 rfl ?_
    refine zr_iload_n X dX9_numberOf_57 3 rfl ?_
    refine zr_iadd X dX9_numberOf_58 ?_
    exact zr_iret X dX9_numberOf_59 rfl ⟨Nat.le_refl _, Nat.le_refl _⟩ ⟨rfl, _, rfl, rfl, h⟩
  rw [if_neg e2] at h
  by_cases e3 : p1 = 120
  · rw [if_pos e3] at h
    refine zr_lookup (off := 51) (tgt := 52) X dX9_numberOf_1 (by decide) (by rw [e3]; decide) (by decide) ?_
    refine zr_iload_n X dX9_numberOf_52 2 rfl ?_
    exact zr_iret X dX9_numberOf_53 rfl ⟨Nat.le_refl _, Nat.le_refl _⟩ ⟨rfl, _, rfl, rfl, h⟩
  rw [if_neg e3] at h
  by_cases e4 : p1 = 121
  · rw [if_pos e4] at h
    refine zr_lookup (off := 53) (tgt := 54) X dX9_numberOf_1 (by decide) (by rw [e4]; decide) (by decide) ?_
    refine zr_iload_n X dX9_numberOf_54 3 rfl ?_
    exact zr_iret X dX9_numberOf_55 rfl ⟨Nat.le_refl _, Nat.le_refl _⟩ ⟨rfl, _, rfl, rfl, h⟩
  rw [if_neg e4] at h
  refine zr_lookup (off := 83) (tgt := 84) X dX9_numberOf_1 (by decide) (by rw [lv_osw e0 (by decide), lv_osw e1 (by decide), lv_osw e2 (by decide), lv_osw e3 (by decide), lv_osw e4 (by decide)]; rfl) (by decide) ?_
  refine zr_aload_n X dX9_numberOf_84 0 rfl ?_
  refine zr_getI X dX9_numberOf_85 zd_X9_41 rfl zo_33 (by rw [zk_9 zo_33]; decide) ?_
  exact zr_iret X dX9_numberOf_88 rfl ⟨Nat.le_refl _, Nat.le_refl _⟩ ⟨rfl, _, rfl, rfl, h⟩

set_option maxRecDepth 100000 in
set_option maxHeartbeats 4000000 in
theorem x_fRe_squaresOf {l : Launch} {S : State} {D : va_G} {cA : Nat → ClassId} {tb sx : Nat → Nat} (hG : zv_G S D cA tb sx) (d : Nat) (hd : 2 ≤ d) (p1 : Int32) (p2 : Int32) (p3 : Int32) (m : zv_M) (P : Int32 → Prop) (h : zw (fRe_squaresOf p1 p2 p3 m) P) : zv_Met l S D cA d 0 0 yX9_squaresOf cX9_squaresOf 8 (some .int) [.ref (S.heap.size + 33), .int p1, .int p2, .int p3] SH0 m (zq_i SH0 (fun v m' => m = m' ∧ P v)) := by
  refine zv_met false hG pf_X9_squaresOf (fun z => by cases z) (Nat.le_of_ble_eq_true rfl) [(0, .ref (S.heap.size + 33)), (1, .int p1), (2, .int p2), (3, .int p3)] rfl (fun p e s mi args below meth c X => ?_)
  rw [fRe_squaresOf] at h
  refine zr_iconst (v := 0) X dX9_squaresOf_0 (by decide) ?_
  refine zr_istore (lo' := [(4, .int 0), (0, .ref (S.heap.size + 33)), (1, .int p1), (2, .int p2), (3, .int p3)]) X dX9_squaresOf_1 (by decide) rfl ?_
  refine zr_iconst (v := 0) X dX9_squaresOf_3 (by decide) ?_
  refine zr_istore (lo' := [(5, .int 0), (4, .int 0), (0, .ref (S.heap.size + 33)), (1, .int p1), (2, .int p2), (3, .int p3)]) X dX9_squaresOf_4 (by decide) rfl ?_
  refine zr_sub [2, 3, 4, 5, 1, 0] rfl ?_
  refine zl_w2 (fun a2 a3 => zv_V S D cA p l e (zv_rm d 0 0) s mi args below meth c 8 (MQ below (zv_Q S D cA (zq_i SH0 (fun v m' => m = m' ∧ P v))) args s 0 0 (zv_fr S)) 0 0 6 [(0, .ref (S.heap.size + 33)), (1, .int p1), (2, .int p2), (3, .int p3), (4, .int a2), (5, .int a3)] [] SH0 m) (fRe_squaresOf_l6 p1 p2 p3 m) _ (fun P1 hl1 hr1 a2 a3 h => ?_) zFU 0 0 (zw_b1 h)
  rw [fRe_squaresOf_l6] at h
  refine zr_iload X dX9_squaresOf_6 5 rfl ?_
  refine zr_aload_n X dX9_squaresOf_8 0 rfl ?_
  refine zr_getI X dX9_squaresOf_9 zd_X9_41 rfl zo_33 (by rw [zk_9 zo_33]; decide) ?_
  refine zr_icmp_ge (tgt := 103) X dX9_squaresOf_12 (by decide) (fun q => ?_) (fun q => ?_)
  · rw [if_neg q] at h
    refine zr_iload X dX9_squaresOf_103 4 rfl ?_
    have h := hr1 _ h
    exact zr_iret X dX9_squaresOf_105 rfl ⟨Nat.le_refl _, Nat.le_refl _⟩ ⟨rfl, _, rfl, rfl, h⟩
  · rw [if_pos q] at h
    refine zr_iconst (v := 0) X dX9_squaresOf_15 (by decide) ?_
    refine zr_istore (lo' := [(6, .int 0), (0, .ref (S.heap.size + 33)), (1, .int p1), (2, .int p2), (3, .int p3), (4, .int a2), (5, .int a3)]) X dX9_squaresOf_16 (by decide) rfl ?_
    refine zr_sub [1, 2, 3, 4, 5, 6, 0] rfl ?_
    have hR4 : ∀ (a7 : Int32), zw (some (.inl (a7, a3 + 1)) : Option ((Int32 × Int32) ⊕ (Int32))) P1 → zv_V S D cA p l e (zv_rm d 0 0) s mi args below meth c 8 (MQ below (zv_Q S D cA (zq_i SH0 (fun v m' => m = m' ∧ P v))) args s 0 0 (zv_fr S)) 0 0 97 [(0, .ref (S.heap.size + 33)), (1, .int p1), (2, .int p2), (3, .int p3), (4, .int a7), (5, .int a3)] [] SH0 m := by
      intro a7 h
      refine zr_iinc (v := a3 + 1) (lo' := [(5, .int (a3 + 1)), (0, .ref (S.heap.size + 33)), (1, .int p1), (2, .int p2), (3, .int p3), (4, .int a7)]) X dX9_squaresOf_97 5 rfl rfl (by decide) rfl ?_
      refine zr_goto (tgt := 6) X dX9_squaresOf_100 (by decide) ?_
      have h := hl1 _ h
      exact zr_sub [1, 2, 3, 4, 5, 0] rfl h
    refine zl_w2 (fun a5 a6 => zv_V S D cA p l e (zv_rm d 0 0) s mi args below meth c 8 (MQ below (zv_Q S D cA (zq_i SH0 (fun v m' => m = m' ∧ P v))) args s 0 0 (zv_fr S)) 0 0 18 [(0, .ref (S.heap.size + 33)), (1, .int p1), (2, .int p2), (3, .int p3), (4, .int a5), (5, .int a3), (6, .int a6)] [] SH0 m) (fRe_squaresOf_l18 p1 p2 p3 m a3) _ (fun P4 hl4 hr4 a5 a6 h => ?_) zFU a2 0 (zw_b1 h)
    rw [fRe_squaresOf_l18] at h
    refine zr_iload X dX9_squaresOf_18 6 rfl ?_
    refine zr_aload_n X dX9_squaresOf_20 0 rfl ?_
    refine zr_getI X dX9_squaresOf_21 zd_X9_41 rfl zo_33 (by rw [zk_9 zo_33]; decide) ?_
    refine zr_icmp_ge (tgt := 97) X dX9_squaresOf_24 (by decide) (fun q => ?_) (fun q => ?_)
    · rw [if_neg q] at h
      have h := hr4 _ h
      exact zr_sub [0, 1, 2, 3, 4, 5] rfl (hR4 a5 h)
    · rw [if_pos q] at h
      refine zr_aload_n X dX9_squaresOf_27 0 rfl ?_
      refine zr_iload_n X dX9_squaresOf_28 1 rfl ?_
      refine zr_iload X dX9_squaresOf_29 6 rfl ?_
      refine zr_iload X dX9_squaresOf_31 5 rfl ?_
      refine zr_callV_i (As := [.int p1, .int a6, .int a3]) (st := []) (d := d - 1) X dX9_squaresOf_33 wm_X9_108 my_X9_numberOf mv_X9_numberOf zo_33 rfl (Nat.le_of_ble_eq_true rfl) (zRm (by omega)) ⟨Nat.le_refl _, Nat.le_refl _⟩ (x_fRe_numberOf hG (d - 1) (by omega) p1 a6 a3 m _ (zw_b1 h)) (fun r8 m9 q => ?_)
      obtain ⟨rfl, h⟩ := q
      refine zr_istore (lo' := [(7, .int r8), (0, .ref (S.heap.size + 33)), (1, .int p1), (2, .int p2), (3, .int p3), (4, .int a5), (5, .int a3), (6, .int a6)]) X dX9_squaresOf_36 (by decide) rfl ?_
      refine zr_iload_n X dX9_squaresOf_38 3 rfl ?_
      refine zr_bipush (v := 60) X dX9_squaresOf_39 (by decide) ?_
      have hJ50 : zw (fRe_squaresOf_j50 p2 p3 m a3 a5 a6 r8) P4 → zv_V S D cA p l e (zv_rm d 0 0) s mi args below meth c 8 (MQ below (zv_Q S D cA (zq_i SH0 (fun v m' => m = m' ∧ P v))) args s 0 0 (zv_fr S)) 0 0 50 [(0, .ref (S.heap.size + 33)), (1, .int p1), (2, .int p2), (3, .int p3), (4, .int a5), (5, .int a3), (6, .int a6), (7, .int r8)] [] SH0 m := by
        intro h
        rw [fRe_squaresOf_j50] at h
        refine zr_iload_n X dX9_squaresOf_50 2 rfl ?_
        refine zr_bipush (v := 61) X dX9_squaresOf_51 (by decide) ?_
        have hJ62 : zw (fRe_squaresOf_j62 p2 p3 m a3 a5 a6 r8) P4 → zv_V S D cA p l e (zv_rm d 0 0) s mi args below meth c 8 (MQ below (zv_Q S D cA (zq_i SH0 (fun v m' => m = m' ∧ P v))) args s 0 0 (zv_fr S)) 0 0 62 [(0, .ref (S.heap.size + 33)), (1, .int p1), (2, .int p2), (3, .int p3), (4, .int a5), (5, .int a3), (6, .int a6), (7, .int r8)] [] SH0 m := by
          intro h
          rw [fRe_squaresOf_j62] at h
          refine zr_iload_n X dX9_squaresOf_62 2 rfl ?_
          refine zr_bipush (v := 62) X dX9_squaresOf_63 (by decide) ?_
          refine zr_icmp_ne (tgt := 91) X dX9_squaresOf_65 (by decide) (fun q => ?_) (fun q => ?_)
          · rw [if_neg q] at h
            refine zr_iinc (v := a6 + 1) (lo' := [(6, .int (a6 + 1)), (0, .ref (S.heap.size + 33)), (1, .int p1), (2, .int p2), (3, .int p3), (4, .int a5), (5, .int a3), (7, .int r8)]) X dX9_squaresOf_91 6 rfl rfl (by decide) rfl ?_
            refine zr_goto (tgt := 18) X dX9_squaresOf_94 (by decide) ?_
            have h := hl4 _ h
            exact zr_sub [1, 2, 3, 4, 5, 6, 0] rfl h
          · rw [if_pos q] at h
            refine zr_iload X dX9_squaresOf_68 7 rfl ?_
            refine zr_iload_n X dX9_squaresOf_70 3 rfl ?_
            refine zr_icmp_le (tgt := 91) X dX9_squaresOf_71 (by decide) (fun q => ?_) (fun q => ?_)
            · rw [if_neg q] at h
              refine zr_iinc (v := a6 + 1) (lo' := [(6, .int (a6 + 1)), (0, .ref (S.heap.size + 33)), (1, .int p1), (2, .int p2), (3, .int p3), (4, .int a5), (5, .int a3), (7, .int r8)]) X dX9_squaresOf_91 6 rfl rfl (by decide) rfl ?_
              refine zr_goto (tgt := 18) X dX9_squaresOf_94 (by decide) ?_
              have h := hl4 _ h
              exact zr_sub [1, 2, 3, 4, 5, 6, 0] rfl h
            · rw [if_pos q] at h
              refine zr_iload X dX9_squaresOf_74 4 rfl ?_
              refine zr_iconst (v := 1) X dX9_squaresOf_76 (by decide) ?_
              refine zr_iload X dX9_squaresOf_77 5 rfl ?_
              refine zr_aload_n X dX9_squaresOf_79 0 rfl ?_
              refine zr_getI X dX9_squaresOf_80 zd_X9_41 rfl zo_33 (by rw [zk_9 zo_33]; decide) ?_
              refine zr_imul X dX9_squaresOf_83 ?_
              refine zr_iload X dX9_squaresOf_84 6 rfl ?_
              refine zr_iadd X dX9_squaresOf_86 ?_
              refine zr_ishl X dX9_squaresOf_87 ?_
              refine zr_ior X dX9_squaresOf_88 ?_
              refine zr_istore (lo' := [(4, .int (a5 ||| (1 <<< (((a3 * (m.1 33 9)) + a6) &&& 31)))), (0, .ref (S.heap.size + 33)), (1, .int p1), (2, .int p2), (3, .int p3), (5, .int a3), (6, .int a6), (7, .int r8)]) X dX9_squaresOf_89 (by decide) rfl ?_
              refine zr_iinc (v := a6 + 1) (lo' := [(6, .int (a6 + 1)), (4, .int (a5 ||| (1 <<< (((a3 * (m.1 33 9)) + a6) &&& 31)))), (0, .ref (S.heap.size + 33)), (1, .int p1), (2, .int p2), (3, .int p3), (5, .int a3), (7, .int r8)]) X dX9_squaresOf_91 6 rfl rfl (by decide) rfl ?_
              refine zr_goto (tgt := 18) X dX9_squaresOf_94 (by decide) ?_
              have h := hl4 _ h
              exact zr_sub [2, 3, 4, 5, 1, 6, 0] rfl h
        refine zr_icmp_ne (tgt := 62) X dX9_squaresOf_53 (by decide) (fun q => ?_) (fun q => ?_)
        · rw [if_neg q] at h
          exact zr_sub [0, 1, 2, 3, 4, 5, 6, 7] rfl (hJ62 h)
        · rw [if_pos q] at h
          refine zr_iload X dX9_squaresOf_56 7 rfl ?_
          refine zr_iload_n X dX9_squaresOf_58 3 rfl ?_
          refine zr_icmp_eq (tgt := 74) X dX9_squaresOf_59 (by decide) (fun q => ?_) (fun q => ?_)
          · rw [if_pos q] at h
            refine zr_iload X dX9_squaresOf_74 4 rfl ?_
            refine zr_iconst (v := 1) X dX9_squaresOf_76 (by decide) ?_
            refine zr_iload X dX9_squaresOf_77 5 rfl ?_
            refine zr_aload_n X dX9_squaresOf_79 0 rfl ?_
            refine zr_getI X dX9_squaresOf_80 zd_X9_41 rfl zo_33 (by rw [zk_9 zo_33]; decide) ?_
            refine zr_imul X dX9_squaresOf_83 ?_
            refine zr_iload X dX9_squaresOf_84 6 rfl ?_
            refine zr_iadd X dX9_squaresOf_86 ?_
            refine zr_ishl X dX9_squaresOf_87 ?_
            refine zr_ior X dX9_squaresOf_88 ?_
            refine zr_istore (lo' := [(4, .int (a5 ||| (1 <<< (((a3 * (m.1 33 9)) + a6) &&& 31)))), (0, .ref (S.heap.size + 33)), (1, .int p1), (2, .int p2), (3, .int p3), (5, .int a3), (6, .int a6), (7, .int r8)]) X dX9_squaresOf_89 (by decide) rfl ?_
            refine zr_iinc (v := a6 + 1) (lo' := [(6, .int (a6 + 1)), (4, .int (a5 ||| (1 <<< (((a3 * (m.1 33 9)) + a6) &&& 31)))), (0, .ref (S.heap.size + 33)), (1, .int p1), (2, .int p2), (3, .int p3), (5, .int a3), (7, .int r8)]) X dX9_squaresOf_91 6 rfl rfl (by decide) rfl ?_
            refine zr_goto (tgt := 18) X dX9_squaresOf_94 (by decide) ?_
            have h := hl4 _ h
            exact zr_sub [2, 3, 4, 5, 1, 6, 0] rfl h
          · rw [if_neg q] at h
            exact zr_sub [0, 1, 2, 3, 4, 5, 6, 7] rfl (hJ62 h)
      have hJ74 : zw (fRe_squaresOf_j74 m a3 a5 a6) P4 → zv_V S D cA p l e (zv_rm d 0 0) s mi args below meth c 8 (MQ below (zv_Q S D cA (zq_i SH0 (fun v m' => m = m' ∧ P v))) args s 0 0 (zv_fr S)) 0 0 74 [(0, .ref (S.heap.size + 33)), (1, .int p1), (2, .int p2), (3, .int p3), (4, .int a5), (5, .int a3), (6, .int a6)] [] SH0 m := by
        intro h
        rw [fRe_squaresOf_j74] at h
        refine zr_iload X dX9_squaresOf_74 4 rfl ?_
        refine zr_iconst (v := 1) X dX9_squaresOf_76 (by decide) ?_
        refine zr_iload X dX9_squaresOf_77 5 rfl ?_
        refine zr_aload_n X dX9_squaresOf_79 0 rfl ?_
        refine zr_getI X dX9_squaresOf_80 zd_X9_41 rfl zo_33 (by rw [zk_9 zo_33]; decide) ?_
        refine zr_imul X dX9_squaresOf_83 ?_
        refine zr_iload X dX9_squaresOf_84 6 rfl ?_
        refine zr_iadd X dX9_squaresOf_86 ?_
        refine zr_ishl X dX9_squaresOf_87 ?_
        refine zr_ior X dX9_squaresOf_88 ?_
        refine zr_istore (lo' := [(4, .int (a5 ||| (1 <<< (((a3 * (m.1 33 9)) + a6) &&& 31)))), (0, .ref (S.heap.size + 33)), (1, .int p1), (2, .int p2), (3, .int p3), (5, .int a3), (6, .int a6)]) X dX9_squaresOf_89 (by decide) rfl ?_
        refine zr_iinc (v := a6 + 1) (lo' := [(6, .int (a6 + 1)), (4, .int (a5 ||| (1 <<< (((a3 * (m.1 33 9)) + a6) &&& 31)))), (0, .ref (S.heap.size + 33)), (1, .int p1), (2, .int p2), (3, .int p3), (5, .int a3)]) X dX9_squaresOf_91 6 rfl rfl (by decide) rfl ?_
        refine zr_goto (tgt := 18) X dX9_squaresOf_94 (by decide) ?_
        have h := hl4 _ h
        exact zr_sub [2, 3, 4, 5, 1, 6, 0] rfl h
      have hJ91 : ∀ (a10 : Int32), zw (fRe_squaresOf_j91 a6 a10) P4 → zv_V S D cA p l e (zv_rm d 0 0) s mi args below meth c 8 (MQ below (zv_Q S D cA (zq_i SH0 (fun v m' => m = m' ∧ P v))) args s 0 0 (zv_fr S)) 0 0 91 [(0, .ref (S.heap.size + 33)), (1, .int p1), (2, .int p2), (3, .int p3), (4, .int a10), (5, .int a3), (6, .int a6)] [] SH0 m := by
        intro a10 h
        rw [fRe_squaresOf_j91] at h
        refine zr_iinc (v := a6 + 1) (lo' := [(6, .int (a6 + 1)), (0, .ref (S.heap.size + 33)), (1, .int p1), (2, .int p2), (3, .int p3), (4, .int a10), (5, .int a3)]) X dX9_squaresOf_91 6 rfl rfl (by decide) rfl ?_
        refine zr_goto (tgt := 18) X dX9_squaresOf_94 (by decide) ?_
        have h := hl4 _ h
        exact zr_sub [1, 2, 3, 4, 5, 6, 0] rfl h
      refine zr_icmp_ne (tgt := 50) X dX9_squaresOf_41 (by decide) (fun q => ?_) (fun q => ?_)
      · rw [if_neg q] at h
        exact zr_sub [1, 2, 3, 4, 5, 6, 7, 0] rfl (hJ50 h)
      · rw [if_pos q] at h
        refine zr_iload X dX9_squaresOf_44 0 rfl ?_
        refine zr_iload_n X dX9_squaresOf_46 4 rfl ?_
        refine zr_icmp_lt (tgt := 74) X dX9_squaresOf_47 (by decide) (fun q => ?_) (fun q => ?_)
        · rw [if_pos q] at h
          exact zr_sub [1, 2, 3, 4, 5, 6, 7] rfl (hJ74 h)
        · rw [if_neg q] at h
          exact zr_sub [1, 2, 3, 4, 5, 6, 7, 0] rfl (hJ50 h)

set_option maxRecDepth 100000 in
set_option maxHeartbeats 4000000 in
theorem x_fRe_readTest {l : Launch} {S : State} {D : va_G} {cA : Nat → ClassId} {tb sx : Nat → Nat} (hG : zv_G S D cA tb sx) (d : Nat) (hd : 3 ≤ d) (m : zv_M) (P : Int32 → zv_M → Prop) (h : zw2 (fRe_readTest m) P) : zv_Met l S D cA d 0 0 yX9_readTest cX9_readTest 4 (some .int) [.ref (S.heap.size + 33)] SH0 m (zq_i SH0 P) := by
  refine zv_met false hG pf_X9_readTest (fun z => by cases z) (Nat.le_of_ble_eq_true rfl) [(0, .ref (S.heap.size + 33))] rfl (fun p e s mi args below meth c X => ?_)
  rw [fRe_readTest] at h
  refine zr_aload_n X dX9_readTest_0 0 rfl ?_
  refine zr_getI X dX9_readTest_1 zd_X9_35 rfl zo_33 (by rw [zk_9 zo_33]; decide) ?_
  refine zr_istore_n (lo' := [(1, .int (m.1 33 7)), (0, .ref (S.heap.size + 33))]) X dX9_readTest_4 (by decide) rfl ?_
  refine zr_aload_n X dX9_readTest_5 1 rfl ?_
  refine zr_getI X dX9_readTest_6 zd_X9_38 rfl zo_33 (by rw [zk_9 zo_33]; decide) ?_
  refine zr_if_ne (tgt := 20) X dX9_readTest_9 (by decide) (fun q => ?_) (fun q => ?_)
  · rw [if_neg q] at h
    refine zr_aload_n X dX9_readTest_20 1 rfl ?_
    refine zr_iconst (v := 1) X dX9_readTest_21 (by decide) ?_
    refine zr_put X dX9_readTest_22 zd_X9_38 rfl rfl rfl zo_33 (by rw [zk_9 zo_33]; decide) ?_
    refine zr_iconst (v := 0) X dX9_readTest_25 (by decide) ?_
    exact zr_iret X dX9_readTest_26 rfl ⟨Nat.le_refl _, Nat.le_refl _⟩ ⟨rfl, _, rfl, h⟩
  · rw [if_pos q] at h
    refine zr_aload_n X dX9_readTest_12 1 rfl ?_
    refine zr_iload_n X dX9_readTest_13 0 rfl ?_
    refine zr_callV_i (As := [.int (m.1 33 7)]) (st := []) (d := d - 1) X dX9_readTest_14 wm_X9_100 my_X9_isLetter mv_X9_isLetter zo_33 rfl (Nat.le_of_ble_eq_true rfl) (zRm (by omega)) ⟨Nat.le_refl _, Nat.le_refl _⟩ (x_fRe_isLetter hG (d - 1) (by omega) (m.1 33 7) m _ (zw_b12 h)) (fun r1 m2 q => ?_)
    obtain ⟨rfl, h⟩ := q
    refine zr_if_ne (tgt := 27) X dX9_readTest_17 (by decide) (fun q => ?_) (fun q => ?_)
    · rw [if_neg q] at h
      refine zr_aload_n X dX9_readTest_27 1 rfl ?_
      refine zr_aload_n X dX9_readTest_28 1 rfl ?_
      refine zr_getI X dX9_readTest_29 zd_X9_32 rfl zo_33 (by rw [zk_9 zo_33]; decide) ?_
      refine zr_iconst (v := 1) X dX9_readTest_32 (by decide) ?_
      refine zr_iadd X dX9_readTest_33 ?_
      refine zr_callV_v (As := [.int ((m.1 33 6) + 1)]) (st := []) (d := d - 1) X dX9_readTest_34 wm_X9_44 my_X9_moveTo mv_X9_moveTo zo_33 rfl (Nat.le_of_ble_eq_true rfl) (zRm (by omega)) ⟨Nat.le_refl _, Nat.le_refl _⟩ (x_fRe_moveTo hG (d - 1) (by omega) ((m.1 33 6) + 1) m _ (zw_b12 h)) (fun m3 q => ?_)
      replace h := q
      refine zr_aload_n X dX9_readTest_37 1 rfl ?_
      refine zr_getI X dX9_readTest_38 zd_X9_35 rfl zo_33 (by rw [zk_9 zo_33]; decide) ?_
      refine zr_istore_n (lo' := [(2, .int (m3.1 33 7)), (1, .int (m.1 33 7)), (0, .ref (S.heap.size + 33))]) X dX9_readTest_41 (by decide) rfl ?_
      refine zr_iload_n X dX9_readTest_42 0 rfl ?_
      refine zr_bipush (v := 60) X dX9_readTest_43 (by decide) ?_
      have hJ67 : zw2 (fRe_readTest_j67 m m3) P → zv_V S D cA p l e (zv_rm d 0 0) s mi args below meth c 4 (MQ below (zv_Q S D cA (zq_i SH0 P)) args s 0 0 (zv_fr S)) 0 0 67 [(0, .ref (S.heap.size + 33)), (1, .int (m.1 33 7)), (2, .int (m3.1 33 7))] [] SH0 m3 := by
        intro h
        rw [fRe_readTest_j67] at h
        refine zr_aload_n X dX9_readTest_67 0 rfl ?_
        refine zr_aload_n X dX9_readTest_68 0 rfl ?_
        refine zr_getI X dX9_readTest_69 zd_X9_32 rfl zo_33 (by rw [zk_9 zo_33]; decide) ?_
        refine zr_iconst (v := 1) X dX9_readTest_72 (by decide) ?_
        refine zr_iadd X dX9_readTest_73 ?_
        refine zr_callV_v (As := [.int ((m3.1 33 6) + 1)]) (st := []) (d := d - 1) X dX9_readTest_74 wm_X9_44 my_X9_moveTo mv_X9_moveTo zo_33 rfl (Nat.le_of_ble_eq_true rfl) (zRm (by omega)) ⟨Nat.le_refl _, Nat.le_refl _⟩ (x_fRe_moveTo hG (d - 1) (by omega) ((m3.1 33 6) + 1) m3 _ (zw_b12 h)) (fun m4 q => ?_)
        replace h := q
        refine zr_aload_n X dX9_readTest_77 0 rfl ?_
        refine zr_callV_i (As := []) (st := []) (d := d - 1) X dX9_readTest_78 wm_X9_57 my_X9_readNumber mv_X9_readNumber zo_33 rfl (Nat.le_of_ble_eq_true rfl) (zRm (by omega)) ⟨Nat.le_refl _, Nat.le_refl _⟩ (x_fRe_readNumber hG (d - 1) (by omega) m4 _ (zw_b22 h)) (fun r5 m6 q => ?_)
        replace h := q
        refine zr_istore_n (lo' := [(3, .int r5), (0, .ref (S.heap.size + 33)), (1, .int (m.1 33 7)), (2, .int (m3.1 33 7))]) X dX9_readTest_81 (by decide) rfl ?_
        refine zr_aload_n X dX9_readTest_82 1 rfl ?_
        refine zr_getI X dX9_readTest_83 zd_X9_38 rfl zo_33 (by rw [zk_9 zo_33]; decide) ?_
        refine zr_if_eq (tgt := 93) X dX9_readTest_86 (by decide) (fun q => ?_) (fun q => ?_)
        · rw [if_pos q] at h
          refine zr_aload_n X dX9_readTest_93 1 rfl ?_
          refine zr_iload_n X dX9_readTest_94 2 rfl ?_
          refine zr_iload_n X dX9_readTest_95 3 rfl ?_
          refine zr_iload_n X dX9_readTest_96 0 rfl ?_
          refine zr_callV_i (As := [.int (m.1 33 7), .int (m3.1 33 7), .int r5]) (st := []) (d := d - 1) X dX9_readTest_97 wm_X9_104 my_X9_squaresOf mv_X9_squaresOf zo_33 rfl (Nat.le_of_ble_eq_true rfl) (zRm (by omega)) ⟨Nat.le_refl _, Nat.le_refl _⟩ (x_fRe_squaresOf hG (d - 1) (by omega) (m.1 33 7) (m3.1 33 7) r5 m6 _ (zw_b12 h)) (fun r7 m8 q => ?_)
          obtain ⟨rfl, h⟩ := q
          exact zr_iret X dX9_readTest_100 rfl ⟨Nat.le_refl _, Nat.le_refl _⟩ ⟨rfl, _, rfl, h⟩
        · rw [if_neg q] at h
          refine zr_iconst (v := 0) X dX9_readTest_89 (by decide) ?_
          refine zr_goto (tgt := 100) X dX9_readTest_90 (by decide) ?_
          exact zr_iret X dX9_readTest_100 rfl ⟨Nat.le_refl _, Nat.le_refl _⟩ ⟨rfl, _, rfl, h⟩
      refine zr_icmp_eq (tgt := 67) X dX9_readTest_45 (by decide) (fun q => ?_) (fun q => ?_)
      · rw [if_pos q] at h
        exact zr_sub [2, 1, 0] rfl (hJ67 h)
      · rw [if_neg q] at h
        refine zr_iload_n X dX9_readTest_48 0 rfl ?_
        refine zr_bipush (v := 61) X dX9_readTest_49 (by decide) ?_
        refine zr_icmp_eq (tgt := 67) X dX9_readTest_51 (by decide) (fun q => ?_) (fun q => ?_)
        · rw [if_pos q] at h
          exact zr_sub [2, 1, 0] rfl (hJ67 h)
        · rw [if_neg q] at h
          refine zr_iload_n X dX9_readTest_54 0 rfl ?_
          refine zr_bipush (v := 62) X dX9_readTest_55 (by decide) ?_
          refine zr_icmp_eq (tgt := 67) X dX9_readTest_57 (by decide) (fun q => ?_) (fun q => ?_)
          · rw [if_pos q] at h
            exact zr_sub [2, 1, 0] rfl (hJ67 h)
          · rw [if_neg q] at h
            refine zr_aload_n X dX9_readTest_60 2 rfl ?_
            refine zr_iconst (v := 1) X dX9_readTest_61 (by decide) ?_
            refine zr_put X dX9_readTest_62 zd_X9_38 rfl rfl rfl zo_33 (by rw [zk_9 zo_33]; decide) ?_
            refine zr_iconst (v := 0) X dX9_readTest_65 (by decide) ?_
            exact zr_iret X dX9_readTest_66 rfl ⟨Nat.le_refl _, Nat.le_refl _⟩ ⟨rfl, _, rfl, h⟩
    · rw [if_pos q] at h
      refine zr_aload_n X dX9_readTest_20 1 rfl ?_
      refine zr_iconst (v := 1) X dX9_readTest_21 (by decide) ?_
      refine zr_put X dX9_readTest_22 zd_X9_38 rfl rfl rfl zo_33 (by rw [zk_9 zo_33]; decide) ?_
      refine zr_iconst (v := 0) X dX9_readTest_25 (by decide) ?_
      exact zr_iret X dX9_readTest_26 rfl ⟨Nat.le_refl _, Nat.le_refl _⟩ ⟨rfl, _, rfl, h⟩

set_option maxRecDepth 100000 in
set_option maxHeartbeats 4000000 in
theorem xo_fRe_readAny {l : Launch} {S : State} {D : va_G} {cA : Nat → ClassId} {tb sx : Nat → Nat} (hG : zv_G S D cA tb sx) (d dr : Nat) (hd : 6 ≤ d) (hdr : dr + 1 ≤ d) (rec_readOne : Int32 → zv_M → Option (Int32 × zv_M)) (rec_readAny : Int32 → zv_M → Option (Int32 × zv_M)) (hrec_readAny : ∀ (p1 : Int32) (m : zv_M) (P : Int32 → zv_M → Prop), zw2 (rec_readAny p1 m) P → zv_Met l S D cA dr 0 0 yX9_readAny cX9_readAny 5 (some .int) [.ref (S.heap.size + 33), .int p1] SH0 m (zq_i SH0 P)) (hrec_readOne : ∀ (p1 : Int32) (m : zv_M) (P : Int32 → zv_M → Prop), zw2 (rec_readOne p1 m) P → zv_Met l S D cA dr 0 0 yX9_readOne cX9_readOne 4 (some .int) [.ref (S.heap.size + 33), .int p1] SH0 m (zq_i SH0 P)) (p1 : Int32) (m : zv_M) (P : Int32 → zv_M → Prop) (h : zw2 (fRe_readAny_b rec_readOne rec_readAny p1 m) P) : zv_Met l S D cA d 0 0 yX9_readAny cX9_readAny 5 (some .int) [.ref (S.heap.size + 33), .int p1] SH0 m (zq_i SH0 P) := by
  refine zv_met false hG pf_X9_readAny (fun z => by cases z) (Nat.le_of_ble_eq_true rfl) [(0, .ref (S.heap.size + 33)), (1, .int p1)] rfl (fun p e s mi args below meth c X => ?_)
  rw [fRe_readAny_b] at h
  refine zr_iconst (v := 0) X dX9_readAny_0 (by decide) ?_
  refine zr_istore_n (lo' := [(2, .int 0), (0, .ref (S.heap.size + 33)), (1, .int p1)]) X dX9_readAny_1 (by decide) rfl ?_
  refine zr_aload_n X dX9_readAny_2 1 rfl ?_
  refine zr_iload_n X dX9_readAny_3 2 rfl ?_
  refine zr_callV_i (As := [.int p1]) (st := []) (d := dr) X dX9_readAny_4 wm_X9_89 my_X9_readOne mv_X9_readOne zo_33 rfl (Nat.le_of_ble_eq_true rfl) (zRm (by omega)) ⟨Nat.le_refl _, Nat.le_refl _⟩ (hrec_readOne p1 m _ (zw_b22 h)) (fun r1 m2 q => ?_)
  replace h := q
  refine zr_istore_n (lo' := [(3, .int r1), (2, .int 0), (0, .ref (S.heap.size + 33)), (1, .int p1)]) X dX9_readAny_7 (by decide) rfl ?_
  refine zr_iconst (v := 0) X dX9_readAny_8 (by decide) ?_
  refine zr_istore (lo' := [(4, .int 0), (3, .int r1), (2, .int 0), (0, .ref (S.heap.size + 33)), (1, .int p1)]) X dX9_readAny_9 (by decide) rfl ?_
  refine zr_sub [3, 4, 2, 1, 0] rfl ?_
  refine zl_w4 (fun a4 a5 a6 m7 => zv_V S D cA p l e (zv_rm d 0 0) s mi args below meth c 5 (MQ below (zv_Q S D cA (zq_i SH0 P)) args s 0 0 (zv_fr S)) 0 0 11 [(0, .ref (S.heap.size + 33)), (1, .int p1), (2, .int a4), (3, .int a5), (4, .int a6)] [] SH0 m7) (fRe_readAny_l11 p1 rec_readOne) _ (fun P3 hl3 hr3 a4 a5 a6 m7 h => ?_) zFU 0 r1 0 m2 (zw_b12 h)
  rw [fRe_readAny_l11] at h
  refine zr_iload X dX9_readAny_11 4 rfl ?_
  refine zr_aload_n X dX9_readAny_13 0 rfl ?_
  refine zr_getR X dX9_readAny_14 zd_X9_9 rfl zo_33 zl_33_0 ?_
  refine zr_alen (v := 100) X dX9_readAny_17 za_34 (by decide) rfl ?_
  refine zr_icmp_ge (tgt := 91) X dX9_readAny_18 (by decide) (fun q => ?_) (fun q => ?_)
  · rw [if_neg q] at h
    refine zr_iload_n X dX9_readAny_91 2 rfl ?_
    refine zr_iload_n X dX9_readAny_92 3 rfl ?_
    refine zr_ior X dX9_readAny_93 ?_
    have h := hr3 _ h
    exact zr_iret X dX9_readAny_94 rfl ⟨Nat.le_refl _, Nat.le_refl _⟩ ⟨rfl, _, rfl, h⟩
  · rw [if_pos q] at h
    refine zr_aload_n X dX9_readAny_21 0 rfl ?_
    refine zr_getI X dX9_readAny_22 zd_X9_38 rfl zo_33 (by rw [zk_9 zo_33]; decide) ?_
    refine zr_if_ne (tgt := 91) X dX9_readAny_25 (by decide) (fun q => ?_) (fun q => ?_)
    · rw [if_neg q] at h
      refine zr_iload_n X dX9_readAny_91 2 rfl ?_
      refine zr_iload_n X dX9_readAny_92 3 rfl ?_
      refine zr_ior X dX9_readAny_93 ?_
      have h := hr3 _ h
      exact zr_iret X dX9_readAny_94 rfl ⟨Nat.le_refl _, Nat.le_refl _⟩ ⟨rfl, _, rfl, h⟩
    · rw [if_pos q] at h
      refine zr_aload_n X dX9_readAny_28 0 rfl ?_
      refine zr_getI X dX9_readAny_29 zd_X9_35 rfl zo_33 (by rw [zk_9 zo_33]; decide) ?_
      refine zr_bipush (v := 124) X dX9_readAny_32 (by decide) ?_
      have hJ46 : zw (fRe_readAny_j46 p1 rec_readOne a4 a5 a6 m7) P3 → zv_V S D cA p l e (zv_rm d 0 0) s mi args below meth c 5 (MQ below (zv_Q S D cA (zq_i SH0 P)) args s 0 0 (zv_fr S)) 0 0 46 [(0, .ref (S.heap.size + 33)), (1, .int p1), (2, .int a4), (3, .int a5), (4, .int a6)] [] SH0 m7 := by
        intro h
        rw [fRe_readAny_j46] at h
        refine zr_aload_n X dX9_readAny_46 0 rfl ?_
        refine zr_getI X dX9_readAny_47 zd_X9_35 rfl zo_33 (by rw [zk_9 zo_33]; decide) ?_
        refine zr_bipush (v := 124) X dX9_readAny_50 (by decide) ?_
        have hJ67 : ∀ (a8 : Int32) (a9 : Int32), zw (fRe_readAny_j67 p1 rec_readOne a6 m7 a8 a9) P3 → zv_V S D cA p l e (zv_rm d 0 0) s mi args below meth c 5 (MQ below (zv_Q S D cA (zq_i SH0 P)) args s 0 0 (zv_fr S)) 0 0 67 [(0, .ref (S.heap.size + 33)), (1, .int p1), (2, .int a8), (3, .int a9), (4, .int a6)] [] SH0 m7 := by
          intro a8 a9 h
          rw [fRe_readAny_j67] at h
          refine zr_aload_n X dX9_readAny_67 0 rfl ?_
          refine zr_aload_n X dX9_readAny_68 0 rfl ?_
          refine zr_getI X dX9_readAny_69 zd_X9_32 rfl zo_33 (by rw [zk_9 zo_33]; decide) ?_
          refine zr_iconst (v := 1) X dX9_readAny_72 (by decide) ?_
          refine zr_iadd X dX9_readAny_73 ?_
          refine zr_callV_v (As := [.int ((m7.1 33 6) + 1)]) (st := []) (d := d - 1) X dX9_readAny_74 wm_X9_44 my_X9_moveTo mv_X9_moveTo zo_33 rfl (Nat.le_of_ble_eq_true rfl) (zRm (by omega)) ⟨Nat.le_refl _, Nat.le_refl _⟩ (x_fRe_moveTo hG (d - 1) (by omega) ((m7.1 33 6) + 1) m7 _ (zw_b1 h)) (fun m10 q => ?_)
          replace h := q
          refine zr_iload_n X dX9_readAny_77 3 rfl ?_
          refine zr_aload_n X dX9_readAny_78 0 rfl ?_
          refine zr_iload_n X dX9_readAny_79 1 rfl ?_
          refine zr_callV_i (As := [.int p1]) (st := [.int a9]) (d := dr) X dX9_readAny_80 wm_X9_89 my_X9_readOne mv_X9_readOne zo_33 rfl (Nat.le_of_ble_eq_true rfl) (zRm (by omega)) ⟨Nat.le_refl _, Nat.le_refl _⟩ (hrec_readOne p1 m10 _ (zw_b2 h)) (fun r11 m12 q => ?_)
          replace h := q
          refine zr_iand X dX9_readAny_83 ?_
          refine zr_istore_n (lo' := [(3, .int (a9 &&& r11)), (0, .ref (S.heap.size + 33)), (1, .int p1), (2, .int a8), (4, .int a6)]) X dX9_readAny_84 (by decide) rfl ?_
          refine zr_iinc (v := a6 + 1) (lo' := [(4, .int (a6 + 1)), (3, .int (a9 &&& r11)), (0, .ref (S.heap.size + 33)), (1, .int p1), (2, .int a8)]) X dX9_readAny_85 4 rfl rfl (by decide) rfl ?_
          refine zr_goto (tgt := 11) X dX9_readAny_88 (by decide) ?_
          have h := hl3 _ h
          exact zr_sub [2, 3, 4, 1, 0] rfl h
        refine zr_icmp_ne (tgt := 67) X dX9_readAny_52 (by decide) (fun q => ?_) (fun q => ?_)
        · rw [if_neg q] at h
          exact zr_sub [0, 1, 2, 3, 4] rfl (hJ67 a4 a5 h)
        · rw [if_pos q] at h
          refine zr_iload_n X dX9_readAny_55 2 rfl ?_
          refine zr_iload_n X dX9_readAny_56 3 rfl ?_
          refine zr_ior X dX9_readAny_57 ?_
          refine zr_istore_n (lo' := [(2, .int (a4 ||| a5)), (0, .ref (S.heap.size + 33)), (1, .int p1), (3, .int a5), (4, .int a6)]) X dX9_readAny_58 (by decide) rfl ?_
          refine zr_aload_n X dX9_readAny_59 1 rfl ?_
          refine zr_getI X dX9_readAny_60 zd_X9_41 rfl zo_33 (by rw [zk_9 zo_33]; decide) ?_
          refine zr_callSN_i (As := [.int (m7.1 33 9)]) (st := []) (d := d - 1) X dX9_readAny_63 wm_X9_92 ws_X10_allSquares my_X10_allSquares rfl (Nat.le_of_ble_eq_true rfl) (zRm (by omega)) ⟨Nat.le_refl _, Nat.le_refl _⟩ (x_fN_allSquares hG (d - 1) (by omega) (m7.1 33 9) m7 _ (zw_b1 h)) (fun r13 m14 q => ?_)
          obtain ⟨rfl, h⟩ := q
          refine zr_istore_n (lo' := [(3, .int r13), (2, .int (a4 ||| a5)), (0, .ref (S.heap.size + 33)), (1, .int p1), (4, .int a6)]) X dX9_readAny_66 (by decide) rfl ?_
          exact zr_sub [2, 3, 1, 0, 4] rfl (hJ67 (a4 ||| a5) r13 h)
      refine zr_icmp_eq (tgt := 46) X dX9_readAny_34 (by decide) (fun q => ?_) (fun q => ?_)
      · rw [if_pos q] at h
        exact zr_sub [0, 1, 2, 3, 4] rfl (hJ46 h)
      · rw [if_neg q] at h
        refine zr_aload_n X dX9_readAny_37 0 rfl ?_
        refine zr_getI X dX9_readAny_38 zd_X9_35 rfl zo_33 (by rw [zk_9 zo_33]; decide) ?_
        refine zr_bipush (v := 38) X dX9_readAny_41 (by decide) ?_
        refine zr_icmp_ne (tgt := 91) X dX9_readAny_43 (by decide) (fun q => ?_) (fun q => ?_)
        · rw [if_neg q] at h
          refine zr_iload_n X dX9_readAny_91 2 rfl ?_
          refine zr_iload_n X dX9_readAny_92 3 rfl ?_
          refine zr_ior X dX9_readAny_93 ?_
          have h := hr3 _ h
          exact zr_iret X dX9_readAny_94 rfl ⟨Nat.le_refl _, Nat.le_refl _⟩ ⟨rfl, _, rfl, h⟩
        · rw [if_pos q] at h
          exact zr_sub [0, 1, 2, 3, 4] rfl (hJ46 h)

set_option maxRecDepth 100000 in
set_option maxHeartbeats 4000000 in
theorem xo_fRe_readOne {l : Launch} {S : State} {D : va_G} {cA : Nat → ClassId} {tb sx : Nat → Nat} (hG : zv_G S D cA tb sx) (d dr : Nat) (hd : 6 ≤ d) (hdr : dr + 1 ≤ d) (rec_readOne : Int32 → zv_M → Option (Int32 × zv_M)) (rec_readAny : Int32 → zv_M → Option (Int32 × zv_M)) (hrec_readAny : ∀ (p1 : Int32) (m : zv_M) (P : Int32 → zv_M → Prop), zw2 (rec_readAny p1 m) P → zv_Met l S D cA dr 0 0 yX9_readAny cX9_readAny 5 (some .int) [.ref (S.heap.size + 33), .int p1] SH0 m (zq_i SH0 P)) (hrec_readOne : ∀ (p1 : Int32) (m : zv_M) (P : Int32 → zv_M → Prop), zw2 (rec_readOne p1 m) P → zv_Met l S D cA dr 0 0 yX9_readOne cX9_readOne 4 (some .int) [.ref (S.heap.size + 33), .int p1] SH0 m (zq_i SH0 P)) (p1 : Int32) (m : zv_M) (P : Int32 → zv_M → Prop) (h : zw2 (fRe_readOne_b rec_readOne rec_readAny p1 m) P) : zv_Met l S D cA d 0 0 yX9_readOne cX9_readOne 4 (some .int) [.ref (S.heap.size + 33), .int p1] SH0 m (zq_i SH0 P) := by
  refine zv_met false hG pf_X9_readOne (fun z => by cases z) (Nat.le_of_ble_eq_true rfl) [(0, .ref (S.heap.size + 33)), (1, .int p1)] rfl (fun p e s mi args below meth c X => ?_)
  rw [fRe_readOne_b] at h
  refine zr_aload_n X dX9_readOne_0 0 rfl ?_
  refine zr_getI X dX9_readOne_1 zd_X9_35 rfl zo_33 (by rw [zk_9 zo_33]; decide) ?_
  refine zr_bipush (v := 33) X dX9_readOne_4 (by decide) ?_
  have hJ14 : ∀ (v1 : Int32), zw2 (fRe_readOne_j14 p1 m rec_readOne rec_readAny v1) P → zv_V S D cA p l e (zv_rm d 0 0) s mi args below meth c 4 (MQ below (zv_Q S D cA (zq_i SH0 P)) args s 0 0 (zv_fr S)) 0 0 14 [(0, .ref (S.heap.size + 33)), (1, .int p1)] [.int v1] SH0 m := by
    intro v1 h
    rw [fRe_readOne_j14] at h
    refine zr_istore_n (lo' := [(2, .int v1), (0, .ref (S.heap.size + 33)), (1, .int p1)]) X dX9_readOne_14 (by decide) rfl ?_
    refine zr_aload_n X dX9_readOne_15 1 rfl ?_
    refine zr_getI X dX9_readOne_16 zd_X9_38 rfl zo_33 (by rw [zk_9 zo_33]; decide) ?_
    refine zr_if_ne (tgt := 40) X dX9_readOne_19 (by decide) (fun q => ?_) (fun q => ?_)
    · rw [if_neg q] at h
      refine zr_aload_n X dX9_readOne_40 1 rfl ?_
      refine zr_callV_i (As := []) (st := []) (d := d - 1) X dX9_readOne_41 wm_X9_95 my_X9_readTest mv_X9_readTest zo_33 rfl (Nat.le_of_ble_eq_true rfl) (zRm (by omega)) ⟨Nat.le_refl _, Nat.le_refl _⟩ (x_fRe_readTest hG (d - 1) (by omega) m _ (zw_b22 h)) (fun r2 m3 q => ?_)
      replace h := q
      exact zr_iret X dX9_readOne_44 rfl ⟨Nat.le_refl _, Nat.le_refl _⟩ ⟨rfl, _, rfl, h⟩
    · rw [if_pos q] at h
      refine zr_iload_n X dX9_readOne_22 2 rfl ?_
      refine zr_iconst (v := 4) X dX9_readOne_23 (by decide) ?_
      refine zr_icmp_ge (tgt := 40) X dX9_readOne_24 (by decide) (fun q => ?_) (fun q => ?_)
      · rw [if_neg q] at h
        refine zr_aload_n X dX9_readOne_40 1 rfl ?_
        refine zr_callV_i (As := []) (st := []) (d := d - 1) X dX9_readOne_41 wm_X9_95 my_X9_readTest mv_X9_readTest zo_33 rfl (Nat.le_of_ble_eq_true rfl) (zRm (by omega)) ⟨Nat.le_refl _, Nat.le_refl _⟩ (x_fRe_readTest hG (d - 1) (by omega) m _ (zw_b22 h)) (fun r4 m5 q => ?_)
        replace h := q
        exact zr_iret X dX9_readOne_44 rfl ⟨Nat.le_refl _, Nat.le_refl _⟩ ⟨rfl, _, rfl, h⟩
      · rw [if_pos q] at h
        refine zr_iload_n X dX9_readOne_27 0 rfl ?_
        have hJ45 : zw2 (fRe_readOne_j45 p1 m rec_readOne rec_readAny v1) P → zv_V S D cA p l e (zv_rm d 0 0) s mi args below meth c 4 (MQ below (zv_Q S D cA (zq_i SH0 P)) args s 0 0 (zv_fr S)) 0 0 45 [(0, .ref (S.heap.size + 33)), (1, .int p1), (2, .int v1)] [] SH0 m := by
          intro h
          rw [fRe_readOne_j45] at h
          refine zr_aload_n X dX9_readOne_45 0 rfl ?_
          refine zr_aload_n X dX9_readOne_46 0 rfl ?_
          refine zr_getI X dX9_readOne_47 zd_X9_32 rfl zo_33 (by rw [zk_9 zo_33]; decide) ?_
          refine zr_iconst (v := 1) X dX9_readOne_50 (by decide) ?_
          refine zr_iadd X dX9_readOne_51 ?_
          refine zr_callV_v (As := [.int ((m.1 33 6) + 1)]) (st := []) (d := d - 1) X dX9_readOne_52 wm_X9_44 my_X9_moveTo mv_X9_moveTo zo_33 rfl (Nat.le_of_ble_eq_true rfl) (zRm (by omega)) ⟨Nat.le_refl _, Nat.le_refl _⟩ (x_fRe_moveTo hG (d - 1) (by omega) ((m.1 33 6) + 1) m _ (zw_b12 h)) (fun m6 q => ?_)
          replace h := q
          refine zr_iload_n X dX9_readOne_55 2 rfl ?_
          refine zr_if_eq (tgt := 77) X dX9_readOne_56 (by decide) (fun q => ?_) (fun q => ?_)
          · rw [if_pos q] at h
            refine zr_aload_n X dX9_readOne_77 0 rfl ?_
            refine zr_iload_n X dX9_readOne_78 1 rfl ?_
            refine zr_iconst (v := 1) X dX9_readOne_79 (by decide) ?_
            refine zr_iadd X dX9_readOne_80 ?_
            refine zr_callV_i (As := [.int (p1 + 1)]) (st := []) (d := dr) X dX9_readOne_81 wm_X9_72 my_X9_readAny mv_X9_readAny zo_33 rfl (Nat.le_of_ble_eq_true rfl) (zRm (by omega)) ⟨Nat.le_refl _, Nat.le_refl _⟩ (hrec_readAny (p1 + 1) m6 _ (zw_b22 h)) (fun r7 m8 q => ?_)
            replace h := q
            refine zr_istore_n (lo' := [(3, .int r7), (0, .ref (S.heap.size + 33)), (1, .int p1), (2, .int v1)]) X dX9_readOne_84 (by decide) rfl ?_
            refine zr_aload_n X dX9_readOne_85 1 rfl ?_
            refine zr_getI X dX9_readOne_86 zd_X9_38 rfl zo_33 (by rw [zk_9 zo_33]; decide) ?_
            refine zr_if_ne (tgt := 98) X dX9_readOne_89 (by decide) (fun q => ?_) (fun q => ?_)
            · rw [if_neg q] at h
              refine zr_iload_n X dX9_readOne_98 0 rfl ?_
              exact zr_iret X dX9_readOne_99 rfl ⟨Nat.le_refl _, Nat.le_refl _⟩ ⟨rfl, _, rfl, h⟩
            · rw [if_pos q] at h
              refine zr_aload_n X dX9_readOne_92 1 rfl ?_
              refine zr_lds X dX9_readOne_93 5 (by decide) rfl rfl ?_
              refine zr_callV_v (As := [.ref (sx 5)]) (st := []) (d := d - 1) X dX9_readOne_95 wm_X9_53 my_X9_readWord mv_X9_readWord zo_33 rfl (Nat.le_of_ble_eq_true rfl) (zRm (by omega)) ⟨Nat.le_refl _, Nat.le_refl _⟩ (x_fRe_readWord hG (d - 1) (by omega) 5 (by decide) m8 _ (zw_b12 h)) (fun m9 q => ?_)
              replace h := q
              refine zr_iload_n X dX9_readOne_98 0 rfl ?_
              exact zr_iret X dX9_readOne_99 rfl ⟨Nat.le_refl _, Nat.le_refl _⟩ ⟨rfl, _, rfl, h⟩
          · rw [if_neg q] at h
            refine zr_aload_n X dX9_readOne_59 0 rfl ?_
            refine zr_getI X dX9_readOne_60 zd_X9_41 rfl zo_33 (by rw [zk_9 zo_33]; decide) ?_
            refine zr_callSN_i (As := [.int (m6.1 33 9)]) (st := []) (d := d - 1) X dX9_readOne_63 wm_X9_92 ws_X10_allSquares my_X10_allSquares rfl (Nat.le_of_ble_eq_true rfl) (zRm (by omega)) ⟨Nat.le_refl _, Nat.le_refl _⟩ (x_fN_allSquares hG (d - 1) (by omega) (m6.1 33 9) m6 _ (zw_b12 h)) (fun r10 m11 q => ?_)
            obtain ⟨rfl, h⟩ := q
            refine zr_aload_n X dX9_readOne_66 0 rfl ?_
            refine zr_iload_n X dX9_readOne_67 1 rfl ?_
            refine zr_iconst (v := 1) X dX9_readOne_68 (by decide) ?_
            refine zr_iadd X dX9_readOne_69 ?_
            refine zr_callV_i (As := [.int (p1 + 1)]) (st := [.int r10]) (d := dr) X dX9_readOne_70 wm_X9_89 my_X9_readOne mv_X9_readOne zo_33 rfl (Nat.le_of_ble_eq_true rfl) (zRm (by omega)) ⟨Nat.le_refl _, Nat.le_refl _⟩ (hrec_readOne (p1 + 1) m6 _ (zw_b22 h)) (fun r12 m13 q => ?_)
            replace h := q
            refine zr_iconst (v := (-1)) X dX9_readOne_73 (by decide) ?_
            refine zr_ixor X dX9_readOne_74 ?_
            refine zr_iand X dX9_readOne_75 ?_
            exact zr_iret X dX9_readOne_76 rfl ⟨Nat.le_refl _, Nat.le_refl _⟩ ⟨rfl, _, rfl, h⟩
        refine zr_if_ne (tgt := 45) X dX9_readOne_28 (by decide) (fun q => ?_) (fun q => ?_)
        · rw [if_neg q] at h
          exact zr_sub [1, 2, 0] rfl (hJ45 h)
        · rw [if_pos q] at h
          refine zr_aload_n X dX9_readOne_31 1 rfl ?_
          refine zr_getI X dX9_readOne_32 zd_X9_35 rfl zo_33 (by rw [zk_9 zo_33]; decide) ?_
          refine zr_bipush (v := 40) X dX9_readOne_35 (by decide) ?_
          refine zr_icmp_eq (tgt := 45) X dX9_readOne_37 (by decide) (fun q => ?_) (fun q => ?_)
          · rw [if_pos q] at h
            exact zr_sub [1, 2, 0] rfl (hJ45 h)
          · rw [if_neg q] at h
            refine zr_aload_n X dX9_readOne_40 1 rfl ?_
            refine zr_callV_i (As := []) (st := []) (d := d - 1) X dX9_readOne_41 wm_X9_95 my_X9_readTest mv_X9_readTest zo_33 rfl (Nat.le_of_ble_eq_true rfl) (zRm (by omega)) ⟨Nat.le_refl _, Nat.le_refl _⟩ (x_fRe_readTest hG (d - 1) (by omega) m _ (zw_b22 h)) (fun r14 m15 q => ?_)
            replace h := q
            exact zr_iret X dX9_readOne_44 rfl ⟨Nat.le_refl _, Nat.le_refl _⟩ ⟨rfl, _, rfl, h⟩
  refine zr_icmp_ne (tgt := 13) X dX9_readOne_6 (by decide) (fun q => ?_) (fun q => ?_)
  · rw [if_neg q] at h
    refine zr_iconst (v := 0) X dX9_readOne_13 (by decide) ?_
    exact zr_sub [0, 1] rfl (hJ14 0 h)
  · rw [if_pos q] at h
    refine zr_iconst (v := 1) X dX9_readOne_9 (by decide) ?_
    refine zr_goto (tgt := 14) X dX9_readOne_10 (by decide) ?_
    exact zr_sub [0, 1] rfl (hJ14 1 h)

set_option maxRecDepth 100000 in
set_option maxHeartbeats 4000000 in
theorem x_fRe_readOne_readAny_n {l : Launch} {S : State} {D : va_G} {cA : Nat → ClassId} {tb sx : Nat → Nat} (hG : zv_G S D cA tb sx) : ∀ (n d : Nat), 6 + n ≤ d → (∀ (p1 : Int32) (m : zv_M) (P : Int32 → zv_M → Prop), zw2 (fRe_readOne_readAny n true p1 m) P → zv_Met l S D cA d 0 0 yX9_readOne cX9_readOne 4 (some .int) [.ref (S.heap.size + 33), .int p1] SH0 m (zq_i SH0 P)) ∧ (∀ (p1 : Int32) (m : zv_M) (P : Int32 → zv_M → Prop), zw2 (fRe_readOne_readAny n false p1 m) P → zv_Met l S D cA d 0 0 yX9_readAny cX9_readAny 5 (some .int) [.ref (S.heap.size + 33), .int p1] SH0 m (zq_i SH0 P)) := by
  intro n
  induction n with
  | zero =>
    intro d hd
    refine ⟨?_, ?_⟩
    · intro p1 m P h
      rw [fRe_readOne_readAny] at h
      exact h.elim
    · intro p1 m P h
      rw [fRe_readOne_readAny] at h
      exact h.elim
  | succ n ih =>
    intro d hd
    have i := ih (d - 1) (by omega)
    refine ⟨?_, ?_⟩
    · intro p1 m P h
      rw [fRe_readOne_readAny] at h
      exact xo_fRe_readOne hG d (d - 1) (by omega) (by omega) (fRe_readOne_readAny n true) (fRe_readOne_readAny n false) i.2 i.1 p1 m P h
    · intro p1 m P h
      rw [fRe_readOne_readAny] at h
      exact xo_fRe_readAny hG d (d - 1) (by omega) (by omega) (fRe_readOne_readAny n true) (fRe_readOne_readAny n false) i.2 i.1 p1 m P h
theorem x_fRe_readOne {l : Launch} {S : State} {D : va_G} {cA : Nat → ClassId} {tb sx : Nat → Nat} (hG : zv_G S D cA tb sx) (d : Nat) (hd : 20 ≤ d) (p1 : Int32) (m : zv_M) (P : Int32 → zv_M → Prop) (h : zw2 (fRe_readOne 14 p1 m) P) : zv_Met l S D cA d 0 0 yX9_readOne cX9_readOne 4 (some .int) [.ref (S.heap.size + 33), .int p1] SH0 m (zq_i SH0 P) := (x_fRe_readOne_readAny_n hG 14 d (by omega)).1 p1 m P h
theorem x_fRe_readAny {l : Launch} {S : State} {D : va_G} {cA : Nat → ClassId} {tb sx : Nat → Nat} (hG : zv_G S D cA tb sx) (d : Nat) (hd : 20 ≤ d) (p1 : Int32) (m : zv_M) (P : Int32 → zv_M → Prop) (h : zw2 (fRe_readAny 14 p1 m) P) : zv_Met l S D cA d 0 0 yX9_readAny cX9_readAny 5 (some .int) [.ref (S.heap.size + 33), .int p1] SH0 m (zq_i SH0 P) := (x_fRe_readOne_readAny_n hG 14 d (by omega)).2 p1 m P h

set_option maxRecDepth 100000 in
set_option maxHeartbeats 4000000 in
theorem x_fRe_readClause {l : Launch} {S : State} {D : va_G} {cA : Nat → ClassId} {tb sx : Nat → Nat} (hG : zv_G S D cA tb sx) (d : Nat) (hd : 21 ≤ d) (m : zv_M) (P : zv_M → Prop) (h : zw (fRe_readClause m) P) : zv_Met l S D cA d 0 0 yX9_readClause cX9_readClause 1 none [.ref (S.heap.size + 33)] SH0 m (zq_v SH0 P) := by
  refine zv_met false hG pf_X9_readClause (fun z => by cases z) (Nat.le_of_ble_eq_true rfl) [(0, .ref (S.heap.size + 33))] rfl (fun p e s mi args below meth c X => ?_)
  rw [fRe_readClause] at h
  refine zr_aload_n X dX9_readClause_0 0 rfl ?_
  refine zr_getI X dX9_readClause_1 zd_X9_35 rfl zo_33 (by rw [zk_9 zo_33]; decide) ?_
  by_cases e0 : m.1 33 7 = 98
  · rw [if_pos e0] at h
    refine zr_lookup (off := 92) (tgt := 96) X dX9_readClause_4 (by decide) (by rw [e0]; decide) (by decide) ?_
    refine zr_aload_n X dX9_readClause_96 0 rfl ?_
    refine zr_lds X dX9_readClause_97 2 (by decide) rfl rfl ?_
    refine zr_callV_v (As := [.ref (sx 2)]) (st := []) (d := d - 1) X dX9_readClause_99 wm_X9_53 my_X9_readWord mv_X9_readWord zo_33 rfl (Nat.le_of_ble_eq_true rfl) (zRm (by omega)) ⟨Nat.le_refl _, Nat.le_refl _⟩ (x_fRe_readWord hG (d - 1) (by omega) 2 (by decide) m _ (zw_b1 h)) (fun m1 q => ?_)
    replace h := q
    refine zr_aload_n X dX9_readClause_102 0 rfl ?_
    refine zr_dup X dX9_readClause_103 rfl ?_
    refine zr_getI X dX9_readClause_104 zd_X9_29 rfl zo_33 (by rw [zk_9 zo_33]; decide) ?_
    refine zr_aload_n X dX9_readClause_107 0 rfl ?_
    refine zr_iconst (v := 0) X dX9_readClause_108 (by decide) ?_
    refine zr_callV_i (As := [.int 0]) (st := [.int (m1.1 33 5), .ref (S.heap.size + 33)]) (d := d - 1) X dX9_readClause_109 wm_X9_72 my_X9_readAny mv_X9_readAny zo_33 rfl (Nat.le_of_ble_eq_true rfl) (zRm (by omega)) ⟨Nat.le_refl _, Nat.le_refl _⟩ (x_fRe_readAny hG (d - 1) (by omega) 0 m1 _ (zw_b2 h)) (fun r2 m3 q => ?_)
    replace h := q
    refine zr_ior X dX9_readClause_112 ?_
    refine zr_put X dX9_readClause_113 zd_X9_29 rfl rfl rfl zo_33 (by rw [zk_9 zo_33]; decide) ?_
    refine zr_goto (tgt := 144) X dX9_readClause_116 (by decide) ?_
    exact zr_vret X dX9_readClause_144 ⟨Nat.le_refl _, Nat.le_refl _⟩ ⟨rfl, rfl, h⟩
  rw [if_neg e0] at h
  by_cases e1 : m.1 33 7 = 104
  · rw [if_pos e1] at h
    refine zr_lookup (off := 69) (tgt := 73) X dX9_readClause_4 (by decide) (by rw [e1]; decide) (by decide) ?_
    refine zr_aload_n X dX9_readClause_73 0 rfl ?_
    refine zr_lds X dX9_readClause_74 1 (by decide) rfl rfl ?_
    refine zr_callV_v (As := [.ref (sx 1)]) (st := []) (d := d - 1) X dX9_readClause_76 wm_X9_53 my_X9_readWord mv_X9_readWord zo_33 rfl (Nat.le_of_ble_eq_true rfl) (zRm (by omega)) ⟨Nat.le_refl _, Nat.le_refl _⟩ (x_fRe_readWord hG (d - 1) (by omega) 1 (by decide) m _ (zw_b1 h)) (fun m4 q => ?_)
    replace h := q
    refine zr_aload_n X dX9_readClause_79 0 rfl ?_
    refine zr_dup X dX9_readClause_80 rfl ?_
    refine zr_getI X dX9_readClause_81 zd_X9_26 rfl zo_33 (by rw [zk_9 zo_33]; decide) ?_
    refine zr_aload_n X dX9_readClause_84 0 rfl ?_
    refine zr_iconst (v := 0) X dX9_readClause_85 (by decide) ?_
    refine zr_callV_i (As := [.int 0]) (st := [.int (m4.1 33 4), .ref (S.heap.size + 33)]) (d := d - 1) X dX9_readClause_86 wm_X9_72 my_X9_readAny mv_X9_readAny zo_33 rfl (Nat.le_of_ble_eq_true rfl) (zRm (by omega)) ⟨Nat.le_refl _, Nat.le_refl _⟩ (x_fRe_readAny hG (d - 1) (by omega) 0 m4 _ (zw_b2 h)) (fun r5 m6 q => ?_)
    replace h := q
    refine zr_ior X dX9_readClause_89 ?_
    refine zr_put X dX9_readClause_90 zd_X9_26 rfl rfl rfl zo_33 (by rw [zk_9 zo_33]; decide) ?_
    refine zr_goto (tgt := 144) X dX9_readClause_93 (by decide) ?_
    exact zr_vret X dX9_readClause_144 ⟨Nat.le_refl _, Nat.le_refl _⟩ ⟨rfl, rfl, h⟩
  rw [if_neg e1] at h
  by_cases e2 : m.1 33 7 = 114
  · rw [if_pos e2] at h
    refine zr_lookup (off := 115) (tgt := 119) X dX9_readClause_4 (by decide) (by rw [e2]; decide) (by decide) ?_
    refine zr_aload_n X dX9_readClause_119 0 rfl ?_
    refine zr_lds X dX9_readClause_120 3 (by decide) rfl rfl ?_
    refine zr_callV_v (As := [.ref (sx 3)]) (st := []) (d := d - 1) X dX9_readClause_122 wm_X9_53 my_X9_readWord mv_X9_readWord zo_33 rfl (Nat.le_of_ble_eq_true rfl) (zRm (by omega)) ⟨Nat.le_refl _, Nat.le_refl _⟩ (x_fRe_readWord hG (d - 1) (by omega) 3 (by decide) m _ (zw_b1 h)) (fun m7 q => ?_)
    replace h := q
    refine zr_aload_n X dX9_readClause_125 0 rfl ?_
    refine zr_iconst (v := 1) X dX9_readClause_126 (by decide) ?_
    refine zr_put X dX9_readClause_127 zd_X9_22 rfl rfl rfl zo_33 (by rw [zk_9 zo_33]; decide) ?_
    refine zr_goto (tgt := 144) X dX9_readClause_130 (by decide) ?_
    exact zr_vret X dX9_readClause_144 ⟨Nat.le_refl _, Nat.le_refl _⟩ ⟨rfl, rfl, h⟩
  rw [if_neg e2] at h
  by_cases e3 : m.1 33 7 = 119
  · rw [if_pos e3] at h
    refine zr_lookup (off := 44) (tgt := 48) X dX9_readClause_4 (by decide) (by rw [e3]; decide) (by decide) ?_
    refine zr_aload_n X dX9_readClause_48 0 rfl ?_
    refine zr_lds X dX9_readClause_49 0 (by decide) rfl rfl ?_
    refine zr_callV_v (As := [.ref (sx 0)]) (st := []) (d := d - 1) X dX9_readClause_51 wm_X9_53 my_X9_readWord mv_X9_readWord zo_33 rfl (Nat.le_of_ble_eq_true rfl) (zRm (by omega)) ⟨Nat.le_refl _, Nat.le_refl _⟩ (x_fRe_readWord hG (d - 1) (by omega) 0 (by decide) m _ (zw_b1 h)) (fun m8 q => ?_)
    replace h := q
    refine zr_aload_n X dX9_readClause_54 0 rfl ?_
    refine zr_aload_n X dX9_readClause_55 0 rfl ?_
    refine zr_callV_i (As := []) (st := [.ref (S.heap.size + 33)]) (d := d - 1) X dX9_readClause_56 wm_X9_57 my_X9_readNumber mv_X9_readNumber zo_33 rfl (Nat.le_of_ble_eq_true rfl) (zRm (by omega)) ⟨Nat.le_refl _, Nat.le_refl _⟩ (x_fRe_readNumber hG (d - 1) (by omega) m8 _ (zw_b2 h)) (fun r9 m10 q => ?_)
    replace h := q
    refine zr_iconst (v := 2) X dX9_readClause_59 (by decide) ?_
    refine zr_callS_i (As := [.int r9, .int 2]) (st := [.ref (S.heap.size + 33)]) (d := d - 1) X dX9_readClause_60 wm_X9_61 ws_J9_max_7cf53 my_J9_max_7cf53 rfl (Nat.le_of_ble_eq_true rfl) (zRm (by omega)) ⟨Nat.le_refl _, Nat.le_refl _⟩ (x_fJ_max hG (d - 1) (by omega) r9 2 m10 _ (zw_b1 h)) (fun r11 m12 q => ?_)
    obtain ⟨rfl, h⟩ := q
    refine zr_iconst (v := 5) X dX9_readClause_63 (by decide) ?_
    refine zr_callS_i (As := [.int r11, .int 5]) (st := [.ref (S.heap.size + 33)]) (d := d - 1) X dX9_readClause_64 wm_X9_67 ws_J9_min_7cf53 my_J9_min_7cf53 rfl (Nat.le_of_ble_eq_true rfl) (zRm (by omega)) ⟨Nat.le_refl _, Nat.le_refl _⟩ (x_fJ_min hG (d - 1) (by omega) r11 5 m10 _ (zw_b1 h)) (fun r13 m14 q => ?_)
    obtain ⟨rfl, h⟩ := q
    refine zr_put X dX9_readClause_67 zd_X9_19 rfl rfl rfl zo_33 (by rw [zk_9 zo_33]; decide) ?_
    refine zr_goto (tgt := 144) X dX9_readClause_70 (by decide) ?_
    exact zr_vret X dX9_readClause_144 ⟨Nat.le_refl _, Nat.le_refl _⟩ ⟨rfl, rfl, h⟩
  rw [if_neg e3] at h
  refine zr_lookup (off := 129) (tgt := 133) X dX9_readClause_4 (by decide) (by rw [lv_osw e0 (by decide), lv_osw e1 (by decide), lv_osw e2 (by decide), lv_osw e3 (by decide)]; rfl) (by decide) ?_
  refine zr_aload_n X dX9_readClause_133 0 rfl ?_
  refine zr_lds X dX9_readClause_134 4 (by decide) rfl rfl ?_
  refine zr_callV_v (As := [.ref (sx 4)]) (st := []) (d := d - 1) X dX9_readClause_136 wm_X9_53 my_X9_readWord mv_X9_readWord zo_33 rfl (Nat.le_of_ble_eq_true rfl) (zRm (by omega)) ⟨Nat.le_refl _, Nat.le_refl _⟩ (x_fRe_readWord hG (d - 1) (by omega) 4 (by decide) m _ (zw_b1 h)) (fun m15 q => ?_)
  replace h := q
  refine zr_aload_n X dX9_readClause_139 0 rfl ?_
  refine zr_iconst (v := 0) X dX9_readClause_140 (by decide) ?_
  refine zr_put X dX9_readClause_141 zd_X9_22 rfl rfl rfl zo_33 (by rw [zk_9 zo_33]; decide) ?_
  exact zr_vret X dX9_readClause_144 ⟨Nat.le_refl _, Nat.le_refl _⟩ ⟨rfl, rfl, h⟩

set_option maxRecDepth 100000 in
set_option maxHeartbeats 4000000 in
theorem x_fRe_readClauses {l : Launch} {S : State} {D : va_G} {cA : Nat → ClassId} {tb sx : Nat → Nat} (hG : zv_G S D cA tb sx) (d : Nat) (hd : 22 ≤ d) (p1 : Int32) (m : zv_M) (P : Int32 → zv_M → Prop) (h : zw2 (fRe_readClauses p1 m) P) : zv_Met l S D cA d 0 0 yX9_readClauses cX9_readClauses 3 (some .int) [.ref (S.heap.size + 33), .int p1] SH0 m (zq_i SH0 P) := by
  refine zv_met false hG pf_X9_readClauses (fun z => by cases z) (Nat.le_of_ble_eq_true rfl) [(0, .ref (S.heap.size + 33)), (1, .int p1)] rfl (fun p e s mi args below meth c X => ?_)
  rw [fRe_readClauses] at h
  refine zr_aload_n X dX9_readClauses_0 0 rfl ?_
  refine zr_iload_n X dX9_readClauses_1 1 rfl ?_
  refine zr_put X dX9_readClauses_2 zd_X9_41 rfl rfl rfl zo_33 (by rw [zk_9 zo_33]; decide) ?_
  refine zr_aload_n X dX9_readClauses_5 0 rfl ?_
  refine zr_iconst (v := 4) X dX9_readClauses_6 (by decide) ?_
  refine zr_put X dX9_readClauses_7 zd_X9_19 rfl rfl rfl zo_33 (by rw [zk_9 zo_33]; decide) ?_
  refine zr_aload_n X dX9_readClauses_10 0 rfl ?_
  refine zr_iconst (v := 0) X dX9_readClauses_11 (by decide) ?_
  refine zr_put X dX9_readClauses_12 zd_X9_22 rfl rfl rfl zo_33 (by rw [zk_9 zo_33]; decide) ?_
  refine zr_aload_n X dX9_readClauses_15 0 rfl ?_
  refine zr_iconst (v := 0) X dX9_readClauses_16 (by decide) ?_
  refine zr_put X dX9_readClauses_17 zd_X9_26 rfl rfl rfl zo_33 (by rw [zk_9 zo_33]; decide) ?_
  refine zr_aload_n X dX9_readClauses_20 0 rfl ?_
  refine zr_iconst (v := 0) X dX9_readClauses_21 (by decide) ?_
  refine zr_put X dX9_readClauses_22 zd_X9_29 rfl rfl rfl zo_33 (by rw [zk_9 zo_33]; decide) ?_
  refine zr_aload_n X dX9_readClauses_25 0 rfl ?_
  refine zr_iconst (v := 0) X dX9_readClauses_26 (by decide) ?_
  refine zr_put X dX9_readClauses_27 zd_X9_38 rfl rfl rfl zo_33 (by rw [zk_9 zo_33]; decide) ?_
  refine zr_aload_n X dX9_readClauses_30 0 rfl ?_
  refine zr_iconst (v := 0) X dX9_readClauses_31 (by decide) ?_
  refine zr_callV_v (As := [.int 0]) (st := []) (d := d - 1) X dX9_readClauses_32 wm_X9_44 my_X9_moveTo mv_X9_moveTo zo_33 rfl (Nat.le_of_ble_eq_true rfl) (zRm (by omega)) ⟨Nat.le_refl _, Nat.le_refl _⟩ (x_fRe_moveTo hG (d - 1) (by omega) 0 (wI (wI (wI (wI (wI (wI m 33 9 p1) 33 2 4) 33 3 0) 33 4 0) 33 5 0) 33 8 0) _ (zw_b12 h)) (fun m1 q => ?_)
  replace h := q
  refine zr_aload_n X dX9_readClauses_35 0 rfl ?_
  refine zr_callV_v (As := []) (st := []) (d := d - 1) X dX9_readClauses_36 wm_X9_48 my_X9_readClause mv_X9_readClause zo_33 rfl (Nat.le_of_ble_eq_true rfl) (zRm (by omega)) ⟨Nat.le_refl _, Nat.le_refl _⟩ (x_fRe_readClause hG (d - 1) (by omega) m1 _ (zw_b12 h)) (fun m2 q => ?_)
  replace h := q
  refine zr_iconst (v := 1) X dX9_readClauses_39 (by decide) ?_
  refine zr_istore_n (lo' := [(2, .int 1), (0, .ref (S.heap.size + 33)), (1, .int p1)]) X dX9_readClauses_40 (by decide) rfl ?_
  refine zr_sub [1, 0] rfl ?_
  have hR3 : ∀ (m6 : zv_M), zw2 (if m6.1 33 8 = 0 then if m6.1 33 7 = (-1) then some ((-1), m6) else some (m6.1 33 6, m6) else some (m6.1 33 6, m6) : Option (Int32 × zv_M)) P → zv_V S D cA p l e (zv_rm d 0 0) s mi args below meth c 3 (MQ below (zv_Q S D cA (zq_i SH0 P)) args s 0 0 (zv_fr S)) 0 0 83 [(0, .ref (S.heap.size + 33))] [] SH0 m6 := by
    intro m6 h
    refine zr_aload_n X dX9_readClauses_83 0 rfl ?_
    refine zr_getI X dX9_readClauses_84 zd_X9_38 rfl zo_33 (by rw [zk_9 zo_33]; decide) ?_
    refine zr_if_ne (tgt := 98) X dX9_readClauses_87 (by decide) (fun q => ?_) (fun q => ?_)
    · rw [if_neg q] at h
      refine zr_aload_n X dX9_readClauses_98 0 rfl ?_
      refine zr_getI X dX9_readClauses_99 zd_X9_32 rfl zo_33 (by rw [zk_9 zo_33]; decide) ?_
      refine zr_goto (tgt := 106) X dX9_readClauses_102 (by decide) ?_
      exact zr_iret X dX9_readClauses_106 rfl ⟨Nat.le_refl _, Nat.le_refl _⟩ ⟨rfl, _, rfl, h⟩
    · rw [if_pos q] at h
      refine zr_aload_n X dX9_readClauses_90 0 rfl ?_
      refine zr_getI X dX9_readClauses_91 zd_X9_35 rfl zo_33 (by rw [zk_9 zo_33]; decide) ?_
      refine zr_iconst (v := (-1)) X dX9_readClauses_94 (by decide) ?_
      refine zr_icmp_eq (tgt := 105) X dX9_readClauses_95 (by decide) (fun q => ?_) (fun q => ?_)
      · rw [if_pos q] at h
        refine zr_iconst (v := (-1)) X dX9_readClauses_105 (by decide) ?_
        exact zr_iret X dX9_readClauses_106 rfl ⟨Nat.le_refl _, Nat.le_refl _⟩ ⟨rfl, _, rfl, h⟩
      · rw [if_neg q] at h
        refine zr_aload_n X dX9_readClauses_98 0 rfl ?_
        refine zr_getI X dX9_readClauses_99 zd_X9_32 rfl zo_33 (by rw [zk_9 zo_33]; decide) ?_
        refine zr_goto (tgt := 106) X dX9_readClauses_102 (by decide) ?_
        exact zr_iret X dX9_readClauses_106 rfl ⟨Nat.le_refl _, Nat.le_refl _⟩ ⟨rfl, _, rfl, h⟩
  refine zl_w2 (fun a4 m5 => zv_V S D cA p l e (zv_rm d 0 0) s mi args below meth c 3 (MQ below (zv_Q S D cA (zq_i SH0 P)) args s 0 0 (zv_fr S)) 0 0 41 [(0, .ref (S.heap.size + 33)), (2, .int a4)] [] SH0 m5) fRe_readClauses_l41 _ (fun P3 hl3 hr3 a4 m5 h => ?_) zFU 1 m2 (zw_b12 h)
  rw [fRe_readClauses_l41] at h
  refine zr_iload_n X dX9_readClauses_41 1 rfl ?_
  refine zr_bipush (v := 10) X dX9_readClauses_42 (by decide) ?_
  refine zr_icmp_ge (tgt := 83) X dX9_readClauses_44 (by decide) (fun q => ?_) (fun q => ?_)
  · rw [if_neg q] at h
    have h := hr3 _ h
    exact zr_sub [0] rfl (hR3 m5 h)
  · rw [if_pos q] at h
    refine zr_aload_n X dX9_readClauses_47 0 rfl ?_
    refine zr_getI X dX9_readClauses_48 zd_X9_35 rfl zo_33 (by rw [zk_9 zo_33]; decide) ?_
    refine zr_bipush (v := 59) X dX9_readClauses_51 (by decide) ?_
    refine zr_icmp_ne (tgt := 83) X dX9_readClauses_53 (by decide) (fun q => ?_) (fun q => ?_)
    · rw [if_neg q] at h
      have h := hr3 _ h
      exact zr_sub [0] rfl (hR3 m5 h)
    · rw [if_pos q] at h
      refine zr_aload_n X dX9_readClauses_56 0 rfl ?_
      refine zr_getI X dX9_readClauses_57 zd_X9_38 rfl zo_33 (by rw [zk_9 zo_33]; decide) ?_
      refine zr_if_ne (tgt := 83) X dX9_readClauses_60 (by decide) (fun q => ?_) (fun q => ?_)
      · rw [if_neg q] at h
        have h := hr3 _ h
        exact zr_sub [0] rfl (hR3 m5 h)
      · rw [if_pos q] at h
        refine zr_aload_n X dX9_readClauses_63 0 rfl ?_
        refine zr_aload_n X dX9_readClauses_64 0 rfl ?_
        refine zr_getI X dX9_readClauses_65 zd_X9_32 rfl zo_33 (by rw [zk_9 zo_33]; decide) ?_
        refine zr_iconst (v := 1) X dX9_readClauses_68 (by decide) ?_
        refine zr_iadd X dX9_readClauses_69 ?_
        refine zr_callV_v (As := [.int ((m5.1 33 6) + 1)]) (st := []) (d := d - 1) X dX9_readClauses_70 wm_X9_44 my_X9_moveTo mv_X9_moveTo zo_33 rfl (Nat.le_of_ble_eq_true rfl) (zRm (by omega)) ⟨Nat.le_refl _, Nat.le_refl _⟩ (x_fRe_moveTo hG (d - 1) (by omega) ((m5.1 33 6) + 1) m5 _ (zw_b1 h)) (fun m7 q => ?_)
        replace h := q
        refine zr_aload_n X dX9_readClauses_73 0 rfl ?_
        refine zr_callV_v (As := []) (st := []) (d := d - 1) X dX9_readClauses_74 wm_X9_48 my_X9_readClause mv_X9_readClause zo_33 rfl (Nat.le_of_ble_eq_true rfl) (zRm (by omega)) ⟨Nat.le_refl _, Nat.le_refl _⟩ (x_fRe_readClause hG (d - 1) (by omega) m7 _ (zw_b1 h)) (fun m8 q => ?_)
        replace h := q
        refine zr_iinc (v := a4 + 1) (lo' := [(2, .int (a4 + 1)), (0, .ref (S.heap.size + 33))]) X dX9_readClauses_77 1 rfl rfl (by decide) rfl ?_
        refine zr_goto (tgt := 41) X dX9_readClauses_80 (by decide) ?_
        have h := hl3 _ h
        exact zr_sub [1, 0] rfl h

set_option maxRecDepth 100000 in
set_option maxHeartbeats 4000000 in
theorem x_fN_plan {l : Launch} {S : State} {D : va_G} {cA : Nat → ClassId} {tb sx : Nat → Nat} (hG : zv_G S D cA tb sx) (d : Nat) (hd : 2 ≤ d) (p1 : Int32) (p2 : Int32) (m : zv_M) (P : Int32 → zv_M → Prop) (h : zw2 (fN_plan p1 p2 m) P) : zv_Met l S D cA d 0 0 yX10_plan cX10_plan 3 (some .int) [.ref (S.heap.size + 0), .int p1, .int p2] SH0 m (zq_i SH0 P) := by
  refine zv_met false hG pf_X10_plan (fun z => by cases z) (Nat.le_of_ble_eq_true rfl) [(0, .ref (S.heap.size + 0)), (1, .int p1), (2, .int p2)] rfl (fun p e s mi args below meth c X => ?_)
  rw [fN_plan] at h
  refine zr_iload_n X dX10_plan_0 1 rfl ?_
  refine zr_callS_i (As := [.int p1]) (st := []) (d := d - 1) X dX10_plan_1 wm_X10_92 ws_X10_isKind my_X10_isKind rfl (Nat.le_of_ble_eq_true rfl) (zRm (by omega)) ⟨Nat.le_refl _, Nat.le_refl _⟩ (x_fN_isKind hG (d - 1) (by omega) p1 m _ (zw_b12 h)) (fun r1 m2 q => ?_)
  obtain ⟨rfl, h⟩ := q
  refine zr_if_ne (tgt := 9) X dX10_plan_4 (by decide) (fun q => ?_) (fun q => ?_)
  · rw [if_neg q] at h
    refine zr_iload_n X dX10_plan_9 2 rfl ?_
    refine zr_if_lt (tgt := 19) X dX10_plan_10 (by decide) (fun q => ?_) (fun q => ?_)
    · rw [if_pos q] at h
      refine zr_bipush (v := (-2)) X dX10_plan_19 (by decide) ?_
      exact zr_iret X dX10_plan_21 rfl ⟨Nat.le_refl _, Nat.le_refl _⟩ ⟨rfl, _, rfl, h⟩
    · rw [if_neg q] at h
      refine zr_iload_n X dX10_plan_13 2 rfl ?_
      refine zr_bipush (v := 9) X dX10_plan_14 (by decide) ?_
      refine zr_icmp_le (tgt := 22) X dX10_plan_16 (by decide) (fun q => ?_) (fun q => ?_)
      · rw [if_neg q] at h
        refine zr_aload_n X dX10_plan_22 0 rfl ?_
        refine zr_getR X dX10_plan_23 zd_X10_12 rfl zo_0 zl_0_0 ?_
        refine zr_getR X dX10_plan_26 zd_X10_96 rfl zo_1 zl_1_0 ?_
        refine zr_callV_i (As := []) (st := []) (d := d - 1) X dX10_plan_29 wm_X10_100 my_X2_isFull mv_X2_isFull zo_2 rfl (Nat.le_of_ble_eq_true rfl) (zRm (by omega)) ⟨Nat.le_refl _, Nat.le_refl _⟩ (x_fPi_isFull hG (d - 1) (by omega) 2 zo_2 m _ (zw_b12 h)) (fun r3 m4 q => ?_)
        obtain ⟨rfl, h⟩ := q
        refine zr_if_eq (tgt := 38) X dX10_plan_32 (by decide) (fun q => ?_) (fun q => ?_)
        · rw [if_pos q] at h
          refine zr_aload_n X dX10_plan_38 0 rfl ?_
          refine zr_getR X dX10_plan_39 zd_X10_12 rfl zo_0 zl_0_0 ?_
          refine zr_getR X dX10_plan_42 zd_X10_96 rfl zo_1 zl_1_0 ?_
          refine zr_iload_n X dX10_plan_45 1 rfl ?_
          refine zr_callV_v (As := [.int p1]) (st := []) (d := d - 1) X dX10_plan_46 wm_X10_106 my_X2_add mv_X2_add zo_2 rfl (Nat.le_of_ble_eq_true rfl) (zRm (by omega)) ⟨Nat.le_refl _, Nat.le_refl _⟩ (x_fPi_add hG (d - 1) (by omega) 2 zo_2 p1 m _ (zw_b12 h)) (fun m5 q => ?_)
          replace h := q
          refine zr_aload_n X dX10_plan_49 0 rfl ?_
          refine zr_getR X dX10_plan_50 zd_X10_12 rfl zo_0 zl_0_0 ?_
          refine zr_getR X dX10_plan_53 zd_X10_110 rfl zo_1 zl_1_1 ?_
          refine zr_iload_n X dX10_plan_56 2 rfl ?_
          refine zr_callV_v (As := [.int p2]) (st := []) (d := d - 1) X dX10_plan_57 wm_X10_106 my_X2_add mv_X2_add zo_4 rfl (Nat.le_of_ble_eq_true rfl) (zRm (by omega)) ⟨Nat.le_refl _, Nat.le_refl _⟩ (x_fPi_add hG (d - 1) (by omega) 4 zo_4 p2 m5 _ (zw_b12 h)) (fun m6 q => ?_)
          replace h := q
          refine zr_aload_n X dX10_plan_60 0 rfl ?_
          refine zr_getR X dX10_plan_61 zd_X10_12 rfl zo_0 zl_0_0 ?_
          refine zr_getR X dX10_plan_64 zd_X10_113 rfl zo_1 zl_1_2 ?_
          refine zr_sipush (v := 255) X dX10_plan_67 (by decide) ?_
          refine zr_callV_v (As := [.int 255]) (st := []) (d := d - 1) X dX10_plan_70 wm_X10_106 my_X2_add mv_X2_add zo_6 rfl (Nat.le_of_ble_eq_true rfl) (zRm (by omega)) ⟨Nat.le_refl _, Nat.le_refl _⟩ (x_fPi_add hG (d - 1) (by omega) 6 zo_6 255 m6 _ (zw_b12 h)) (fun m7 q => ?_)
          replace h := q
          refine zr_aload_n X dX10_plan_73 0 rfl ?_
          refine zr_getR X dX10_plan_74 zd_X10_12 rfl zo_0 zl_0_0 ?_
          refine zr_getR X dX10_plan_77 zd_X10_96 rfl zo_1 zl_1_0 ?_
          refine zr_getI X dX10_plan_80 zd_X10_116 rfl zo_2 (by rw [zk_2 zo_2]; decide) ?_
          refine zr_iconst (v := 1) X dX10_plan_83 (by decide) ?_
          refine zr_isub X dX10_plan_84 ?_
          exact zr_iret X dX10_plan_85 rfl ⟨Nat.le_refl _, Nat.le_refl _⟩ ⟨rfl, _, rfl, h⟩
        · rw [if_neg q] at h
          refine zr_bipush (v := (-4)) X dX10_plan_35 (by decide) ?_
          exact zr_iret X dX10_plan_37 rfl ⟨Nat.le_refl _, Nat.le_refl _⟩ ⟨rfl, _, rfl, h⟩
      · rw [if_pos q] at h
        refine zr_bipush (v := (-2)) X dX10_plan_19 (by decide) ?_
        exact zr_iret X dX10_plan_21 rfl ⟨Nat.le_refl _, Nat.le_refl _⟩ ⟨rfl, _, rfl, h⟩
  · rw [if_pos q] at h
    refine zr_iconst (v := (-1)) X dX10_plan_7 (by decide) ?_
    exact zr_iret X dX10_plan_8 rfl ⟨Nat.le_refl _, Nat.le_refl _⟩ ⟨rfl, _, rfl, h⟩

set_option maxRecDepth 100000 in
set_option maxHeartbeats 4000000 in
theorem x_fN_isPlan {l : Launch} {S : State} {D : va_G} {cA : Nat → ClassId} {tb sx : Nat → Nat} (hG : zv_G S D cA tb sx) (d : Nat) (hd : 1 ≤ d) (p1 : Int32) (m : zv_M) (P : Int32 → Prop) (h : zw (fN_isPlan p1 m) P) : zv_Met l S D cA d 0 0 yX10_isPlan cX10_isPlan 2 (some .boolean) [.ref (S.heap.size + 0), .int p1] SH0 m (zq_i SH0 (fun v m' => m = m' ∧ P v)) := by
  refine zv_met false hG pf_X10_isPlan (fun z => by cases z) (Nat.le_of_ble_eq_true rfl) [(0, .ref (S.heap.size + 0)), (1, .int p1)] rfl (fun p e s mi args below meth c X => ?_)
  rw [fN_isPlan] at h
  refine zr_iload_n X dX10_isPlan_0 1 rfl ?_
  refine zr_if_lt (tgt := 22) X dX10_isPlan_1 (by decide) (fun q => ?_) (fun q => ?_)
  · rw [if_pos q] at h
    refine zr_iconst (v := 0) X dX10_isPlan_22 (by decide) ?_
    exact zr_iret X dX10_isPlan_23 rfl ⟨Nat.le_refl _, Nat.le_refl _⟩ ⟨rfl, _, rfl, rfl, h⟩
  · rw [if_neg q] at h
    refine zr_iload_n X dX10_isPlan_4 1 rfl ?_
    refine zr_aload_n X dX10_isPlan_5 0 rfl ?_
    refine zr_getR X dX10_isPlan_6 zd_X10_12 rfl zo_0 zl_0_0 ?_
    refine zr_getR X dX10_isPlan_9 zd_X10_96 rfl zo_1 zl_1_0 ?_
    refine zr_getI X dX10_isPlan_12 zd_X10_116 rfl zo_2 (by rw [zk_2 zo_2]; decide) ?_
    refine zr_icmp_ge (tgt := 22) X dX10_isPlan_15 (by decide) (fun q => ?_) (fun q => ?_)
    · rw [if_neg q] at h
      refine zr_iconst (v := 0) X dX10_isPlan_22 (by decide) ?_
      exact zr_iret X dX10_isPlan_23 rfl ⟨Nat.le_refl _, Nat.le_refl _⟩ ⟨rfl, _, rfl, rfl, h⟩
    · rw [if_pos q] at h
      refine zr_iconst (v := 1) X dX10_isPlan_18 (by decide) ?_
      refine zr_goto (tgt := 23) X dX10_isPlan_19 (by decide) ?_
      exact zr_iret X dX10_isPlan_23 rfl ⟨Nat.le_refl _, Nat.le_refl _⟩ ⟨rfl, _, rfl, rfl, h⟩

set_option maxRecDepth 100000 in
set_option maxHeartbeats 4000000 in
theorem x_fN_of {l : Launch} {S : State} {D : va_G} {cA : Nat → ClassId} {tb sx : Nat → Nat} (hG : zv_G S D cA tb sx) (d : Nat) (hd : 2 ≤ d) (p1 : Int32) (p2 : Int32) (m : zv_M) (P : Int32 → Prop) (h : zw (fN_of p1 p2 m) P) : zv_Met l S D cA d 0 0 yX10_of cX10_of 3 (some .int) [.ref (S.heap.size + 0), .int p1, .int p2] SH0 m (zq_i SH0 (fun v m' => m = m' ∧ P v)) := by
  refine zv_met false hG pf_X10_of (fun z => by cases z) (Nat.le_of_ble_eq_true rfl) [(0, .ref (S.heap.size + 0)), (1, .int p1), (2, .int p2)] rfl (fun p e s mi args below meth c X => ?_)
  rw [fN_of] at h
  refine zr_aload_n X dX10_of_0 0 rfl ?_
  refine zr_iload_n X dX10_of_1 1 rfl ?_
  refine zr_callV_i (As := [.int p1]) (st := []) (d := d - 1) X dX10_of_2 wm_X10_119 my_X10_isPlan mv_X10_isPlan zo_0 rfl (Nat.le_of_ble_eq_true rfl) (zRm (by omega)) ⟨Nat.le_refl _, Nat.le_refl _⟩ (x_fN_isPlan hG (d - 1) (by omega) p1 m _ (zw_b1 h)) (fun r1 m2 q => ?_)
  obtain ⟨rfl, h⟩ := q
  refine zr_if_ne (tgt := 10) X dX10_of_5 (by decide) (fun q => ?_) (fun q => ?_)
  · rw [if_neg q] at h
    refine zr_iload_n X dX10_of_10 2 rfl ?_
    by_cases e0 : p2 = 0
    · rw [if_pos e0] at h
      refine zr_tableIn (tgt := 36) X dX10_of_11 0 (by rw [e0]; decide) (by decide) (by decide) rfl (by decide) ?_
      refine zr_aload_n X dX10_of_36 0 rfl ?_
      refine zr_getR X dX10_of_37 zd_X10_12 rfl zo_0 zl_0_0 ?_
      refine zr_getR X dX10_of_40 zd_X10_96 rfl zo_1 zl_1_0 ?_
      refine zr_iload_n X dX10_of_43 1 rfl ?_
      refine zr_callV_i (As := [.int p1]) (st := []) (d := d - 1) X dX10_of_44 wm_X10_122 my_X2_get mv_X2_get zo_2 rfl (Nat.le_of_ble_eq_true rfl) (zRm (by omega)) ⟨Nat.le_refl _, Nat.le_refl _⟩ (x_fPi_get hG (d - 1) (by omega) 2 zo_2 p1 m _ (zw_b1 h)) (fun r3 m4 q => ?_)
      obtain ⟨rfl, h⟩ := q
      exact zr_iret X dX10_of_47 rfl ⟨Nat.le_refl _, Nat.le_refl _⟩ ⟨rfl, _, rfl, rfl, h⟩
    rw [if_neg e0] at h
    by_cases e1 : p2 = 1
    · rw [if_pos e1] at h
      refine zr_tableIn (tgt := 48) X dX10_of_11 1 (by rw [e1]; decide) (by decide) (by decide) rfl (by decide) ?_
      refine zr_aload_n X dX10_of_48 0 rfl ?_
      refine zr_getR X dX10_of_49 zd_X10_12 rfl zo_0 zl_0_0 ?_
      refine zr_getR X dX10_of_52 zd_X10_110 rfl zo_1 zl_1_1 ?_
      refine zr_iload_n X dX10_of_55 1 rfl ?_
      refine zr_callV_i (As := [.int p1]) (st := []) (d := d - 1) X dX10_of_56 wm_X10_122 my_X2_get mv_X2_get zo_4 rfl (Nat.le_of_ble_eq_true rfl) (zRm (by omega)) ⟨Nat.le_refl _, Nat.le_refl _⟩ (x_fPi_get hG (d - 1) (by omega) 4 zo_4 p1 m _ (zw_b1 h)) (fun r5 m6 q => ?_)
      obtain ⟨rfl, h⟩ := q
      exact zr_iret X dX10_of_59 rfl ⟨Nat.le_refl _, Nat.le_refl _⟩ ⟨rfl, _, rfl, rfl, h⟩
    rw [if_neg e1] at h
    by_cases e2 : p2 = 2
    · rw [if_pos e2] at h
      refine zr_tableIn (tgt := 60) X dX10_of_11 2 (by rw [e2]; decide) (by decide) (by decide) rfl (by decide) ?_
      refine zr_aload_n X dX10_of_60 0 rfl ?_
      refine zr_getR X dX10_of_61 zd_X10_12 rfl zo_0 zl_0_0 ?_
      refine zr_iload_n X dX10_of_64 1 rfl ?_
      refine zr_callV_i (As := [.int p1]) (st := []) (d := d - 1) X dX10_of_65 wm_X10_126 my_X5_menOf mv_X5_menOf zo_1 rfl (Nat.le_of_ble_eq_true rfl) (zRm (by omega)) ⟨Nat.le_refl _, Nat.le_refl _⟩ (x_fSt_menOf hG (d - 1) (by omega) 1 zo_1 p1 m _ (zw_b1 h)) (fun r7 m8 q => ?_)
      obtain ⟨rfl, h⟩ := q
      exact zr_iret X dX10_of_68 rfl ⟨Nat.le_refl _, Nat.le_refl _⟩ ⟨rfl, _, rfl, rfl, h⟩
    rw [if_neg e2] at h
    refine zr_tableOut (tgt := 69) X dX10_of_11 (by have ze0 := lv_neT e0 (by decide : (0 : Int32).toInt = 0); have ze1 := lv_neT e1 (by decide : (1 : Int32).toInt = 1); have ze2 := lv_neT e2 (by decide : (2 : Int32).toInt = 2); omega) (by decide) ?_
    refine zr_iconst (v := (-1)) X dX10_of_69 (by decide) ?_
    exact zr_iret X dX10_of_70 rfl ⟨Nat.le_refl _, Nat.le_refl _⟩ ⟨rfl, _, rfl, rfl, h⟩
  · rw [if_pos q] at h
    refine zr_iconst (v := (-1)) X dX10_of_8 (by decide) ?_
    exact zr_iret X dX10_of_9 rfl ⟨Nat.le_refl _, Nat.le_refl _⟩ ⟨rfl, _, rfl, rfl, h⟩

set_option maxRecDepth 100000 in
set_option maxHeartbeats 4000000 in
theorem x_fN_row {l : Launch} {S : State} {D : va_G} {cA : Nat → ClassId} {tb sx : Nat → Nat} (hG : zv_G S D cA tb sx) (d : Nat) (hd : 2 ≤ d) (p1 : Int32) (p2 : Int32) (p3 : Int32) (m : zv_M) (P : Int32 → zv_M → Prop) (h : zw2 (fN_row p1 p2 p3 m) P) : zv_Met l S D cA d 0 0 yX10_row cX10_row 6 (some .int) [.ref (S.heap.size + 0), .int p1, .int p2, .int p3] SH0 m (zq_i SH0 P) := by
  refine zv_met false hG pf_X10_row (fun z => by cases z) (Nat.le_of_ble_eq_true rfl) [(0, .ref (S.heap.size + 0)), (1, .int p1), (2, .int p2), (3, .int p3)] rfl (fun p e s mi args below meth c X => ?_)
  rw [fN_row] at h
  refine zr_aload_n X dX10_row_0 0 rfl ?_
  refine zr_iload_n X dX10_row_1 1 rfl ?_
  refine zr_callV_i (As := [.int p1]) (st := []) (d := d - 1) X dX10_row_2 wm_X10_119 my_X10_isPlan mv_X10_isPlan zo_0 rfl (Nat.le_of_ble_eq_true rfl) (zRm (by omega)) ⟨Nat.le_refl _, Nat.le_refl _⟩ (x_fN_isPlan hG (d - 1) (by omega) p1 m _ (zw_b12 h)) (fun r1 m2 q => ?_)
  obtain ⟨rfl, h⟩ := q
  refine zr_if_eq (tgt := 18) X dX10_row_5 (by decide) (fun q => ?_) (fun q => ?_)
  · rw [if_pos q] at h
    refine zr_iconst (v := (-1)) X dX10_row_18 (by decide) ?_
    exact zr_iret X dX10_row_19 rfl ⟨Nat.le_refl _, Nat.le_refl _⟩ ⟨rfl, _, rfl, h⟩
  · rw [if_neg q] at h
    refine zr_iload_n X dX10_row_8 2 rfl ?_
    refine zr_if_lt (tgt := 18) X dX10_row_9 (by decide) (fun q => ?_) (fun q => ?_)
    · rw [if_pos q] at h
      refine zr_iconst (v := (-1)) X dX10_row_18 (by decide) ?_
      exact zr_iret X dX10_row_19 rfl ⟨Nat.le_refl _, Nat.le_refl _⟩ ⟨rfl, _, rfl, h⟩
    · rw [if_neg q] at h
      refine zr_iload_n X dX10_row_12 2 rfl ?_
      refine zr_bipush (v := 7) X dX10_row_13 (by decide) ?_
      refine zr_icmp_le (tgt := 20) X dX10_row_15 (by decide) (fun q => ?_) (fun q => ?_)
      · rw [if_neg q] at h
        refine zr_iload_n X dX10_row_20 3 rfl ?_
        refine zr_if_lt (tgt := 29) X dX10_row_21 (by decide) (fun q => ?_) (fun q => ?_)
        · rw [if_pos q] at h
          refine zr_bipush (v := (-2)) X dX10_row_29 (by decide) ?_
          exact zr_iret X dX10_row_31 rfl ⟨Nat.le_refl _, Nat.le_refl _⟩ ⟨rfl, _, rfl, h⟩
        · rw [if_neg q] at h
          refine zr_iload_n X dX10_row_24 3 rfl ?_
          refine zr_iconst (v := 1) X dX10_row_25 (by decide) ?_
          refine zr_icmp_le (tgt := 32) X dX10_row_26 (by decide) (fun q => ?_) (fun q => ?_)
          · rw [if_neg q] at h
            refine zr_aload_n X dX10_row_32 0 rfl ?_
            refine zr_getR X dX10_row_33 zd_X10_12 rfl zo_0 zl_0_0 ?_
            refine zr_getR X dX10_row_36 zd_X10_96 rfl zo_1 zl_1_0 ?_
            refine zr_iload_n X dX10_row_39 1 rfl ?_
            refine zr_callV_i (As := [.int p1]) (st := []) (d := d - 1) X dX10_row_40 wm_X10_122 my_X2_get mv_X2_get zo_2 rfl (Nat.le_of_ble_eq_true rfl) (zRm (by omega)) ⟨Nat.le_refl _, Nat.le_refl _⟩ (x_fPi_get hG (d - 1) (by omega) 2 zo_2 p1 m _ (zw_b12 h)) (fun r3 m4 q => ?_)
            obtain ⟨rfl, h⟩ := q
            refine zr_bipush (v := 6) X dX10_row_43 (by decide) ?_
            refine zr_icmp_eq (tgt := 51) X dX10_row_45 (by decide) (fun q => ?_) (fun q => ?_)
            · rw [if_pos q] at h
              refine zr_aload_n X dX10_row_51 0 rfl ?_
              refine zr_getR X dX10_row_52 zd_X10_12 rfl zo_0 zl_0_0 ?_
              refine zr_getR X dX10_row_55 zd_X10_113 rfl zo_1 zl_1_2 ?_
              refine zr_iload_n X dX10_row_58 1 rfl ?_
              refine zr_callV_i (As := [.int p1]) (st := []) (d := d - 1) X dX10_row_59 wm_X10_122 my_X2_get mv_X2_get zo_6 rfl (Nat.le_of_ble_eq_true rfl) (zRm (by omega)) ⟨Nat.le_refl _, Nat.le_refl _⟩ (x_fPi_get hG (d - 1) (by omega) 6 zo_6 p1 m _ (zw_b12 h)) (fun r5 m6 q => ?_)
              obtain ⟨rfl, h⟩ := q
              refine zr_istore (lo' := [(4, .int r5), (0, .ref (S.heap.size + 0)), (1, .int p1), (2, .int p2), (3, .int p3)]) X dX10_row_62 (by decide) rfl ?_
              refine zr_iconst (v := 1) X dX10_row_64 (by decide) ?_
              refine zr_iload_n X dX10_row_65 3 rfl ?_
              refine zr_ishl X dX10_row_66 ?_
              refine zr_istore (lo' := [(5, .int (1 <<< (p2 &&& 31))), (4, .int r5), (0, .ref (S.heap.size + 0)), (1, .int p1), (2, .int p2), (3, .int p3)]) X dX10_row_67 (by decide) rfl ?_
              refine zr_aload_n X dX10_row_69 2 rfl ?_
              refine zr_getR X dX10_row_70 zd_X10_12 rfl zo_0 zl_0_0 ?_
              refine zr_getR X dX10_row_73 zd_X10_113 rfl zo_1 zl_1_2 ?_
              refine zr_iload_n X dX10_row_76 3 rfl ?_
              refine zr_iload_n X dX10_row_77 5 rfl ?_
              refine zr_iconst (v := 1) X dX10_row_78 (by decide) ?_
              have hJ97 : ∀ (v7 : Int32), zw2 (fN_row_j97 p1 p2 m r5 v7) P → zv_V S D cA p l e (zv_rm d 0 0) s mi args below meth c 6 (MQ below (zv_Q S D cA (zq_i SH0 P)) args s 0 0 (zv_fr S)) 0 0 97 [(4, .int r5), (5, .int (1 <<< (p2 &&& 31)))] [.int v7, .int p1, .ref (S.heap.size + 6)] SH0 m := by
                intro v7 h
                rw [fN_row_j97] at h
                refine zr_callV_v (As := [.int p1, .int v7]) (st := []) (d := d - 1) X dX10_row_97 wm_X10_129 my_X2_put mv_X2_put zo_6 rfl (Nat.le_of_ble_eq_true rfl) (zRm (by omega)) ⟨Nat.le_refl _, Nat.le_refl _⟩ (x_fPi_put hG (d - 1) (by omega) 6 zo_6 p1 v7 m _ (zw_b12 h)) (fun m8 q => ?_)
                replace h := q
                refine zr_iload X dX10_row_100 0 rfl ?_
                refine zr_iload X dX10_row_102 1 rfl ?_
                refine zr_iand X dX10_row_104 ?_
                refine zr_if_eq (tgt := 112) X dX10_row_105 (by decide) (fun q => ?_) (fun q => ?_)
                · rw [if_pos q] at h
                  refine zr_iconst (v := 0) X dX10_row_112 (by decide) ?_
                  exact zr_iret X dX10_row_113 rfl ⟨Nat.le_refl _, Nat.le_refl _⟩ ⟨rfl, _, rfl, h⟩
                · rw [if_neg q] at h
                  refine zr_iconst (v := 1) X dX10_row_108 (by decide) ?_
                  refine zr_goto (tgt := 113) X dX10_row_109 (by decide) ?_
                  exact zr_iret X dX10_row_113 rfl ⟨Nat.le_refl _, Nat.le_refl _⟩ ⟨rfl, _, rfl, h⟩
              refine zr_icmp_ne (tgt := 90) X dX10_row_79 (by decide) (fun q => ?_) (fun q => ?_)
              · rw [if_neg q] at h
                refine zr_iload X dX10_row_90 1 rfl ?_
                refine zr_iload X dX10_row_92 0 rfl ?_
                refine zr_iconst (v := (-1)) X dX10_row_94 (by decide) ?_
                refine zr_ixor X dX10_row_95 ?_
                refine zr_iand X dX10_row_96 ?_
                exact zr_sub [1, 0] rfl (hJ97 (r5 &&& ((1 <<< (p2 &&& 31)) ^^^ (-1))) h)
              · rw [if_pos q] at h
                refine zr_iload X dX10_row_82 1 rfl ?_
                refine zr_iload X dX10_row_84 0 rfl ?_
                refine zr_ior X dX10_row_86 ?_
                refine zr_goto (tgt := 97) X dX10_row_87 (by decide) ?_
                exact zr_sub [1, 0] rfl (hJ97 (r5 ||| (1 <<< (p2 &&& 31))) h)
            · rw [if_neg q] at h
              refine zr_bipush (v := (-3)) X dX10_row_48 (by decide) ?_
              exact zr_iret X dX10_row_50 rfl ⟨Nat.le_refl _, Nat.le_refl _⟩ ⟨rfl, _, rfl, h⟩
          · rw [if_pos q] at h
            refine zr_bipush (v := (-2)) X dX10_row_29 (by decide) ?_
            exact zr_iret X dX10_row_31 rfl ⟨Nat.le_refl _, Nat.le_refl _⟩ ⟨rfl, _, rfl, h⟩
      · rw [if_pos q] at h
        refine zr_iconst (v := (-1)) X dX10_row_18 (by decide) ?_
        exact zr_iret X dX10_row_19 rfl ⟨Nat.le_refl _, Nat.le_refl _⟩ ⟨rfl, _, rfl, h⟩

set_option maxRecDepth 100000 in
set_option maxHeartbeats 4000000 in
theorem x_fN_feed {l : Launch} {S : State} {D : va_G} {cA : Nat → ClassId} {tb sx : Nat → Nat} (hG : zv_G S D cA tb sx) (d : Nat) (hd : 2 ≤ d) (p1 : Int32) (m : zv_M) (P : Int32 → zv_M → Prop) (h : zw2 (fN_feed p1 m) P) : zv_Met l S D cA d 0 0 yX10_feed cX10_feed 2 (some .int) [.ref (S.heap.size + 0), .int p1] SH0 m (zq_i SH0 P) := by
  refine zv_met false hG pf_X10_feed (fun z => by cases z) (Nat.le_of_ble_eq_true rfl) [(0, .ref (S.heap.size + 0)), (1, .int p1)] rfl (fun p e s mi args below meth c X => ?_)
  rw [fN_feed] at h
  refine zr_iload_n X dX10_feed_0 1 rfl ?_
  refine zr_if_lt (tgt := 10) X dX10_feed_1 (by decide) (fun q => ?_) (fun q => ?_)
  · rw [if_pos q] at h
    refine zr_bipush (v := (-2)) X dX10_feed_10 (by decide) ?_
    exact zr_iret X dX10_feed_12 rfl ⟨Nat.le_refl _, Nat.le_refl _⟩ ⟨rfl, _, rfl, h⟩
  · rw [if_neg q] at h
    refine zr_iload_n X dX10_feed_4 1 rfl ?_
    refine zr_bipush (v := 127) X dX10_feed_5 (by decide) ?_
    refine zr_icmp_le (tgt := 13) X dX10_feed_7 (by decide) (fun q => ?_) (fun q => ?_)
    · rw [if_neg q] at h
      refine zr_aload_n X dX10_feed_13 0 rfl ?_
      refine zr_getR X dX10_feed_14 zd_X10_28 rfl zo_0 zl_0_3 ?_
      refine zr_callV_i (As := []) (st := []) (d := d - 1) X dX10_feed_17 wm_X10_133 my_X9_isFull mv_X9_isFull zo_33 rfl (Nat.le_of_ble_eq_true rfl) (zRm (by omega)) ⟨Nat.le_refl _, Nat.le_refl _⟩ (x_fRe_isFull hG (d - 1) (by omega) m _ (zw_b12 h)) (fun r1 m2 q => ?_)
      obtain ⟨rfl, h⟩ := q
      refine zr_if_eq (tgt := 26) X dX10_feed_20 (by decide) (fun q => ?_) (fun q => ?_)
      · rw [if_pos q] at h
        refine zr_aload_n X dX10_feed_26 0 rfl ?_
        refine zr_getR X dX10_feed_27 zd_X10_28 rfl zo_0 zl_0_3 ?_
        refine zr_iload_n X dX10_feed_30 1 rfl ?_
        refine zr_callV_v (As := [.int p1]) (st := []) (d := d - 1) X dX10_feed_31 wm_X10_134 my_X9_add mv_X9_add zo_33 rfl (Nat.le_of_ble_eq_true rfl) (zRm (by omega)) ⟨Nat.le_refl _, Nat.le_refl _⟩ (x_fRe_add hG (d - 1) (by omega) p1 m _ (zw_b12 h)) (fun m3 q => ?_)
        replace h := q
        refine zr_aload_n X dX10_feed_34 0 rfl ?_
        refine zr_getR X dX10_feed_35 zd_X10_28 rfl zo_0 zl_0_3 ?_
        refine zr_getI X dX10_feed_38 zd_X10_135 rfl zo_33 (by rw [zk_9 zo_33]; decide) ?_
        exact zr_iret X dX10_feed_41 rfl ⟨Nat.le_refl _, Nat.le_refl _⟩ ⟨rfl, _, rfl, h⟩
      · rw [if_neg q] at h
        refine zr_bipush (v := (-4)) X dX10_feed_23 (by decide) ?_
        exact zr_iret X dX10_feed_25 rfl ⟨Nat.le_refl _, Nat.le_refl _⟩ ⟨rfl, _, rfl, h⟩
    · rw [if_pos q] at h
      refine zr_bipush (v := (-2)) X dX10_feed_10 (by decide) ?_
      exact zr_iret X dX10_feed_12 rfl ⟨Nat.le_refl _, Nat.le_refl _⟩ ⟨rfl, _, rfl, h⟩

set_option maxRecDepth 100000 in
set_option maxHeartbeats 4000000 in
theorem x_fN_yard {l : Launch} {S : State} {D : va_G} {cA : Nat → ClassId} {tb sx : Nat → Nat} (hG : zv_G S D cA tb sx) (d : Nat) (hd : 23 ≤ d) (m : zv_M) (P : Int32 → zv_M → Prop) (h : zw2 (fN_yard m) P) : zv_Met l S D cA d 0 0 yX10_yard cX10_yard 2 (some .int) [.ref (S.heap.size + 0)] SH0 m (zq_i SH0 P) := by
  refine zv_met false hG pf_X10_yard (fun z => by cases z) (Nat.le_of_ble_eq_true rfl) [(0, .ref (S.heap.size + 0))] rfl (fun p e s mi args below meth c X => ?_)
  rw [fN_yard] at h
  refine zr_aload_n X dX10_yard_0 0 rfl ?_
  refine zr_getI X dX10_yard_1 zd_X10_43 rfl zo_0 (by rw [zk_10 zo_0]; decide) ?_
  refine zr_if_lt (tgt := 31) X dX10_yard_4 (by decide) (fun q => ?_) (fun q => ?_)
  · rw [if_pos q] at h
    refine zr_bipush (v := (-4)) X dX10_yard_31 (by decide) ?_
    exact zr_iret X dX10_yard_33 rfl ⟨Nat.le_refl _, Nat.le_refl _⟩ ⟨rfl, _, rfl, h⟩
  · rw [if_neg q] at h
    refine zr_aload_n X dX10_yard_7 0 rfl ?_
    refine zr_getI X dX10_yard_8 zd_X10_43 rfl zo_0 (by rw [zk_10 zo_0]; decide) ?_
    refine zr_aload_n X dX10_yard_11 0 rfl ?_
    refine zr_getR X dX10_yard_12 zd_X10_34 rfl zo_0 zl_0_4 ?_
    refine zr_alenQ (v := 6) X dX10_yard_15 zq_35 rfl ?_
    refine zr_icmp_ge (tgt := 31) X dX10_yard_16 (by decide) (fun q => ?_) (fun q => ?_)
    · rw [if_neg q] at h
      refine zr_bipush (v := (-4)) X dX10_yard_31 (by decide) ?_
      exact zr_iret X dX10_yard_33 rfl ⟨Nat.le_refl _, Nat.le_refl _⟩ ⟨rfl, _, rfl, h⟩
    · rw [if_pos q] at h
      refine zr_aload_n X dX10_yard_19 0 rfl ?_
      refine zr_getR X dX10_yard_20 zd_X10_34 rfl zo_0 zl_0_4 ?_
      refine zr_aload_n X dX10_yard_23 0 rfl ?_
      refine zr_getI X dX10_yard_24 zd_X10_43 rfl zo_0 (by rw [zk_10 zo_0]; decide) ?_
      obtain ⟨g0, h⟩ := zg_e2 h
      refine zr_aald X dX10_yard_27 zq_35 (zI_in g0) (zqe_35 g0).1 ?_
      have hq1 := (zqe_35 g0).2
      refine zr_ifnonnull (tgt := 34) X dX10_yard_28 (by decide) ?_
      refine zr_aload_n X dX10_yard_34 0 rfl ?_
      refine zr_getR X dX10_yard_35 zd_X10_28 rfl zo_0 zl_0_3 ?_
      refine zr_iconst (v := 4) X dX10_yard_38 (by decide) ?_
      refine zr_callV_i (As := [.int 4]) (st := []) (d := d - 1) X dX10_yard_39 wm_X10_138 my_X9_readClauses mv_X9_readClauses zo_33 rfl (Nat.le_of_ble_eq_true rfl) (zRm (by omega)) ⟨Nat.le_refl _, Nat.le_refl _⟩ (x_fRe_readClauses hG (d - 1) (by omega) 4 m _ (zw_b22 h)) (fun r2 m3 q => ?_)
      replace h := q
      refine zr_istore_n (lo' := [(1, .int r2), (0, .ref (S.heap.size + 0))]) X dX10_yard_42 (by decide) rfl ?_
      refine zr_iload_n X dX10_yard_43 0 rfl ?_
      have hJ62 : ∀ (m4 : zv_M), zw2 (fN_yard_j62 r2 m4) P → zv_V S D cA p l e (zv_rm d 0 0) s mi args below meth c 2 (MQ below (zv_Q S D cA (zq_i SH0 P)) args s 0 0 (zv_fr S)) 0 0 62 [(0, .ref (S.heap.size + 0)), (1, .int r2)] [] SH0 m4 := by
        intro m4 h
        rw [fN_yard_j62] at h
        refine zr_aload_n X dX10_yard_62 0 rfl ?_
        refine zr_getR X dX10_yard_63 zd_X10_28 rfl zo_0 zl_0_3 ?_
        refine zr_iconst (v := 0) X dX10_yard_66 (by decide) ?_
        refine zr_put X dX10_yard_67 zd_X10_135 rfl rfl rfl zo_33 (by rw [zk_9 zo_33]; decide) ?_
        refine zr_iload_n X dX10_yard_70 1 rfl ?_
        refine zr_if_lt (tgt := 79) X dX10_yard_71 (by decide) (fun q => ?_) (fun q => ?_)
        · rw [if_pos q] at h
          refine zr_aload_n X dX10_yard_79 0 rfl ?_
          refine zr_getR X dX10_yard_80 zd_X10_34 rfl zo_0 zl_0_4 ?_
          refine zr_aload_n X dX10_yard_83 0 rfl ?_
          refine zr_getI X dX10_yard_84 zd_X10_43 rfl zo_0 (by rw [zk_10 zo_0]; decide) ?_
          obtain ⟨g0, h⟩ := zg_e2 h
          refine zr_aald X dX10_yard_87 zq_35 (zI_in g0) (zqe_35 g0).1 ?_
          have hq5 := (zqe_35 g0).2
          refine zr_aload_n X dX10_yard_88 0 rfl ?_
          refine zr_getR X dX10_yard_89 zd_X10_28 rfl zo_0 zl_0_3 ?_
          refine zr_callV_v (As := [.ref (S.heap.size + 33)]) (st := []) (d := d - 1) X dX10_yard_92 wm_X10_144 my_X8_layOut mv_X8_layOut hq5 rfl (Nat.le_of_ble_eq_true rfl) (zRm (by omega)) ⟨Nat.le_refl _, Nat.le_refl _⟩ (x_fYa_layOut hG (d - 1) (by omega) (zrf 35 ((wI m4 33 1 0).1 0 6).toNatClampNeg) hq5 33 zo_33 (wI m4 33 1 0) _ (zw_b12 h)) (fun m6 q => ?_)
          replace h := q
          refine zr_aload_n X dX10_yard_95 0 rfl ?_
          refine zr_getR X dX10_yard_96 zd_X10_12 rfl zo_0 zl_0_0 ?_
          refine zr_callV_v (As := []) (st := []) (d := d - 1) X dX10_yard_99 wm_X10_148 my_X5_leaveBoard mv_X5_leaveBoard zo_1 rfl (Nat.le_of_ble_eq_true rfl) (zRm (by omega)) ⟨Nat.le_refl _, Nat.le_refl _⟩ (x_fSt_leaveBoard hG (d - 1) (by omega) 1 zo_1 m6 _ (zw_b12 h)) (fun m7 q => ?_)
          replace h := q
          refine zr_aload_n X dX10_yard_102 0 rfl ?_
          refine zr_getR X dX10_yard_103 zd_X10_12 rfl zo_0 zl_0_0 ?_
          refine zr_aload_n X dX10_yard_106 0 rfl ?_
          refine zr_getI X dX10_yard_107 zd_X10_43 rfl zo_0 (by rw [zk_10 zo_0]; decide) ?_
          refine zr_put X dX10_yard_110 zd_X10_151 rfl rfl rfl zo_1 (by rw [zk_5 zo_1]; decide) ?_
          refine zr_aload_n X dX10_yard_113 0 rfl ?_
          refine zr_dup X dX10_yard_114 rfl ?_
          refine zr_getI X dX10_yard_115 zd_X10_43 rfl zo_0 (by rw [zk_10 zo_0]; decide) ?_
          refine zr_iconst (v := 1) X dX10_yard_118 (by decide) ?_
          refine zr_iadd X dX10_yard_119 ?_
          refine zr_put X dX10_yard_120 zd_X10_43 rfl rfl rfl zo_0 (by rw [zk_10 zo_0]; decide) ?_
          refine zr_aload_n X dX10_yard_123 0 rfl ?_
          refine zr_getR X dX10_yard_124 zd_X10_12 rfl zo_0 zl_0_0 ?_
          refine zr_getI X dX10_yard_127 zd_X10_151 rfl zo_1 (by rw [zk_5 zo_1]; decide) ?_
          exact zr_iret X dX10_yard_130 rfl ⟨Nat.le_refl _, Nat.le_refl _⟩ ⟨rfl, _, rfl, h⟩
        · rw [if_neg q] at h
          refine zr_bipush (v := (-10)) X dX10_yard_74 (by decide) ?_
          refine zr_iload_n X dX10_yard_76 1 rfl ?_
          refine zr_isub X dX10_yard_77 ?_
          exact zr_iret X dX10_yard_78 rfl ⟨Nat.le_refl _, Nat.le_refl _⟩ ⟨rfl, _, rfl, h⟩
      refine zr_if_ge (tgt := 62) X dX10_yard_44 (by decide) (fun q => ?_) (fun q => ?_)
      · rw [if_neg q] at h
        exact zr_sub [1, 0] rfl (hJ62 m3 h)
      · rw [if_pos q] at h
        refine zr_aload_n X dX10_yard_47 1 rfl ?_
        refine zr_getR X dX10_yard_48 zd_X10_28 rfl zo_0 zl_0_3 ?_
        refine zr_aload_n X dX10_yard_51 1 rfl ?_
        refine zr_getR X dX10_yard_52 zd_X10_28 rfl zo_0 zl_0_3 ?_
        refine zr_getI X dX10_yard_55 zd_X10_141 rfl zo_33 (by rw [zk_9 zo_33]; decide) ?_
        refine zr_callV_i (As := [.int (m3.1 33 2)]) (st := []) (d := d - 1) X dX10_yard_58 wm_X10_138 my_X9_readClauses mv_X9_readClauses zo_33 rfl (Nat.le_of_ble_eq_true rfl) (zRm (by omega)) ⟨Nat.le_refl _, Nat.le_refl _⟩ (x_fRe_readClauses hG (d - 1) (by omega) (m3.1 33 2) m3 _ (zw_b22 h)) (fun r8 m9 q => ?_)
        replace h := q
        refine zr_pop X dX10_yard_61 rfl ?_
        exact zr_sub [1, 0] rfl (hJ62 m9 h)

set_option maxRecDepth 100000 in
set_option maxHeartbeats 4000000 in
theorem x_fN_ground {l : Launch} {S : State} {D : va_G} {cA : Nat → ClassId} {tb sx : Nat → Nat} (hG : zv_G S D cA tb sx) (d : Nat) (hd : 1 ≤ d) (m : zv_M) (P : Nat → Prop) (h : zw (fN_ground m) P) : zv_Met l S D cA d 0 0 yX10_ground cX10_ground 1 (some (.object "NoneSees$Yard")) [.ref (S.heap.size + 0)] SH0 m (zq_a S.heap.size SH0 (fun a m' => m = m' ∧ zcl a 8 ∧ P a)) := by
  refine zv_met false hG pf_X10_ground (fun z => by cases z) (Nat.le_of_ble_eq_true rfl) [(0, .ref (S.heap.size + 0))] rfl (fun p e s mi args below meth c X => ?_)
  rw [fN_ground] at h
  refine zr_aload_n X dX10_ground_0 0 rfl ?_
  refine zr_getR X dX10_ground_1 zd_X10_12 rfl zo_0 zl_0_0 ?_
  refine zr_getI X dX10_ground_4 zd_X10_151 rfl zo_1 (by rw [zk_5 zo_1]; decide) ?_
  refine zr_if_lt (tgt := 40) X dX10_ground_7 (by decide) (fun q => ?_) (fun q => ?_)
  · rw [if_pos q] at h
    refine zr_aload_n X dX10_ground_40 0 rfl ?_
    refine zr_getR X dX10_ground_41 zd_X10_39 rfl zo_0 zl_0_5 ?_
    exact zr_aret X dX10_ground_44 (Or.inl ⟨_, rfl⟩) ⟨Nat.le_refl _, Nat.le_refl _⟩ ⟨rfl, _, rfl, rfl, zo_42, h⟩
  · rw [if_neg q] at h
    refine zr_aload_n X dX10_ground_10 0 rfl ?_
    refine zr_getR X dX10_ground_11 zd_X10_12 rfl zo_0 zl_0_0 ?_
    refine zr_getI X dX10_ground_14 zd_X10_151 rfl zo_1 (by rw [zk_5 zo_1]; decide) ?_
    refine zr_aload_n X dX10_ground_17 0 rfl ?_
    refine zr_getR X dX10_ground_18 zd_X10_34 rfl zo_0 zl_0_4 ?_
    refine zr_alenQ (v := 6) X dX10_ground_21 zq_35 rfl ?_
    refine zr_icmp_ge (tgt := 40) X dX10_ground_22 (by decide) (fun q => ?_) (fun q => ?_)
    · rw [if_neg q] at h
      refine zr_aload_n X dX10_ground_40 0 rfl ?_
      refine zr_getR X dX10_ground_41 zd_X10_39 rfl zo_0 zl_0_5 ?_
      exact zr_aret X dX10_ground_44 (Or.inl ⟨_, rfl⟩) ⟨Nat.le_refl _, Nat.le_refl _⟩ ⟨rfl, _, rfl, rfl, zo_42, h⟩
    · rw [if_pos q] at h
      refine zr_aload_n X dX10_ground_25 0 rfl ?_
      refine zr_getR X dX10_ground_26 zd_X10_34 rfl zo_0 zl_0_4 ?_
      refine zr_aload_n X dX10_ground_29 0 rfl ?_
      refine zr_getR X dX10_ground_30 zd_X10_12 rfl zo_0 zl_0_0 ?_
      refine zr_getI X dX10_ground_33 zd_X10_151 rfl zo_1 (by rw [zk_5 zo_1]; decide) ?_
      obtain ⟨g0, h⟩ := zg_e h
      refine zr_aald X dX10_ground_36 zq_35 (zI_in g0) (zqe_35 g0).1 ?_
      have hq1 := (zqe_35 g0).2
      refine zr_ifnonnull (tgt := 45) X dX10_ground_37 (by decide) ?_
      refine zr_aload_n X dX10_ground_45 0 rfl ?_
      refine zr_getR X dX10_ground_46 zd_X10_34 rfl zo_0 zl_0_4 ?_
      refine zr_aload_n X dX10_ground_49 0 rfl ?_
      refine zr_getR X dX10_ground_50 zd_X10_12 rfl zo_0 zl_0_0 ?_
      refine zr_getI X dX10_ground_53 zd_X10_151 rfl zo_1 (by rw [zk_5 zo_1]; decide) ?_
      obtain ⟨g0, h⟩ := zg_e h
      refine zr_aald X dX10_ground_56 zq_35 (zI_in g0) (zqe_35 g0).1 ?_
      have hq2 := (zqe_35 g0).2
      exact zr_aret X dX10_ground_57 (Or.inl ⟨_, rfl⟩) ⟨Nat.le_refl _, Nat.le_refl _⟩ ⟨rfl, _, rfl, rfl, hq2, h⟩

set_option maxRecDepth 100000 in
set_option maxHeartbeats 4000000 in
theorem x_fN_viewOf {l : Launch} {S : State} {D : va_G} {cA : Nat → ClassId} {tb sx : Nat → Nat} (hG : zv_G S D cA tb sx) (d : Nat) (hd : 5 ≤ d) (p1 : Int32) (p2 : Int32) (m : zv_M) (P : Int32 → Prop) (h : zw (fN_viewOf p1 p2 m) P) : zv_Met l S D cA d 0 0 yX10_viewOf cX10_viewOf 3 (some .int) [.ref (S.heap.size + 0), .int p1, .int p2] SH0 m (zq_i SH0 (fun v m' => m = m' ∧ P v)) := by
  refine zv_met false hG pf_X10_viewOf (fun z => by cases z) (Nat.le_of_ble_eq_true rfl) [(0, .ref (S.heap.size + 0)), (1, .int p1), (2, .int p2)] rfl (fun p e s mi args below meth c X => ?_)
  rw [fN_viewOf] at h
  refine zr_aload_n X dX10_viewOf_0 0 rfl ?_
  refine zr_callV_a (As := []) (st := []) (d := d - 1) X dX10_viewOf_1 wm_X10_154 my_X10_ground mv_X10_ground zo_0 rfl (Nat.le_of_ble_eq_true rfl) (zRm (by omega)) ⟨Nat.le_refl _, Nat.le_refl _⟩ (x_fN_ground hG (d - 1) (by omega) m _ (zw_b1 h)) (fun r1 m2 q => ?_)
  obtain ⟨rfl, hc3, h⟩ := q
  refine zr_aload_n X dX10_viewOf_4 0 rfl ?_
  refine zr_getR X dX10_viewOf_5 zd_X10_12 rfl zo_0 zl_0_0 ?_
  refine zr_getR X dX10_viewOf_8 zd_X10_96 rfl zo_1 zl_1_0 ?_
  refine zr_iload_n X dX10_viewOf_11 1 rfl ?_
  refine zr_callV_i (As := [.int p1]) (st := [.ref (S.heap.size + r1)]) (d := d - 1) X dX10_viewOf_12 wm_X10_122 my_X2_get mv_X2_get zo_2 rfl (Nat.le_of_ble_eq_true rfl) (zRm (by omega)) ⟨Nat.le_refl _, Nat.le_refl _⟩ (x_fPi_get hG (d - 1) (by omega) 2 zo_2 p1 m _ (zw_b1 h)) (fun r4 m5 q => ?_)
  obtain ⟨rfl, h⟩ := q
  refine zr_aload_n X dX10_viewOf_15 0 rfl ?_
  refine zr_getR X dX10_viewOf_16 zd_X10_12 rfl zo_0 zl_0_0 ?_
  refine zr_getR X dX10_viewOf_19 zd_X10_110 rfl zo_1 zl_1_1 ?_
  refine zr_iload_n X dX10_viewOf_22 1 rfl ?_
  refine zr_callV_i (As := [.int p1]) (st := [.int r4, .ref (S.heap.size + r1)]) (d := d - 1) X dX10_viewOf_23 wm_X10_122 my_X2_get mv_X2_get zo_4 rfl (Nat.le_of_ble_eq_true rfl) (zRm (by omega)) ⟨Nat.le_refl _, Nat.le_refl _⟩ (x_fPi_get hG (d - 1) (by omega) 4 zo_4 p1 m _ (zw_b1 h)) (fun r6 m7 q => ?_)
  obtain ⟨rfl, h⟩ := q
  refine zr_aload_n X dX10_viewOf_26 0 rfl ?_
  refine zr_getR X dX10_viewOf_27 zd_X10_12 rfl zo_0 zl_0_0 ?_
  refine zr_getR X dX10_viewOf_30 zd_X10_113 rfl zo_1 zl_1_2 ?_
  refine zr_iload_n X dX10_viewOf_33 1 rfl ?_
  refine zr_callV_i (As := [.int p1]) (st := [.int r6, .int r4, .ref (S.heap.size + r1)]) (d := d - 1) X dX10_viewOf_34 wm_X10_122 my_X2_get mv_X2_get zo_6 rfl (Nat.le_of_ble_eq_true rfl) (zRm (by omega)) ⟨Nat.le_refl _, Nat.le_refl _⟩ (x_fPi_get hG (d - 1) (by omega) 6 zo_6 p1 m _ (zw_b1 h)) (fun r8 m9 q => ?_)
  obtain ⟨rfl, h⟩ := q
  refine zr_iload_n X dX10_viewOf_37 2 rfl ?_
  refine zr_callV_i (As := [.int r4, .int r6, .int r8, .int p2]) (st := []) (d := d - 1) X dX10_viewOf_38 wm_X10_372 my_X8_view mv_X8_view hc3 rfl (Nat.le_of_ble_eq_true rfl) (zRm (by omega)) ⟨Nat.le_refl _, Nat.le_refl _⟩ (x_fYa_view hG (d - 1) (by omega) r1 hc3 r4 r6 r8 p2 m _ (zw_b1 h)) (fun r10 m11 q => ?_)
  obtain ⟨rfl, h⟩ := q
  exact zr_iret X dX10_viewOf_41 rfl ⟨Nat.le_refl _, Nat.le_refl _⟩ ⟨rfl, _, rfl, rfl, h⟩

set_option maxRecDepth 100000 in
set_option maxHeartbeats 4000000 in
theorem x_fN_lookByMen {l : Launch} {S : State} {D : va_G} {cA : Nat → ClassId} {tb sx : Nat → Nat} (hG : zv_G S D cA tb sx) (d : Nat) (hd : 6 ≤ d) (m : zv_M) (P : zv_M → Prop) (h : zw (fN_lookByMen m) P) : zv_Met l S D cA d 0 0 yX10_lookByMen cX10_lookByMen 3 none [.ref (S.heap.size + 0)] SH0 m (zq_v SH0 P) := by
  refine zv_met false hG pf_X10_lookByMen (fun z => by cases z) (Nat.le_of_ble_eq_true rfl) [(0, .ref (S.heap.size + 0))] rfl (fun p e s mi args below meth c X => ?_)
  rw [fN_lookByMen] at h
  refine zr_iconst (v := 0) X dX10_lookByMen_0 (by decide) ?_
  refine zr_istore_n (lo' := [(1, .int 0), (0, .ref (S.heap.size + 0))]) X dX10_lookByMen_1 (by decide) rfl ?_
  refine zr_sub [1, 0] rfl ?_
  refine zl_w2 (fun a2 m3 => zv_V S D cA p l e (zv_rm d 0 0) s mi args below meth c 3 (MQ below (zv_Q S D cA (zq_v SH0 P)) args s 0 0 (zv_fr S)) 0 0 2 [(0, .ref (S.heap.size + 0)), (1, .int a2)] [] SH0 m3) fN_lookByMen_l2 _ (fun P1 hl1 hr1 a2 m3 h => ?_) zFU 0 m (zw_b1 h)
  rw [fN_lookByMen_l2] at h
  refine zr_iload_n X dX10_lookByMen_2 1 rfl ?_
  refine zr_bipush (v := 25) X dX10_lookByMen_3 (by decide) ?_
  refine zr_icmp_ge (tgt := 45) X dX10_lookByMen_5 (by decide) (fun q => ?_) (fun q => ?_)
  · rw [if_neg q] at h
    have h := hr1 _ h
    exact zr_vret X dX10_lookByMen_45 ⟨Nat.le_refl _, Nat.le_refl _⟩ ⟨rfl, rfl, h⟩
  · rw [if_pos q] at h
    refine zr_aload_n X dX10_lookByMen_8 0 rfl ?_
    refine zr_getR X dX10_lookByMen_9 zd_X10_12 rfl zo_0 zl_0_0 ?_
    refine zr_iload_n X dX10_lookByMen_12 1 rfl ?_
    refine zr_callV_i (As := [.int a2]) (st := []) (d := d - 1) X dX10_lookByMen_13 wm_X10_199 my_X5_manOn mv_X5_manOn zo_1 rfl (Nat.le_of_ble_eq_true rfl) (zRm (by omega)) ⟨Nat.le_refl _, Nat.le_refl _⟩ (x_fSt_manOn hG (d - 1) (by omega) 1 zo_1 a2 m3 _ (zw_b1 h)) (fun r4 m5 q => ?_)
    obtain ⟨rfl, h⟩ := q
    refine zr_istore_n (lo' := [(2, .int r4), (0, .ref (S.heap.size + 0)), (1, .int a2)]) X dX10_lookByMen_16 (by decide) rfl ?_
    refine zr_aload_n X dX10_lookByMen_17 1 rfl ?_
    refine zr_getR X dX10_lookByMen_18 zd_X10_50 rfl zo_0 zl_0_7 ?_
    refine zr_iload_n X dX10_lookByMen_21 2 rfl ?_
    refine zr_iload_n X dX10_lookByMen_22 0 rfl ?_
    have hJ36 : ∀ (v6 : Int32), zw (fN_lookByMen_j36 a2 m3 v6) P1 → zv_V S D cA p l e (zv_rm d 0 0) s mi args below meth c 3 (MQ below (zv_Q S D cA (zq_v SH0 P)) args s 0 0 (zv_fr S)) 0 0 36 [(0, .ref (S.heap.size + 0)), (1, .int a2)] [.int v6, .int a2, .ref (S.heap.size + 43)] SH0 m3 := by
      intro v6 h
      rw [fN_lookByMen_j36] at h
      refine zr_callV_v (As := [.int a2, .int v6]) (st := []) (d := d - 1) X dX10_lookByMen_36 wm_X10_376 my_X4_put mv_X4_put zo_43 rfl (Nat.le_of_ble_eq_true rfl) (zRm (by omega)) ⟨Nat.le_refl _, Nat.le_refl _⟩ (x_fSi_put hG (d - 1) (by omega) 43 zo_43 a2 v6 m3 _ (zw_b1 h)) (fun m7 q => ?_)
      replace h := q
      refine zr_iinc (v := a2 + 1) (lo' := [(1, .int (a2 + 1)), (0, .ref (S.heap.size + 0))]) X dX10_lookByMen_39 1 rfl rfl (by decide) rfl ?_
      refine zr_goto (tgt := 2) X dX10_lookByMen_42 (by decide) ?_
      have h := hl1 _ h
      exact zr_sub [1, 0] rfl h
    refine zr_if_ge (tgt := 30) X dX10_lookByMen_23 (by decide) (fun q => ?_) (fun q => ?_)
    · rw [if_neg q] at h
      refine zr_aload_n X dX10_lookByMen_30 1 rfl ?_
      refine zr_iload_n X dX10_lookByMen_31 0 rfl ?_
      refine zr_iload_n X dX10_lookByMen_32 2 rfl ?_
      refine zr_callV_i (As := [.int r4, .int a2]) (st := [.int a2, .ref (S.heap.size + 43)]) (d := d - 1) X dX10_lookByMen_33 wm_X10_208 my_X10_viewOf mv_X10_viewOf zo_0 rfl (Nat.le_of_ble_eq_true rfl) (zRm (by omega)) ⟨Nat.le_refl _, Nat.le_refl _⟩ (x_fN_viewOf hG (d - 1) (by omega) r4 a2 m3 _ (zw_b1 h)) (fun r8 m9 q => ?_)
      obtain ⟨rfl, h⟩ := q
      exact zr_sub [1, 2] rfl (hJ36 r8 h)
    · rw [if_pos q] at h
      refine zr_iconst (v := 0) X dX10_lookByMen_26 (by decide) ?_
      refine zr_goto (tgt := 36) X dX10_lookByMen_27 (by decide) ?_
      exact zr_sub [1, 2] rfl (hJ36 0 h)

set_option maxRecDepth 100000 in
set_option maxHeartbeats 4000000 in
theorem x_fN_joinMen {l : Launch} {S : State} {D : va_G} {cA : Nat → ClassId} {tb sx : Nat → Nat} (hG : zv_G S D cA tb sx) (d : Nat) (hd : 7 ≤ d) (m : zv_M) (P : zv_M → Prop) (h : zw (fN_joinMen m) P) : zv_Met l S D cA d 0 0 yX10_joinMen cX10_joinMen 1 none [.ref (S.heap.size + 0)] SH0 m (zq_v SH0 P) := by
  refine zv_met false hG pf_X10_joinMen (fun z => by cases z) (Nat.le_of_ble_eq_true rfl) [(0, .ref (S.heap.size + 0))] rfl (fun p e s mi args below meth c X => ?_)
  rw [fN_joinMen] at h
  refine zr_aload_n X dX10_joinMen_0 0 rfl ?_
  refine zr_callV_v (As := []) (st := []) (d := d - 1) X dX10_joinMen_1 wm_X10_202 my_X10_lookByMen mv_X10_lookByMen zo_0 rfl (Nat.le_of_ble_eq_true rfl) (zRm (by omega)) ⟨Nat.le_refl _, Nat.le_refl _⟩ (x_fN_lookByMen hG (d - 1) (by omega) m _ (zw_b1 h)) (fun m1 q => ?_)
  replace h := q
  refine zr_aload_n X dX10_joinMen_4 0 rfl ?_
  refine zr_getR X dX10_joinMen_5 zd_X10_50 rfl zo_0 zl_0_7 ?_
  refine zr_aload_n X dX10_joinMen_8 0 rfl ?_
  refine zr_getR X dX10_joinMen_9 zd_X10_12 rfl zo_0 zl_0_0 ?_
  refine zr_callV_i (As := []) (st := [.ref (S.heap.size + 43)]) (d := d - 1) X dX10_joinMen_12 wm_X10_162 my_X5_menBits mv_X5_menBits zo_1 rfl (Nat.le_of_ble_eq_true rfl) (zRm (by omega)) ⟨Nat.le_refl _, Nat.le_refl _⟩ (x_fSt_menBits hG (d - 1) (by omega) 1 zo_1 m1 _ (zw_b1 h)) (fun r2 m3 q => ?_)
  obtain ⟨rfl, h⟩ := q
  refine zr_callV_v (As := [.int r2]) (st := []) (d := d - 1) X dX10_joinMen_15 wm_X10_239 my_X4_join mv_X4_join zo_43 rfl (Nat.le_of_ble_eq_true rfl) (zRm (by omega)) ⟨Nat.le_refl _, Nat.le_refl _⟩ (x_fSi_join hG (d - 1) (by omega) 43 zo_43 r2 m1 _ (zw_b1 h)) (fun m4 q => ?_)
  replace h := q
  exact zr_vret X dX10_joinMen_18 ⟨Nat.le_refl _, Nat.le_refl _⟩ ⟨rfl, rfl, h⟩

set_option maxRecDepth 100000 in
set_option maxHeartbeats 4000000 in
theorem x_fN_told {l : Launch} {S : State} {D : va_G} {cA : Nat → ClassId} {tb sx : Nat → Nat} (hG : zv_G S D cA tb sx) (d : Nat) (hd : 8 ≤ d) (p1 : Int32) (m : zv_M) (P : Int32 → zv_M → Prop) (h : zw2 (fN_told p1 m) P) : zv_Met l S D cA d 0 0 yX10_told cX10_told 3 (some .int) [.ref (S.heap.size + 0), .int p1] SH0 m (zq_i SH0 P) := by
  refine zv_met false hG pf_X10_told (fun z => by cases z) (Nat.le_of_ble_eq_true rfl) [(0, .ref (S.heap.size + 0)), (1, .int p1)] rfl (fun p e s mi args below meth c X => ?_)
  rw [fN_told] at h
  refine zr_aload_n X dX10_told_0 0 rfl ?_
  refine zr_callV_a (As := []) (st := []) (d := d - 1) X dX10_told_1 wm_X10_154 my_X10_ground mv_X10_ground zo_0 rfl (Nat.le_of_ble_eq_true rfl) (zRm (by omega)) ⟨Nat.le_refl _, Nat.le_refl _⟩ (x_fN_ground hG (d - 1) (by omega) m _ (zw_b12 h)) (fun r1 m2 q => ?_)
  obtain ⟨rfl, hc3, h⟩ := q
  refine zr_astore_n (lo' := [(2, .ref (S.heap.size + r1)), (0, .ref (S.heap.size + 0)), (1, .int p1)]) X dX10_told_4 (by decide) rfl ?_
  refine zr_iload_n X dX10_told_5 2 rfl ?_
  by_cases e0 : p1 = 0
  · rw [if_pos e0] at h
    refine zr_tableIn (tgt := 48) X dX10_told_6 0 (by rw [e0]; decide) (by decide) (by decide) rfl (by decide) ?_
    refine zr_aload_n X dX10_told_48 0 rfl ?_
    refine zr_getI X dX10_told_49 zd_X10_158 rfl hc3 (by rw [zk_8 hc3]; decide) ?_
    exact zr_iret X dX10_told_52 rfl ⟨Nat.le_refl _, Nat.le_refl _⟩ ⟨rfl, _, rfl, h⟩
  rw [if_neg e0] at h
  by_cases e1 : p1 = 1
  · rw [if_pos e1] at h
    refine zr_tableIn (tgt := 53) X dX10_told_6 1 (by rw [e1]; decide) (by decide) (by decide) rfl (by decide) ?_
    refine zr_aload_n X dX10_told_53 0 rfl ?_
    refine zr_getI X dX10_told_54 zd_X10_159 rfl hc3 (by rw [zk_8 hc3]; decide) ?_
    refine zr_if_eq (tgt := 64) X dX10_told_57 (by decide) (fun q => ?_) (fun q => ?_)
    · rw [if_pos q] at h
      refine zr_iconst (v := 0) X dX10_told_64 (by decide) ?_
      exact zr_iret X dX10_told_65 rfl ⟨Nat.le_refl _, Nat.le_refl _⟩ ⟨rfl, _, rfl, h⟩
    · rw [if_neg q] at h
      refine zr_iconst (v := 1) X dX10_told_60 (by decide) ?_
      refine zr_goto (tgt := 65) X dX10_told_61 (by decide) ?_
      exact zr_iret X dX10_told_65 rfl ⟨Nat.le_refl _, Nat.le_refl _⟩ ⟨rfl, _, rfl, h⟩
  rw [if_neg e1] at h
  by_cases e2 : p1 = 2
  · rw [if_pos e2] at h
    refine zr_tableIn (tgt := 66) X dX10_told_6 2 (by rw [e2]; decide) (by decide) (by decide) rfl (by decide) ?_
    refine zr_aload_n X dX10_told_66 1 rfl ?_
    refine zr_getR X dX10_told_67 zd_X10_12 rfl zo_0 zl_0_0 ?_
    refine zr_callV_i (As := []) (st := []) (d := d - 1) X dX10_told_70 wm_X10_162 my_X5_menBits mv_X5_menBits zo_1 rfl (Nat.le_of_ble_eq_true rfl) (zRm (by omega)) ⟨Nat.le_refl _, Nat.le_refl _⟩ (x_fSt_menBits hG (d - 1) (by omega) 1 zo_1 m _ (zw_b12 h)) (fun r4 m5 q => ?_)
    obtain ⟨rfl, h⟩ := q
    refine zr_callS_i (As := [.int r4]) (st := []) (d := d - 1) X dX10_told_73 wm_X10_166 ws_J6_bitCount_0f7a4 my_J6_bitCount_0f7a4 rfl (Nat.le_of_ble_eq_true rfl) (zRm (by omega)) ⟨Nat.le_refl _, Nat.le_refl _⟩ (x_fJ_bitCount hG (d - 1) (by omega) r4 m _ (zw_b12 h)) (fun r6 m7 q => ?_)
    obtain ⟨rfl, h⟩ := q
    exact zr_iret X dX10_told_76 rfl ⟨Nat.le_refl _, Nat.le_refl _⟩ ⟨rfl, _, rfl, h⟩
  rw [if_neg e2] at h
  by_cases e3 : p1 = 3
  · rw [if_pos e3] at h
    refine zr_tableIn (tgt := 77) X dX10_told_6 3 (by rw [e3]; decide) (by decide) (by decide) rfl (by decide) ?_
    refine zr_aload_n X dX10_told_77 0 rfl ?_
    refine zr_getI X dX10_told_78 zd_X10_171 rfl hc3 (by rw [zk_8 hc3]; decide) ?_
    exact zr_iret X dX10_told_81 rfl ⟨Nat.le_refl _, Nat.le_refl _⟩ ⟨rfl, _, rfl, h⟩
  rw [if_neg e3] at h
  by_cases e4 : p1 = 4
  · rw [if_pos e4] at h
    refine zr_tableIn (tgt := 82) X dX10_told_6 4 (by rw [e4]; decide) (by decide) (by decide) rfl (by decide) ?_
    refine zr_aload_n X dX10_told_82 0 rfl ?_
    refine zr_getI X dX10_told_83 zd_X10_174 rfl hc3 (by rw [zk_8 hc3]; decide) ?_
    exact zr_iret X dX10_told_86 rfl ⟨Nat.le_refl _, Nat.le_refl _⟩ ⟨rfl, _, rfl, h⟩
  rw [if_neg e4] at h
  by_cases e5 : p1 = 5
  · rw [if_pos e5] at h
    refine zr_tableIn (tgt := 87) X dX10_told_6 5 (by rw [e5]; decide) (by decide) (by decide) rfl (by decide) ?_
    refine zr_aload_n X dX10_told_87 1 rfl ?_
    refine zr_getR X dX10_told_88 zd_X10_12 rfl zo_0 zl_0_0 ?_
    refine zr_callV_i (As := []) (st := []) (d := d - 1) X dX10_told_91 wm_X10_162 my_X5_menBits mv_X5_menBits zo_1 rfl (Nat.le_of_ble_eq_true rfl) (zRm (by omega)) ⟨Nat.le_refl _, Nat.le_refl _⟩ (x_fSt_menBits hG (d - 1) (by omega) 1 zo_1 m _ (zw_b12 h)) (fun r8 m9 q => ?_)
    obtain ⟨rfl, h⟩ := q
    exact zr_iret X dX10_told_94 rfl ⟨Nat.le_refl _, Nat.le_refl _⟩ ⟨rfl, _, rfl, h⟩
  rw [if_neg e5] at h
  by_cases e6 : p1 = 6
  · rw [if_pos e6] at h
    refine zr_tableIn (tgt := 95) X dX10_told_6 6 (by rw [e6]; decide) (by decide) (by decide) rfl (by decide) ?_
    refine zr_aload_n X dX10_told_95 1 rfl ?_
    refine zr_callV_v (As := []) (st := []) (d := d - 1) X dX10_told_96 wm_X10_177 my_X10_joinMen mv_X10_joinMen zo_0 rfl (Nat.le_of_ble_eq_true rfl) (zRm (by omega)) ⟨Nat.le_refl _, Nat.le_refl _⟩ (x_fN_joinMen hG (d - 1) (by omega) m _ (zw_b12 h)) (fun m10 q => ?_)
    replace h := q
    refine zr_aload_n X dX10_told_99 1 rfl ?_
    refine zr_getR X dX10_told_100 zd_X10_50 rfl zo_0 zl_0_7 ?_
    refine zr_callV_i (As := []) (st := []) (d := d - 1) X dX10_told_103 wm_X10_180 my_X4_mostJoined mv_X4_mostJoined zo_43 rfl (Nat.le_of_ble_eq_true rfl) (zRm (by omega)) ⟨Nat.le_refl _, Nat.le_refl _⟩ (x_fSi_mostJoined hG (d - 1) (by omega) 43 zo_43 m10 _ (zw_b12 h)) (fun r11 m12 q => ?_)
    obtain ⟨rfl, h⟩ := q
    refine zr_bipush (v := (-5)) X dX10_told_106 (by decide) ?_
    refine zr_icmp_ne (tgt := 115) X dX10_told_108 (by decide) (fun q => ?_) (fun q => ?_)
    · rw [if_neg q] at h
      refine zr_iconst (v := 0) X dX10_told_115 (by decide) ?_
      exact zr_iret X dX10_told_116 rfl ⟨Nat.le_refl _, Nat.le_refl _⟩ ⟨rfl, _, rfl, h⟩
    · rw [if_pos q] at h
      refine zr_iconst (v := 1) X dX10_told_111 (by decide) ?_
      refine zr_goto (tgt := 116) X dX10_told_112 (by decide) ?_
      exact zr_iret X dX10_told_116 rfl ⟨Nat.le_refl _, Nat.le_refl _⟩ ⟨rfl, _, rfl, h⟩
  rw [if_neg e6] at h
  refine zr_tableOut (tgt := 117) X dX10_told_6 (by have ze0 := lv_neT e0 (by decide : (0 : Int32).toInt = 0); have ze1 := lv_neT e1 (by decide : (1 : Int32).toInt = 1); have ze2 := lv_neT e2 (by decide : (2 : Int32).toInt = 2); have ze3 := lv_neT e3 (by decide : (3 : Int32).toInt = 3); have ze4 := lv_neT e4 (by decide : (4 : Int32).toInt = 4); have ze5 := lv_neT e5 (by decide : (5 : Int32).toInt = 5); have ze6 := lv_neT e6 (by decide : (6 : Int32).toInt = 6); omega) (by decide) ?_
  refine zr_iconst (v := (-1)) X dX10_told_117 (by decide) ?_
  exact zr_iret X dX10_told_118 rfl ⟨Nat.le_refl _, Nat.le_refl _⟩ ⟨rfl, _, rfl, h⟩

set_option maxRecDepth 100000 in
set_option maxHeartbeats 4000000 in
theorem x_fN_isSquare {l : Launch} {S : State} {D : va_G} {cA : Nat → ClassId} {tb sx : Nat → Nat} (hG : zv_G S D cA tb sx) (d : Nat) (hd : 2 ≤ d) (p1 : Int32) (m : zv_M) (P : Int32 → Prop) (h : zw (fN_isSquare p1 m) P) : zv_Met l S D cA d 0 0 yX10_isSquare cX10_isSquare 3 (some .boolean) [.ref (S.heap.size + 0), .int p1] SH0 m (zq_i SH0 (fun v m' => m = m' ∧ P v)) := by
  refine zv_met false hG pf_X10_isSquare (fun z => by cases z) (Nat.le_of_ble_eq_true rfl) [(0, .ref (S.heap.size + 0)), (1, .int p1)] rfl (fun p e s mi args below meth c X => ?_)
  rw [fN_isSquare] at h
  refine zr_aload_n X dX10_isSquare_0 0 rfl ?_
  refine zr_callV_a (As := []) (st := []) (d := d - 1) X dX10_isSquare_1 wm_X10_154 my_X10_ground mv_X10_ground zo_0 rfl (Nat.le_of_ble_eq_true rfl) (zRm (by omega)) ⟨Nat.le_refl _, Nat.le_refl _⟩ (x_fN_ground hG (d - 1) (by omega) m _ (zw_b1 h)) (fun r1 m2 q => ?_)
  obtain ⟨rfl, hc3, h⟩ := q
  refine zr_astore_n (lo' := [(2, .ref (S.heap.size + r1)), (0, .ref (S.heap.size + 0)), (1, .int p1)]) X dX10_isSquare_4 (by decide) rfl ?_
  refine zr_iload_n X dX10_isSquare_5 2 rfl ?_
  refine zr_if_lt (tgt := 26) X dX10_isSquare_6 (by decide) (fun q => ?_) (fun q => ?_)
  · rw [if_pos q] at h
    refine zr_iconst (v := 0) X dX10_isSquare_26 (by decide) ?_
    exact zr_iret X dX10_isSquare_27 rfl ⟨Nat.le_refl _, Nat.le_refl _⟩ ⟨rfl, _, rfl, rfl, h⟩
  · rw [if_neg q] at h
    refine zr_iload_n X dX10_isSquare_9 2 rfl ?_
    refine zr_aload_n X dX10_isSquare_10 0 rfl ?_
    refine zr_getI X dX10_isSquare_11 zd_X10_158 rfl hc3 (by rw [zk_8 hc3]; decide) ?_
    refine zr_aload_n X dX10_isSquare_14 0 rfl ?_
    refine zr_getI X dX10_isSquare_15 zd_X10_158 rfl hc3 (by rw [zk_8 hc3]; decide) ?_
    refine zr_imul X dX10_isSquare_18 ?_
    refine zr_icmp_ge (tgt := 26) X dX10_isSquare_19 (by decide) (fun q => ?_) (fun q => ?_)
    · rw [if_neg q] at h
      refine zr_iconst (v := 0) X dX10_isSquare_26 (by decide) ?_
      exact zr_iret X dX10_isSquare_27 rfl ⟨Nat.le_refl _, Nat.le_refl _⟩ ⟨rfl, _, rfl, rfl, h⟩
    · rw [if_pos q] at h
      refine zr_iconst (v := 1) X dX10_isSquare_22 (by decide) ?_
      refine zr_goto (tgt := 27) X dX10_isSquare_23 (by decide) ?_
      exact zr_iret X dX10_isSquare_27 rfl ⟨Nat.le_refl _, Nat.le_refl _⟩ ⟨rfl, _, rfl, rfl, h⟩

set_option maxRecDepth 100000 in
set_option maxHeartbeats 4000000 in
theorem x_fN_openSquares {l : Launch} {S : State} {D : va_G} {cA : Nat → ClassId} {tb sx : Nat → Nat} (hG : zv_G S D cA tb sx) (d : Nat) (hd : 4 ≤ d) (m : zv_M) (P : Int32 → Prop) (h : zw (fN_openSquares m) P) : zv_Met l S D cA d 0 0 yX10_openSquares cX10_openSquares 1 (some .int) [.ref (S.heap.size + 0)] SH0 m (zq_i SH0 (fun v m' => m = m' ∧ P v)) := by
  refine zv_met false hG pf_X10_openSquares (fun z => by cases z) (Nat.le_of_ble_eq_true rfl) [(0, .ref (S.heap.size + 0))] rfl (fun p e s mi args below meth c X => ?_)
  rw [fN_openSquares] at h
  refine zr_aload_n X dX10_openSquares_0 0 rfl ?_
  refine zr_callV_a (As := []) (st := []) (d := d - 1) X dX10_openSquares_1 wm_X10_154 my_X10_ground mv_X10_ground zo_0 rfl (Nat.le_of_ble_eq_true rfl) (zRm (by omega)) ⟨Nat.le_refl _, Nat.le_refl _⟩ (x_fN_ground hG (d - 1) (by omega) m _ (zw_b1 h)) (fun r1 m2 q => ?_)
  obtain ⟨rfl, hc3, h⟩ := q
  refine zr_callV_i (As := []) (st := []) (d := d - 1) X dX10_openSquares_4 wm_X10_233 my_X8_free mv_X8_free hc3 rfl (Nat.le_of_ble_eq_true rfl) (zRm (by omega)) ⟨Nat.le_refl _, Nat.le_refl _⟩ (x_fYa_free hG (d - 1) (by omega) r1 hc3 m _ (zw_b1 h)) (fun r4 m5 q => ?_)
  obtain ⟨rfl, h⟩ := q
  refine zr_aload_n X dX10_openSquares_7 0 rfl ?_
  refine zr_getR X dX10_openSquares_8 zd_X10_12 rfl zo_0 zl_0_0 ?_
  refine zr_callV_i (As := []) (st := [.int r4]) (d := d - 1) X dX10_openSquares_11 wm_X10_162 my_X5_menBits mv_X5_menBits zo_1 rfl (Nat.le_of_ble_eq_true rfl) (zRm (by omega)) ⟨Nat.le_refl _, Nat.le_refl _⟩ (x_fSt_menBits hG (d - 1) (by omega) 1 zo_1 m _ (zw_b1 h)) (fun r6 m7 q => ?_)
  obtain ⟨rfl, h⟩ := q
  refine zr_iconst (v := (-1)) X dX10_openSquares_14 (by decide) ?_
  refine zr_ixor X dX10_openSquares_15 ?_
  refine zr_iand X dX10_openSquares_16 ?_
  exact zr_iret X dX10_openSquares_17 rfl ⟨Nat.le_refl _, Nat.le_refl _⟩ ⟨rfl, _, rfl, rfl, h⟩

set_option maxRecDepth 100000 in
set_option maxHeartbeats 4000000 in
theorem x_fN_lookByPlan {l : Launch} {S : State} {D : va_G} {cA : Nat → ClassId} {tb sx : Nat → Nat} (hG : zv_G S D cA tb sx) (d : Nat) (hd : 6 ≤ d) (p1 : Int32) (m : zv_M) (P : zv_M → Prop) (h : zw (fN_lookByPlan p1 m) P) : zv_Met l S D cA d 0 0 yX10_lookByPlan cX10_lookByPlan 4 none [.ref (S.heap.size + 0), .int p1] SH0 m (zq_v SH0 P) := by
  refine zv_met false hG pf_X10_lookByPlan (fun z => by cases z) (Nat.le_of_ble_eq_true rfl) [(0, .ref (S.heap.size + 0)), (1, .int p1)] rfl (fun p e s mi args below meth c X => ?_)
  rw [fN_lookByPlan] at h
  refine zr_aload_n X dX10_lookByPlan_0 0 rfl ?_
  refine zr_callV_a (As := []) (st := []) (d := d - 1) X dX10_lookByPlan_1 wm_X10_154 my_X10_ground mv_X10_ground zo_0 rfl (Nat.le_of_ble_eq_true rfl) (zRm (by omega)) ⟨Nat.le_refl _, Nat.le_refl _⟩ (x_fN_ground hG (d - 1) (by omega) m _ (zw_b1 h)) (fun r1 m2 q => ?_)
  obtain ⟨rfl, hc3, h⟩ := q
  refine zr_callV_i (As := []) (st := []) (d := d - 1) X dX10_lookByPlan_4 wm_X10_253 my_X8_all mv_X8_all hc3 rfl (Nat.le_of_ble_eq_true rfl) (zRm (by omega)) ⟨Nat.le_refl _, Nat.le_refl _⟩ (x_fYa_all hG (d - 1) (by omega) r1 hc3 m _ (zw_b1 h)) (fun r4 m5 q => ?_)
  obtain ⟨rfl, h⟩ := q
  refine zr_istore_n (lo' := [(2, .int r4), (0, .ref (S.heap.size + 0)), (1, .int p1)]) X dX10_lookByPlan_7 (by decide) rfl ?_
  refine zr_iconst (v := 0) X dX10_lookByPlan_8 (by decide) ?_
  refine zr_istore_n (lo' := [(3, .int 0), (2, .int r4), (0, .ref (S.heap.size + 0)), (1, .int p1)]) X dX10_lookByPlan_9 (by decide) rfl ?_
  refine zr_sub [2, 3, 1, 0] rfl ?_
  refine zl_w2 (fun a7 m8 => zv_V S D cA p l e (zv_rm d 0 0) s mi args below meth c 4 (MQ below (zv_Q S D cA (zq_v SH0 P)) args s 0 0 (zv_fr S)) 0 0 10 [(0, .ref (S.heap.size + 0)), (1, .int p1), (2, .int r4), (3, .int a7)] [] SH0 m8) (fN_lookByPlan_l10 p1 r4) _ (fun P6 hl6 hr6 a7 m8 h => ?_) zFU 0 m (zw_b1 h)
  rw [fN_lookByPlan_l10] at h
  refine zr_iload_n X dX10_lookByPlan_10 3 rfl ?_
  refine zr_bipush (v := 25) X dX10_lookByPlan_11 (by decide) ?_
  refine zr_icmp_ge (tgt := 48) X dX10_lookByPlan_13 (by decide) (fun q => ?_) (fun q => ?_)
  · rw [if_neg q] at h
    have h := hr6 _ h
    exact zr_vret X dX10_lookByPlan_48 ⟨Nat.le_refl _, Nat.le_refl _⟩ ⟨rfl, rfl, h⟩
  · rw [if_pos q] at h
    refine zr_aload_n X dX10_lookByPlan_16 0 rfl ?_
    refine zr_getR X dX10_lookByPlan_17 zd_X10_54 rfl zo_0 zl_0_8 ?_
    refine zr_iload_n X dX10_lookByPlan_20 3 rfl ?_
    refine zr_iload_n X dX10_lookByPlan_21 2 rfl ?_
    refine zr_iload_n X dX10_lookByPlan_22 3 rfl ?_
    refine zr_callS_i (As := [.int r4, .int a7]) (st := [.int a7, .ref (S.heap.size + 46)]) (d := d - 1) X dX10_lookByPlan_23 wm_X10_189 ws_X10_isIn my_X10_isIn rfl (Nat.le_of_ble_eq_true rfl) (zRm (by omega)) ⟨Nat.le_refl _, Nat.le_refl _⟩ (x_fN_isIn hG (d - 1) (by omega) r4 a7 m8 _ (zw_b1 h)) (fun r9 m10 q => ?_)
    obtain ⟨rfl, h⟩ := q
    have hJ39 : ∀ (v11 : Int32), zw (fN_lookByPlan_j39 a7 m8 v11) P6 → zv_V S D cA p l e (zv_rm d 0 0) s mi args below meth c 4 (MQ below (zv_Q S D cA (zq_v SH0 P)) args s 0 0 (zv_fr S)) 0 0 39 [(0, .ref (S.heap.size + 0)), (1, .int p1), (2, .int r4), (3, .int a7)] [.int v11, .int a7, .ref (S.heap.size + 46)] SH0 m8 := by
      intro v11 h
      rw [fN_lookByPlan_j39] at h
      refine zr_callV_v (As := [.int a7, .int v11]) (st := []) (d := d - 1) X dX10_lookByPlan_39 wm_X10_376 my_X4_put mv_X4_put zo_46 rfl (Nat.le_of_ble_eq_true rfl) (zRm (by omega)) ⟨Nat.le_refl _, Nat.le_refl _⟩ (x_fSi_put hG (d - 1) (by omega) 46 zo_46 a7 v11 m8 _ (zw_b1 h)) (fun m12 q => ?_)
      replace h := q
      refine zr_iinc (v := a7 + 1) (lo' := [(3, .int (a7 + 1)), (0, .ref (S.heap.size + 0)), (1, .int p1), (2, .int r4)]) X dX10_lookByPlan_42 3 rfl rfl (by decide) rfl ?_
      refine zr_goto (tgt := 10) X dX10_lookByPlan_45 (by decide) ?_
      have h := hl6 _ h
      exact zr_sub [1, 2, 3, 0] rfl h
    refine zr_if_eq (tgt := 38) X dX10_lookByPlan_26 (by decide) (fun q => ?_) (fun q => ?_)
    · rw [if_pos q] at h
      refine zr_iconst (v := 0) X dX10_lookByPlan_38 (by decide) ?_
      exact zr_sub [0, 1, 2, 3] rfl (hJ39 0 h)
    · rw [if_neg q] at h
      refine zr_aload_n X dX10_lookByPlan_29 0 rfl ?_
      refine zr_iload_n X dX10_lookByPlan_30 1 rfl ?_
      refine zr_iload_n X dX10_lookByPlan_31 3 rfl ?_
      refine zr_callV_i (As := [.int p1, .int a7]) (st := [.int a7, .ref (S.heap.size + 46)]) (d := d - 1) X dX10_lookByPlan_32 wm_X10_208 my_X10_viewOf mv_X10_viewOf zo_0 rfl (Nat.le_of_ble_eq_true rfl) (zRm (by omega)) ⟨Nat.le_refl _, Nat.le_refl _⟩ (x_fN_viewOf hG (d - 1) (by omega) p1 a7 m8 _ (zw_b1 h)) (fun r13 m14 q => ?_)
      obtain ⟨rfl, h⟩ := q
      refine zr_goto (tgt := 39) X dX10_lookByPlan_35 (by decide) ?_
      exact zr_sub [0, 1, 2, 3] rfl (hJ39 r13 h)

