set_option maxRecDepth 100000 in
set_option maxHeartbeats 4000000 in
theorem x_fM_in {l : Launch} {S : State} {D : va_G} {cA : Nat → ClassId} {tb sx : Nat → Nat} (hG : zv_G S D cA tb sx) (d : Nat) (hd : 1 ≤ d) (p1 : Int32) (p2 : Int32) (p3 : Int32) (m : zv_M) (P : Int32 → Prop) (h : zw (fM_in p1 p2 p3) P) : zv_Met l S D cA d 0 0 yX11_in cX11_in 4 (some .boolean) [.ref (S.heap.size + 68), .int p1, .int p2, .int p3] SH0 m (zq_i SH0 (fun v m' => m = m' ∧ P v)) := by
  refine zv_met false hG pf_X11_in (fun z => by cases z) (Nat.le_of_ble_eq_true rfl) [(0, .ref (S.heap.size + 68)), (1, .int p1), (2, .int p2), (3, .int p3)] rfl (fun p e s mi args below meth c X => ?_)
  rw [fM_in] at h
  refine zr_iload_n X dX11_in_0 1 rfl ?_
  refine zr_iload_n X dX11_in_1 2 rfl ?_
  refine zr_icmp_lt (tgt := 14) X dX11_in_2 (by decide) (fun q => ?_) (fun q => ?_)
  · rw [if_pos q] at h
    refine zr_iconst (v := 0) X dX11_in_14 (by decide) ?_
    exact zr_iret X dX11_in_15 rfl ⟨Nat.le_refl _, Nat.le_refl _⟩ ⟨rfl, _, rfl, rfl, h⟩
  · rw [if_neg q] at h
    refine zr_iload_n X dX11_in_5 1 rfl ?_
    refine zr_iload_n X dX11_in_6 3 rfl ?_
    refine zr_icmp_gt (tgt := 14) X dX11_in_7 (by decide) (fun q => ?_) (fun q => ?_)
    · rw [if_pos q] at h
      refine zr_iconst (v := 0) X dX11_in_14 (by decide) ?_
      exact zr_iret X dX11_in_15 rfl ⟨Nat.le_refl _, Nat.le_refl _⟩ ⟨rfl, _, rfl, rfl, h⟩
    · rw [if_neg q] at h
      refine zr_iconst (v := 1) X dX11_in_10 (by decide) ?_
      refine zr_goto (tgt := 15) X dX11_in_11 (by decide) ?_
      exact zr_iret X dX11_in_15 rfl ⟨Nat.le_refl _, Nat.le_refl _⟩ ⟨rfl, _, rfl, rfl, h⟩

set_option maxRecDepth 100000 in
set_option maxHeartbeats 4000000 in
theorem x_fM_has {l : Launch} {S : State} {D : va_G} {cA : Nat → ClassId} {tb sx : Nat → Nat} (hG : zv_G S D cA tb sx) (d : Nat) (hd : 1 ≤ d) (p1 : Int32) (p2 : Int32) (m : zv_M) (P : Int32 → Prop) (h : zw (fM_has p1 p2) P) : zv_Met l S D cA d 0 0 yX11_has cX11_has 3 (some .boolean) [.ref (S.heap.size + 68), .int p1, .int p2] SH0 m (zq_i SH0 (fun v m' => m = m' ∧ P v)) := by
  refine zv_met false hG pf_X11_has (fun z => by cases z) (Nat.le_of_ble_eq_true rfl) [(0, .ref (S.heap.size + 68)), (1, .int p1), (2, .int p2)] rfl (fun p e s mi args below meth c X => ?_)
  rw [fM_has] at h
  refine zr_iload_n X dX11_has_0 1 rfl ?_
  refine zr_iload_n X dX11_has_1 2 rfl ?_
  refine zr_ishr X dX11_has_2 ?_
  refine zr_iconst (v := 1) X dX11_has_3 (by decide) ?_
  refine zr_iand X dX11_has_4 ?_
  refine zr_iconst (v := 1) X dX11_has_5 (by decide) ?_
  refine zr_icmp_ne (tgt := 13) X dX11_has_6 (by decide) (fun q => ?_) (fun q => ?_)
  · rw [if_neg q] at h
    refine zr_iconst (v := 0) X dX11_has_13 (by decide) ?_
    exact zr_iret X dX11_has_14 rfl ⟨Nat.le_refl _, Nat.le_refl _⟩ ⟨rfl, _, rfl, rfl, h⟩
  · rw [if_pos q] at h
    refine zr_iconst (v := 1) X dX11_has_9 (by decide) ?_
    refine zr_goto (tgt := 14) X dX11_has_10 (by decide) ?_
    exact zr_iret X dX11_has_14 rfl ⟨Nat.le_refl _, Nat.le_refl _⟩ ⟨rfl, _, rfl, rfl, h⟩

set_option maxRecDepth 100000 in
set_option maxHeartbeats 4000000 in
theorem x_fM_ones {l : Launch} {S : State} {D : va_G} {cA : Nat → ClassId} {tb sx : Nat → Nat} (hG : zv_G S D cA tb sx) (d : Nat) (hd : 1 ≤ d) (p1 : Int32) (m : zv_M) (P : Int32 → Prop) (h : zw (fM_ones p1) P) : zv_Met l S D cA d 0 0 yX11_ones cX11_ones 4 (some .int) [.ref (S.heap.size + 68), .int p1] SH0 m (zq_i SH0 (fun v m' => m = m' ∧ P v)) := by
  refine zv_met false hG pf_X11_ones (fun z => by cases z) (Nat.le_of_ble_eq_true rfl) [(0, .ref (S.heap.size + 68)), (1, .int p1)] rfl (fun p e s mi args below meth c X => ?_)
  rw [fM_ones] at h
  refine zr_iconst (v := 0) X dX11_ones_0 (by decide) ?_
  refine zr_istore_n (lo' := [(2, .int 0), (0, .ref (S.heap.size + 68)), (1, .int p1)]) X dX11_ones_1 (by decide) rfl ?_
  refine zr_iload_n X dX11_ones_2 2 rfl ?_
  refine zr_istore_n (lo' := [(3, .int p1), (2, .int 0), (0, .ref (S.heap.size + 68)), (1, .int p1)]) X dX11_ones_3 (by decide) rfl ?_
  refine zr_sub [1, 0] rfl ?_
  refine zl_w2 (fun a2 a3 => zv_V S D cA p l e (zv_rm d 0 0) s mi args below meth c 4 (MQ below (zv_Q S D cA (zq_i SH0 (fun v m' => m = m' ∧ P v))) args s 0 0 (zv_fr S)) 0 0 4 [(2, .int a2), (3, .int a3)] [] SH0 m) fM_ones_l4 _ (fun P1 hl1 hr1 a2 a3 h => ?_) zFU 0 p1 (zw_b1 h)
  rw [fM_ones_l4] at h
  refine zr_iload_n X dX11_ones_4 1 rfl ?_
  refine zr_if_eq (tgt := 20) X dX11_ones_5 (by decide) (fun q => ?_) (fun q => ?_)
  · rw [if_pos q] at h
    refine zr_iload_n X dX11_ones_20 0 rfl ?_
    have h := hr1 _ h
    exact zr_iret X dX11_ones_21 rfl ⟨Nat.le_refl _, Nat.le_refl _⟩ ⟨rfl, _, rfl, rfl, h⟩
  · rw [if_neg q] at h
    refine zr_iinc (v := a2 + 1) (lo' := [(2, .int (a2 + 1)), (3, .int a3)]) X dX11_ones_8 0 rfl rfl (by decide) rfl ?_
    refine zr_iload_n X dX11_ones_11 1 rfl ?_
    refine zr_iload_n X dX11_ones_12 1 rfl ?_
    refine zr_iconst (v := 1) X dX11_ones_13 (by decide) ?_
    refine zr_isub X dX11_ones_14 ?_
    refine zr_iand X dX11_ones_15 ?_
    refine zr_istore_n (lo' := [(3, .int (a3 &&& (a3 - 1))), (2, .int (a2 + 1))]) X dX11_ones_16 (by decide) rfl ?_
    refine zr_goto (tgt := 4) X dX11_ones_17 (by decide) ?_
    have h := hl1 _ h
    exact zr_sub [1, 0] rfl h

set_option maxRecDepth 100000 in
set_option maxHeartbeats 4000000 in
theorem x_fM_isPlan {l : Launch} {S : State} {D : va_G} {cA : Nat → ClassId} {tb sx : Nat → Nat} (hG : zv_G S D cA tb sx) (d : Nat) (hd : 2 ≤ d) (p1 : Int32) (m : zv_M) (P : Int32 → Prop) (h : zw (fM_isPlan p1 m) P) : zv_Met l S D cA d 0 0 yX11_isPlan cX11_isPlan 2 (some .boolean) [.ref (S.heap.size + 68), .int p1] SH0 m (zq_i SH0 (fun v m' => m = m' ∧ P v)) := by
  refine zv_met false hG pf_X11_isPlan (fun z => by cases z) (Nat.le_of_ble_eq_true rfl) [(0, .ref (S.heap.size + 68)), (1, .int p1)] rfl (fun p e s mi args below meth c X => ?_)
  rw [fM_isPlan] at h
  refine zr_aload_n X dX11_isPlan_0 0 rfl ?_
  refine zr_iload_n X dX11_isPlan_1 1 rfl ?_
  refine zr_iconst (v := 0) X dX11_isPlan_2 (by decide) ?_
  refine zr_aload_n X dX11_isPlan_3 0 rfl ?_
  refine zr_getI X dX11_isPlan_4 zd_X11_7 rfl zo_68 (by rw [zk_11 zo_68]; decide) ?_
  refine zr_iconst (v := 1) X dX11_isPlan_7 (by decide) ?_
  refine zr_isub X dX11_isPlan_8 ?_
  refine zr_callV_i (As := [.int p1, .int 0, .int ((m.1 68 0) - 1)]) (st := []) (d := d - 1) X dX11_isPlan_9 wm_X11_230 my_X11_in mv_X11_in zo_68 rfl (Nat.le_of_ble_eq_true rfl) (zRm (by omega)) ⟨Nat.le_refl _, Nat.le_refl _⟩ (x_fM_in hG (d - 1) (by omega) p1 0 ((m.1 68 0) - 1) m _ (zw_b1 h)) (fun r1 m2 q => ?_)
  obtain ⟨rfl, h⟩ := q
  obtain ⟨g0, h⟩ := zg_e h
  exact zr_iret X dX11_isPlan_12 (zB_n g0) ⟨Nat.le_refl _, Nat.le_refl _⟩ ⟨rfl, _, rfl, rfl, h⟩

set_option maxRecDepth 100000 in
set_option maxHeartbeats 4000000 in
theorem x_fM_isSquare {l : Launch} {S : State} {D : va_G} {cA : Nat → ClassId} {tb sx : Nat → Nat} (hG : zv_G S D cA tb sx) (d : Nat) (hd : 2 ≤ d) (p1 : Int32) (m : zv_M) (P : Int32 → Prop) (h : zw (fM_isSquare p1 m) P) : zv_Met l S D cA d 0 0 yX11_isSquare cX11_isSquare 2 (some .boolean) [.ref (S.heap.size + 68), .int p1] SH0 m (zq_i SH0 (fun v m' => m = m' ∧ P v)) := by
  refine zv_met false hG pf_X11_isSquare (fun z => by cases z) (Nat.le_of_ble_eq_true rfl) [(0, .ref (S.heap.size + 68)), (1, .int p1)] rfl (fun p e s mi args below meth c X => ?_)
  rw [fM_isSquare] at h
  refine zr_aload_n X dX11_isSquare_0 0 rfl ?_
  refine zr_iload_n X dX11_isSquare_1 1 rfl ?_
  refine zr_iconst (v := 0) X dX11_isSquare_2 (by decide) ?_
  refine zr_aload_n X dX11_isSquare_3 0 rfl ?_
  refine zr_getI X dX11_isSquare_4 zd_X11_13 rfl zo_68 (by rw [zk_11 zo_68]; decide) ?_
  refine zr_aload_n X dX11_isSquare_7 0 rfl ?_
  refine zr_getI X dX11_isSquare_8 zd_X11_13 rfl zo_68 (by rw [zk_11 zo_68]; decide) ?_
  refine zr_imul X dX11_isSquare_11 ?_
  refine zr_iconst (v := 1) X dX11_isSquare_12 (by decide) ?_
  refine zr_isub X dX11_isSquare_13 ?_
  refine zr_callV_i (As := [.int p1, .int 0, .int (((m.1 68 1) * (m.1 68 1)) - 1)]) (st := []) (d := d - 1) X dX11_isSquare_14 wm_X11_230 my_X11_in mv_X11_in zo_68 rfl (Nat.le_of_ble_eq_true rfl) (zRm (by omega)) ⟨Nat.le_refl _, Nat.le_refl _⟩ (x_fM_in hG (d - 1) (by omega) p1 0 (((m.1 68 1) * (m.1 68 1)) - 1) m _ (zw_b1 h)) (fun r1 m2 q => ?_)
  obtain ⟨rfl, h⟩ := q
  obtain ⟨g0, h⟩ := zg_e h
  exact zr_iret X dX11_isSquare_17 (zB_n g0) ⟨Nat.le_refl _, Nat.le_refl _⟩ ⟨rfl, _, rfl, rfl, h⟩

set_option maxRecDepth 100000 in
set_option maxHeartbeats 4000000 in
theorem x_fM_plan {l : Launch} {S : State} {D : va_G} {cA : Nat → ClassId} {tb sx : Nat → Nat} (hG : zv_G S D cA tb sx) (d : Nat) (hd : 2 ≤ d) (p1 : Int32) (p2 : Int32) (m : zv_M) (P : Int32 → zv_M → Prop) (h : zw2 (fM_plan p1 p2 m) P) : zv_Met l S D cA d 0 0 yX11_plan cX11_plan 4 (some .int) [.ref (S.heap.size + 68), .int p1, .int p2] SH0 m (zq_i SH0 P) := by
  refine zv_met false hG pf_X11_plan (fun z => by cases z) (Nat.le_of_ble_eq_true rfl) [(0, .ref (S.heap.size + 68)), (1, .int p1), (2, .int p2)] rfl (fun p e s mi args below meth c X => ?_)
  rw [fM_plan] at h
  refine zr_aload_n X dX11_plan_0 0 rfl ?_
  refine zr_iload_n X dX11_plan_1 1 rfl ?_
  refine zr_iconst (v := 0) X dX11_plan_2 (by decide) ?_
  refine zr_bipush (v := 6) X dX11_plan_3 (by decide) ?_
  refine zr_callV_i (As := [.int p1, .int 0, .int 6]) (st := []) (d := d - 1) X dX11_plan_5 wm_X11_230 my_X11_in mv_X11_in zo_68 rfl (Nat.le_of_ble_eq_true rfl) (zRm (by omega)) ⟨Nat.le_refl _, Nat.le_refl _⟩ (x_fM_in hG (d - 1) (by omega) p1 0 6 m _ (zw_b12 h)) (fun r1 m2 q => ?_)
  obtain ⟨rfl, h⟩ := q
  refine zr_if_ne (tgt := 13) X dX11_plan_8 (by decide) (fun q => ?_) (fun q => ?_)
  · rw [if_neg q] at h
    refine zr_aload_n X dX11_plan_13 0 rfl ?_
    refine zr_iload_n X dX11_plan_14 2 rfl ?_
    refine zr_iconst (v := 0) X dX11_plan_15 (by decide) ?_
    refine zr_bipush (v := 9) X dX11_plan_16 (by decide) ?_
    refine zr_callV_i (As := [.int p2, .int 0, .int 9]) (st := []) (d := d - 1) X dX11_plan_18 wm_X11_230 my_X11_in mv_X11_in zo_68 rfl (Nat.le_of_ble_eq_true rfl) (zRm (by omega)) ⟨Nat.le_refl _, Nat.le_refl _⟩ (x_fM_in hG (d - 1) (by omega) p2 0 9 m _ (zw_b12 h)) (fun r3 m4 q => ?_)
    obtain ⟨rfl, h⟩ := q
    refine zr_if_ne (tgt := 27) X dX11_plan_21 (by decide) (fun q => ?_) (fun q => ?_)
    · rw [if_neg q] at h
      refine zr_aload_n X dX11_plan_27 0 rfl ?_
      refine zr_getI X dX11_plan_28 zd_X11_7 rfl zo_68 (by rw [zk_11 zo_68]; decide) ?_
      refine zr_bipush (v := 6) X dX11_plan_31 (by decide) ?_
      refine zr_icmp_ne (tgt := 39) X dX11_plan_33 (by decide) (fun q => ?_) (fun q => ?_)
      · rw [if_neg q] at h
        refine zr_aload_n X dX11_plan_39 0 rfl ?_
        refine zr_getR X dX11_plan_40 zd_X11_26 rfl zo_68 zl_68_5 ?_
        refine zr_aload_n X dX11_plan_43 0 rfl ?_
        refine zr_getI X dX11_plan_44 zd_X11_7 rfl zo_68 (by rw [zk_11 zo_68]; decide) ?_
        refine zr_iload_n X dX11_plan_47 1 rfl ?_
        obtain ⟨g0, h⟩ := zg_e2 h
        refine zr_iast X dX11_plan_48 za_69 (zI_in g0) ?_
        refine zr_aload_n X dX11_plan_49 0 rfl ?_
        refine zr_getR X dX11_plan_50 zd_X11_30 rfl zo_68 zl_68_6 ?_
        refine zr_aload_n X dX11_plan_53 0 rfl ?_
        refine zr_getI X dX11_plan_54 zd_X11_7 rfl zo_68 (by rw [zk_11 zo_68]; decide) ?_
        refine zr_iload_n X dX11_plan_57 2 rfl ?_
        obtain ⟨g0, h⟩ := zg_e2 h
        refine zr_iast X dX11_plan_58 za_70 (zI_in g0) ?_
        refine zr_iconst (v := 0) X dX11_plan_59 (by decide) ?_
        refine zr_istore_n (lo' := [(3, .int 0), (0, .ref (S.heap.size + 68)), (1, .int p1), (2, .int p2)]) X dX11_plan_60 (by decide) rfl ?_
        refine zr_sub [1, 0] rfl ?_
        refine zl_w2 (fun a6 m7 => zv_V S D cA p l e (zv_rm d 0 0) s mi args below meth c 4 (MQ below (zv_Q S D cA (zq_i SH0 P)) args s 0 0 (zv_fr S)) 0 0 61 [(0, .ref (S.heap.size + 68)), (3, .int a6)] [] SH0 m7) fM_plan_l61 _ (fun P5 hl5 hr5 a6 m7 h => ?_) zFU 0 (wI (wI m 69 (m.1 68 0).toNatClampNeg p1) 70 ((wI m 69 (m.1 68 0).toNatClampNeg p1).1 68 0).toNatClampNeg p2) (zw_b12 h)
        rw [fM_plan_l61] at h
        refine zr_iload_n X dX11_plan_61 1 rfl ?_
        refine zr_bipush (v := 8) X dX11_plan_62 (by decide) ?_
        refine zr_icmp_ge (tgt := 88) X dX11_plan_64 (by decide) (fun q => ?_) (fun q => ?_)
        · rw [if_neg q] at h
          refine zr_aload_n X dX11_plan_88 0 rfl ?_
          refine zr_dup X dX11_plan_89 rfl ?_
          refine zr_getI X dX11_plan_90 zd_X11_7 rfl zo_68 (by rw [zk_11 zo_68]; decide) ?_
          refine zr_iconst (v := 1) X dX11_plan_93 (by decide) ?_
          refine zr_iadd X dX11_plan_94 ?_
          refine zr_put X dX11_plan_95 zd_X11_7 rfl rfl rfl zo_68 (by rw [zk_11 zo_68]; decide) ?_
          refine zr_aload_n X dX11_plan_98 0 rfl ?_
          refine zr_getI X dX11_plan_99 zd_X11_7 rfl zo_68 (by rw [zk_11 zo_68]; decide) ?_
          refine zr_iconst (v := 1) X dX11_plan_102 (by decide) ?_
          refine zr_isub X dX11_plan_103 ?_
          have h := hr5 _ h
          exact zr_iret X dX11_plan_104 rfl ⟨Nat.le_refl _, Nat.le_refl _⟩ ⟨rfl, _, rfl, h⟩
        · rw [if_pos q] at h
          refine zr_aload_n X dX11_plan_67 0 rfl ?_
          refine zr_getR X dX11_plan_68 zd_X11_33 rfl zo_68 zl_68_7 ?_
          refine zr_bipush (v := 8) X dX11_plan_71 (by decide) ?_
          refine zr_aload_n X dX11_plan_73 0 rfl ?_
          refine zr_getI X dX11_plan_74 zd_X11_7 rfl zo_68 (by rw [zk_11 zo_68]; decide) ?_
          refine zr_imul X dX11_plan_77 ?_
          refine zr_iload_n X dX11_plan_78 1 rfl ?_
          refine zr_iadd X dX11_plan_79 ?_
          refine zr_iconst (v := 1) X dX11_plan_80 (by decide) ?_
          obtain ⟨g0, h⟩ := zg_e h
          refine zr_iast X dX11_plan_81 za_71 (zI_in g0) ?_
          refine zr_iinc (v := a6 + 1) (lo' := [(3, .int (a6 + 1)), (0, .ref (S.heap.size + 68))]) X dX11_plan_82 1 rfl rfl (by decide) rfl ?_
          refine zr_goto (tgt := 61) X dX11_plan_85 (by decide) ?_
          have h := hl5 _ h
          exact zr_sub [1, 0] rfl h
      · rw [if_pos q] at h
        refine zr_bipush (v := (-4)) X dX11_plan_36 (by decide) ?_
        exact zr_iret X dX11_plan_38 rfl ⟨Nat.le_refl _, Nat.le_refl _⟩ ⟨rfl, _, rfl, h⟩
    · rw [if_pos q] at h
      refine zr_bipush (v := (-2)) X dX11_plan_24 (by decide) ?_
      exact zr_iret X dX11_plan_26 rfl ⟨Nat.le_refl _, Nat.le_refl _⟩ ⟨rfl, _, rfl, h⟩
  · rw [if_pos q] at h
    refine zr_iconst (v := (-1)) X dX11_plan_11 (by decide) ?_
    exact zr_iret X dX11_plan_12 rfl ⟨Nat.le_refl _, Nat.le_refl _⟩ ⟨rfl, _, rfl, h⟩

set_option maxRecDepth 100000 in
set_option maxHeartbeats 4000000 in
theorem x_fM_row {l : Launch} {S : State} {D : va_G} {cA : Nat → ClassId} {tb sx : Nat → Nat} (hG : zv_G S D cA tb sx) (d : Nat) (hd : 3 ≤ d) (p1 : Int32) (p2 : Int32) (p3 : Int32) (m : zv_M) (P : Int32 → zv_M → Prop) (h : zw2 (fM_row p1 p2 p3 m) P) : zv_Met l S D cA d 0 0 yX11_row cX11_row 5 (some .int) [.ref (S.heap.size + 68), .int p1, .int p2, .int p3] SH0 m (zq_i SH0 P) := by
  refine zv_met false hG pf_X11_row (fun z => by cases z) (Nat.le_of_ble_eq_true rfl) [(0, .ref (S.heap.size + 68)), (1, .int p1), (2, .int p2), (3, .int p3)] rfl (fun p e s mi args below meth c X => ?_)
  rw [fM_row] at h
  refine zr_aload_n X dX11_row_0 0 rfl ?_
  refine zr_iload_n X dX11_row_1 1 rfl ?_
  refine zr_callV_i (As := [.int p1]) (st := []) (d := d - 1) X dX11_row_2 wm_X11_234 my_X11_isPlan mv_X11_isPlan zo_68 rfl (Nat.le_of_ble_eq_true rfl) (zRm (by omega)) ⟨Nat.le_refl _, Nat.le_refl _⟩ (x_fM_isPlan hG (d - 1) (by omega) p1 m _ (zw_b12 h)) (fun r1 m2 q => ?_)
  obtain ⟨rfl, h⟩ := q
  refine zr_if_eq (tgt := 19) X dX11_row_5 (by decide) (fun q => ?_) (fun q => ?_)
  · rw [if_pos q] at h
    refine zr_iconst (v := (-1)) X dX11_row_19 (by decide) ?_
    exact zr_iret X dX11_row_20 rfl ⟨Nat.le_refl _, Nat.le_refl _⟩ ⟨rfl, _, rfl, h⟩
  · rw [if_neg q] at h
    refine zr_aload_n X dX11_row_8 0 rfl ?_
    refine zr_iload_n X dX11_row_9 2 rfl ?_
    refine zr_iconst (v := 0) X dX11_row_10 (by decide) ?_
    refine zr_bipush (v := 7) X dX11_row_11 (by decide) ?_
    refine zr_callV_i (As := [.int p2, .int 0, .int 7]) (st := []) (d := d - 1) X dX11_row_13 wm_X11_230 my_X11_in mv_X11_in zo_68 rfl (Nat.le_of_ble_eq_true rfl) (zRm (by omega)) ⟨Nat.le_refl _, Nat.le_refl _⟩ (x_fM_in hG (d - 1) (by omega) p2 0 7 m _ (zw_b12 h)) (fun r3 m4 q => ?_)
    obtain ⟨rfl, h⟩ := q
    refine zr_if_ne (tgt := 21) X dX11_row_16 (by decide) (fun q => ?_) (fun q => ?_)
    · rw [if_neg q] at h
      refine zr_aload_n X dX11_row_21 0 rfl ?_
      refine zr_iload_n X dX11_row_22 3 rfl ?_
      refine zr_iconst (v := 0) X dX11_row_23 (by decide) ?_
      refine zr_iconst (v := 1) X dX11_row_24 (by decide) ?_
      refine zr_callV_i (As := [.int p3, .int 0, .int 1]) (st := []) (d := d - 1) X dX11_row_25 wm_X11_230 my_X11_in mv_X11_in zo_68 rfl (Nat.le_of_ble_eq_true rfl) (zRm (by omega)) ⟨Nat.le_refl _, Nat.le_refl _⟩ (x_fM_in hG (d - 1) (by omega) p3 0 1 m _ (zw_b12 h)) (fun r5 m6 q => ?_)
      obtain ⟨rfl, h⟩ := q
      refine zr_if_ne (tgt := 34) X dX11_row_28 (by decide) (fun q => ?_) (fun q => ?_)
      · rw [if_neg q] at h
        refine zr_aload_n X dX11_row_34 0 rfl ?_
        refine zr_getR X dX11_row_35 zd_X11_26 rfl zo_68 zl_68_5 ?_
        refine zr_iload_n X dX11_row_38 1 rfl ?_
        obtain ⟨g0, h⟩ := zg_e2 h
        refine zr_iald X dX11_row_39 za_69 (zI_in g0) ?_
        refine zr_bipush (v := 6) X dX11_row_40 (by decide) ?_
        refine zr_icmp_eq (tgt := 48) X dX11_row_42 (by decide) (fun q => ?_) (fun q => ?_)
        · rw [if_pos q] at h
          refine zr_aload_n X dX11_row_48 0 rfl ?_
          refine zr_getR X dX11_row_49 zd_X11_33 rfl zo_68 zl_68_7 ?_
          refine zr_bipush (v := 8) X dX11_row_52 (by decide) ?_
          refine zr_iload_n X dX11_row_54 1 rfl ?_
          refine zr_imul X dX11_row_55 ?_
          refine zr_iload_n X dX11_row_56 2 rfl ?_
          refine zr_iadd X dX11_row_57 ?_
          obtain ⟨g0, h⟩ := zg_e2 h
          refine zr_iald X dX11_row_58 za_71 (zI_in g0) ?_
          refine zr_istore (lo' := [(4, .int (m.1 71 ((8 * p1) + p2).toNatClampNeg)), (0, .ref (S.heap.size + 68)), (1, .int p1), (2, .int p2), (3, .int p3)]) X dX11_row_59 (by decide) rfl ?_
          refine zr_aload_n X dX11_row_61 1 rfl ?_
          refine zr_getR X dX11_row_62 zd_X11_33 rfl zo_68 zl_68_7 ?_
          refine zr_bipush (v := 8) X dX11_row_65 (by decide) ?_
          refine zr_iload_n X dX11_row_67 2 rfl ?_
          refine zr_imul X dX11_row_68 ?_
          refine zr_iload_n X dX11_row_69 3 rfl ?_
          refine zr_iadd X dX11_row_70 ?_
          refine zr_iload_n X dX11_row_71 4 rfl ?_
          obtain ⟨g0, h⟩ := zg_e2 h
          refine zr_iast X dX11_row_72 za_71 (zI_in g0) ?_
          refine zr_iload X dX11_row_73 0 rfl ?_
          exact zr_iret X dX11_row_75 rfl ⟨Nat.le_refl _, Nat.le_refl _⟩ ⟨rfl, _, rfl, h⟩
        · rw [if_neg q] at h
          refine zr_bipush (v := (-3)) X dX11_row_45 (by decide) ?_
          exact zr_iret X dX11_row_47 rfl ⟨Nat.le_refl _, Nat.le_refl _⟩ ⟨rfl, _, rfl, h⟩
      · rw [if_pos q] at h
        refine zr_bipush (v := (-2)) X dX11_row_31 (by decide) ?_
        exact zr_iret X dX11_row_33 rfl ⟨Nat.le_refl _, Nat.le_refl _⟩ ⟨rfl, _, rfl, h⟩
    · rw [if_pos q] at h
      refine zr_iconst (v := (-1)) X dX11_row_19 (by decide) ?_
      exact zr_iret X dX11_row_20 rfl ⟨Nat.le_refl _, Nat.le_refl _⟩ ⟨rfl, _, rfl, h⟩

set_option maxRecDepth 100000 in
set_option maxHeartbeats 4000000 in
theorem x_fM_men {l : Launch} {S : State} {D : va_G} {cA : Nat → ClassId} {tb sx : Nat → Nat} (hG : zv_G S D cA tb sx) (d : Nat) (hd : 1 ≤ d) (m : zv_M) (P : Int32 → Prop) (h : zw (fM_men m) P) : zv_Met l S D cA d 0 0 yX11_men cX11_men 3 (some .int) [.ref (S.heap.size + 68)] SH0 m (zq_i SH0 (fun v m' => m = m' ∧ P v)) := by
  refine zv_met false hG pf_X11_men (fun z => by cases z) (Nat.le_of_ble_eq_true rfl) [(0, .ref (S.heap.size + 68))] rfl (fun p e s mi args below meth c X => ?_)
  rw [fM_men] at h
  refine zr_iconst (v := 0) X dX11_men_0 (by decide) ?_
  refine zr_istore_n (lo' := [(1, .int 0), (0, .ref (S.heap.size + 68))]) X dX11_men_1 (by decide) rfl ?_
  refine zr_iconst (v := 0) X dX11_men_2 (by decide) ?_
  refine zr_istore_n (lo' := [(2, .int 0), (1, .int 0), (0, .ref (S.heap.size + 68))]) X dX11_men_3 (by decide) rfl ?_
  refine zr_sub [2, 1, 0] rfl ?_
  refine zl_w2 (fun a2 a3 => zv_V S D cA p l e (zv_rm d 0 0) s mi args below meth c 3 (MQ below (zv_Q S D cA (zq_i SH0 (fun v m' => m = m' ∧ P v))) args s 0 0 (zv_fr S)) 0 0 4 [(0, .ref (S.heap.size + 68)), (1, .int a2), (2, .int a3)] [] SH0 m) (fM_men_l4 m) _ (fun P1 hl1 hr1 a2 a3 h => ?_) zFU 0 0 (zw_b1 h)
  rw [fM_men_l4] at h
  refine zr_iload_n X dX11_men_4 2 rfl ?_
  refine zr_bipush (v := 25) X dX11_men_5 (by decide) ?_
  refine zr_icmp_ge (tgt := 35) X dX11_men_7 (by decide) (fun q => ?_) (fun q => ?_)
  · rw [if_neg q] at h
    refine zr_iload_n X dX11_men_35 1 rfl ?_
    have h := hr1 _ h
    exact zr_iret X dX11_men_36 rfl ⟨Nat.le_refl _, Nat.le_refl _⟩ ⟨rfl, _, rfl, rfl, h⟩
  · rw [if_pos q] at h
    refine zr_iload_n X dX11_men_10 1 rfl ?_
    refine zr_aload_n X dX11_men_11 0 rfl ?_
    refine zr_getR X dX11_men_12 zd_X11_36 rfl zo_68 zl_68_8 ?_
    refine zr_iload_n X dX11_men_15 2 rfl ?_
    obtain ⟨g0, h⟩ := zg_e h
    refine zr_iald X dX11_men_16 za_72 (zI_in g0) ?_
    have hJ27 : ∀ (v4 : Int32), zw (fM_men_j27 a2 a3 v4) P1 → zv_V S D cA p l e (zv_rm d 0 0) s mi args below meth c 3 (MQ below (zv_Q S D cA (zq_i SH0 (fun v m' => m = m' ∧ P v))) args s 0 0 (zv_fr S)) 0 0 27 [(0, .ref (S.heap.size + 68)), (2, .int a3)] [.int v4, .int a2] SH0 m := by
      intro v4 h
      rw [fM_men_j27] at h
      refine zr_ior X dX11_men_27 ?_
      refine zr_istore_n (lo' := [(1, .int (a2 ||| v4)), (0, .ref (S.heap.size + 68)), (2, .int a3)]) X dX11_men_28 (by decide) rfl ?_
      refine zr_iinc (v := a3 + 1) (lo' := [(2, .int (a3 + 1)), (1, .int (a2 ||| v4)), (0, .ref (S.heap.size + 68))]) X dX11_men_29 2 rfl rfl (by decide) rfl ?_
      refine zr_goto (tgt := 4) X dX11_men_32 (by decide) ?_
      have h := hl1 _ h
      exact zr_sub [2, 1, 0] rfl h
    refine zr_if_lt (tgt := 26) X dX11_men_17 (by decide) (fun q => ?_) (fun q => ?_)
    · rw [if_pos q] at h
      refine zr_iconst (v := 0) X dX11_men_26 (by decide) ?_
      exact zr_sub [0, 2] rfl (hJ27 0 h)
    · rw [if_neg q] at h
      refine zr_iconst (v := 1) X dX11_men_20 (by decide) ?_
      refine zr_iload_n X dX11_men_21 2 rfl ?_
      refine zr_ishl X dX11_men_22 ?_
      refine zr_goto (tgt := 27) X dX11_men_23 (by decide) ?_
      exact zr_sub [0, 2] rfl (hJ27 (1 <<< (a3 &&& 31)) h)

set_option maxRecDepth 100000 in
set_option maxHeartbeats 4000000 in
theorem x_fM_takeAll {l : Launch} {S : State} {D : va_G} {cA : Nat → ClassId} {tb sx : Nat → Nat} (hG : zv_G S D cA tb sx) (d : Nat) (hd : 2 ≤ d) (m : zv_M) (P : Int32 → zv_M → Prop) (h : zw2 (fM_takeAll m) P) : zv_Met l S D cA d 0 0 yX11_takeAll cX11_takeAll 3 (some .int) [.ref (S.heap.size + 68)] SH0 m (zq_i SH0 P) := by
  refine zv_met false hG pf_X11_takeAll (fun z => by cases z) (Nat.le_of_ble_eq_true rfl) [(0, .ref (S.heap.size + 68))] rfl (fun p e s mi args below meth c X => ?_)
  rw [fM_takeAll] at h
  refine zr_aload_n X dX11_takeAll_0 0 rfl ?_
  refine zr_aload_n X dX11_takeAll_1 0 rfl ?_
  refine zr_callV_i (As := []) (st := [.ref (S.heap.size + 68)]) (d := d - 1) X dX11_takeAll_2 wm_X11_238 my_X11_men mv_X11_men zo_68 rfl (Nat.le_of_ble_eq_true rfl) (zRm (by omega)) ⟨Nat.le_refl _, Nat.le_refl _⟩ (x_fM_men hG (d - 1) (by omega) m _ (zw_b12 h)) (fun r1 m2 q => ?_)
  obtain ⟨rfl, h⟩ := q
  refine zr_callV_i (As := [.int r1]) (st := []) (d := d - 1) X dX11_takeAll_5 wm_X11_242 my_X11_ones mv_X11_ones zo_68 rfl (Nat.le_of_ble_eq_true rfl) (zRm (by omega)) ⟨Nat.le_refl _, Nat.le_refl _⟩ (x_fM_ones hG (d - 1) (by omega) r1 m _ (zw_b12 h)) (fun r3 m4 q => ?_)
  obtain ⟨rfl, h⟩ := q
  refine zr_istore_n (lo' := [(1, .int r3), (0, .ref (S.heap.size + 68))]) X dX11_takeAll_8 (by decide) rfl ?_
  refine zr_iconst (v := 0) X dX11_takeAll_9 (by decide) ?_
  refine zr_istore_n (lo' := [(2, .int 0), (1, .int r3), (0, .ref (S.heap.size + 68))]) X dX11_takeAll_10 (by decide) rfl ?_
  refine zr_sub [2, 1, 0] rfl ?_
  refine zl_w2 (fun a6 m7 => zv_V S D cA p l e (zv_rm d 0 0) s mi args below meth c 3 (MQ below (zv_Q S D cA (zq_i SH0 P)) args s 0 0 (zv_fr S)) 0 0 11 [(0, .ref (S.heap.size + 68)), (1, .int r3), (2, .int a6)] [] SH0 m7) (fM_takeAll_l11 r3) _ (fun P5 hl5 hr5 a6 m7 h => ?_) zFU 0 m (zw_b12 h)
  rw [fM_takeAll_l11] at h
  refine zr_iload_n X dX11_takeAll_11 2 rfl ?_
  refine zr_bipush (v := 25) X dX11_takeAll_12 (by decide) ?_
  refine zr_icmp_ge (tgt := 30) X dX11_takeAll_14 (by decide) (fun q => ?_) (fun q => ?_)
  · rw [if_neg q] at h
    refine zr_iload_n X dX11_takeAll_30 1 rfl ?_
    have h := hr5 _ h
    exact zr_iret X dX11_takeAll_31 rfl ⟨Nat.le_refl _, Nat.le_refl _⟩ ⟨rfl, _, rfl, h⟩
  · rw [if_pos q] at h
    refine zr_aload_n X dX11_takeAll_17 0 rfl ?_
    refine zr_getR X dX11_takeAll_18 zd_X11_36 rfl zo_68 zl_68_8 ?_
    refine zr_iload_n X dX11_takeAll_21 2 rfl ?_
    refine zr_iconst (v := (-1)) X dX11_takeAll_22 (by decide) ?_
    obtain ⟨g0, h⟩ := zg_e h
    refine zr_iast X dX11_takeAll_23 za_72 (zI_in g0) ?_
    refine zr_iinc (v := a6 + 1) (lo' := [(2, .int (a6 + 1)), (0, .ref (S.heap.size + 68)), (1, .int r3)]) X dX11_takeAll_24 2 rfl rfl (by decide) rfl ?_
    refine zr_goto (tgt := 11) X dX11_takeAll_27 (by decide) ?_
    have h := hl5 _ h
    exact zr_sub [1, 2, 0] rfl h

set_option maxRecDepth 100000 in
set_option maxHeartbeats 4000000 in
theorem x_fM_clear {l : Launch} {S : State} {D : va_G} {cA : Nat → ClassId} {tb sx : Nat → Nat} (hG : zv_G S D cA tb sx) (d : Nat) (hd : 3 ≤ d) (m : zv_M) (P : Int32 → zv_M → Prop) (h : zw2 (fM_clear m) P) : zv_Met l S D cA d 0 0 yX11_clear cX11_clear 1 (some .int) [.ref (S.heap.size + 68)] SH0 m (zq_i SH0 P) := by
  refine zv_met false hG pf_X11_clear (fun z => by cases z) (Nat.le_of_ble_eq_true rfl) [(0, .ref (S.heap.size + 68))] rfl (fun p e s mi args below meth c X => ?_)
  rw [fM_clear] at h
  refine zr_aload_n X dX11_clear_0 0 rfl ?_
  refine zr_callV_i (As := []) (st := []) (d := d - 1) X dX11_clear_1 wm_X11_246 my_X11_takeAll mv_X11_takeAll zo_68 rfl (Nat.le_of_ble_eq_true rfl) (zRm (by omega)) ⟨Nat.le_refl _, Nat.le_refl _⟩ (x_fM_takeAll hG (d - 1) (by omega) m _ (zw_b22 h)) (fun r1 m2 q => ?_)
  replace h := q
  exact zr_iret X dX11_clear_4 rfl ⟨Nat.le_refl _, Nat.le_refl _⟩ ⟨rfl, _, rfl, h⟩

set_option maxRecDepth 100000 in
set_option maxHeartbeats 4000000 in
theorem x_fM_of {l : Launch} {S : State} {D : va_G} {cA : Nat → ClassId} {tb sx : Nat → Nat} (hG : zv_G S D cA tb sx) (d : Nat) (hd : 3 ≤ d) (p1 : Int32) (p2 : Int32) (m : zv_M) (P : Int32 → Prop) (h : zw (fM_of p1 p2 m) P) : zv_Met l S D cA d 0 0 yX11_of cX11_of 5 (some .int) [.ref (S.heap.size + 68), .int p1, .int p2] SH0 m (zq_i SH0 (fun v m' => m = m' ∧ P v)) := by
  refine zv_met false hG pf_X11_of (fun z => by cases z) (Nat.le_of_ble_eq_true rfl) [(0, .ref (S.heap.size + 68)), (1, .int p1), (2, .int p2)] rfl (fun p e s mi args below meth c X => ?_)
  rw [fM_of] at h
  refine zr_aload_n X dX11_of_0 0 rfl ?_
  refine zr_iload_n X dX11_of_1 1 rfl ?_
  refine zr_callV_i (As := [.int p1]) (st := []) (d := d - 1) X dX11_of_2 wm_X11_234 my_X11_isPlan mv_X11_isPlan zo_68 rfl (Nat.le_of_ble_eq_true rfl) (zRm (by omega)) ⟨Nat.le_refl _, Nat.le_refl _⟩ (x_fM_isPlan hG (d - 1) (by omega) p1 m _ (zw_b1 h)) (fun r1 m2 q => ?_)
  obtain ⟨rfl, h⟩ := q
  refine zr_if_ne (tgt := 10) X dX11_of_5 (by decide) (fun q => ?_) (fun q => ?_)
  · rw [if_neg q] at h
    refine zr_iload_n X dX11_of_10 2 rfl ?_
    have hJ19 : zw (fM_of_j19 p1 p2 m) P → zv_V S D cA p l e (zv_rm d 0 0) s mi args below meth c 5 (MQ below (zv_Q S D cA (zq_i SH0 (fun v m' => m = m' ∧ P v))) args s 0 0 (zv_fr S)) 0 0 19 [(0, .ref (S.heap.size + 68)), (1, .int p1), (2, .int p2)] [] SH0 m := by
      intro h
      rw [fM_of_j19] at h
      refine zr_iload_n X dX11_of_19 2 rfl ?_
      refine zr_if_ne (tgt := 32) X dX11_of_20 (by decide) (fun q => ?_) (fun q => ?_)
      · rw [if_neg q] at h
        refine zr_aload_n X dX11_of_32 0 rfl ?_
        refine zr_getR X dX11_of_33 zd_X11_30 rfl zo_68 zl_68_6 ?_
        refine zr_iload_n X dX11_of_36 1 rfl ?_
        obtain ⟨g0, h⟩ := zg_e h
        refine zr_iald X dX11_of_37 za_70 (zI_in g0) ?_
        exact zr_iret X dX11_of_38 rfl ⟨Nat.le_refl _, Nat.le_refl _⟩ ⟨rfl, _, rfl, rfl, h⟩
      · rw [if_pos q] at h
        refine zr_aload_n X dX11_of_23 0 rfl ?_
        refine zr_getR X dX11_of_24 zd_X11_26 rfl zo_68 zl_68_5 ?_
        refine zr_iload_n X dX11_of_27 1 rfl ?_
        obtain ⟨g0, h⟩ := zg_e h
        refine zr_iald X dX11_of_28 za_69 (zI_in g0) ?_
        refine zr_goto (tgt := 38) X dX11_of_29 (by decide) ?_
        exact zr_iret X dX11_of_38 rfl ⟨Nat.le_refl _, Nat.le_refl _⟩ ⟨rfl, _, rfl, rfl, h⟩
    refine zr_if_eq (tgt := 19) X dX11_of_11 (by decide) (fun q => ?_) (fun q => ?_)
    · rw [if_pos q] at h
      exact zr_sub [0, 1, 2] rfl (hJ19 h)
    · rw [if_neg q] at h
      refine zr_iload_n X dX11_of_14 2 rfl ?_
      refine zr_iconst (v := 1) X dX11_of_15 (by decide) ?_
      refine zr_icmp_ne (tgt := 39) X dX11_of_16 (by decide) (fun q => ?_) (fun q => ?_)
      · rw [if_neg q] at h
        refine zr_iload_n X dX11_of_39 2 rfl ?_
        refine zr_iconst (v := 2) X dX11_of_40 (by decide) ?_
        refine zr_icmp_eq (tgt := 46) X dX11_of_41 (by decide) (fun q => ?_) (fun q => ?_)
        · rw [if_pos q] at h
          refine zr_iconst (v := 0) X dX11_of_46 (by decide) ?_
          refine zr_istore_n (lo' := [(3, .int 0), (0, .ref (S.heap.size + 68)), (1, .int p1), (2, .int p2)]) X dX11_of_47 (by decide) rfl ?_
          refine zr_iconst (v := 0) X dX11_of_48 (by decide) ?_
          refine zr_istore (lo' := [(4, .int 0), (3, .int 0), (0, .ref (S.heap.size + 68)), (1, .int p1), (2, .int p2)]) X dX11_of_49 (by decide) rfl ?_
          refine zr_sub [2, 3, 1, 0] rfl ?_
          refine zl_w2 (fun a4 a5 => zv_V S D cA p l e (zv_rm d 0 0) s mi args below meth c 5 (MQ below (zv_Q S D cA (zq_i SH0 (fun v m' => m = m' ∧ P v))) args s 0 0 (zv_fr S)) 0 0 51 [(0, .ref (S.heap.size + 68)), (1, .int p1), (3, .int a4), (4, .int a5)] [] SH0 m) (fM_of_l51 p1 m) _ (fun P3 hl3 hr3 a4 a5 h => ?_) zFU 0 0 (zw_b1 h)
          rw [fM_of_l51] at h
          refine zr_iload X dX11_of_51 3 rfl ?_
          refine zr_bipush (v := 25) X dX11_of_53 (by decide) ?_
          refine zr_icmp_ge (tgt := 83) X dX11_of_55 (by decide) (fun q => ?_) (fun q => ?_)
          · rw [if_neg q] at h
            refine zr_iload_n X dX11_of_83 2 rfl ?_
            have h := hr3 _ h
            exact zr_iret X dX11_of_84 rfl ⟨Nat.le_refl _, Nat.le_refl _⟩ ⟨rfl, _, rfl, rfl, h⟩
          · rw [if_pos q] at h
            refine zr_iload_n X dX11_of_58 2 rfl ?_
            refine zr_aload_n X dX11_of_59 0 rfl ?_
            refine zr_getR X dX11_of_60 zd_X11_36 rfl zo_68 zl_68_8 ?_
            refine zr_iload X dX11_of_63 3 rfl ?_
            obtain ⟨g0, h⟩ := zg_e h
            refine zr_iald X dX11_of_65 za_72 (zI_in g0) ?_
            refine zr_iload_n X dX11_of_66 1 rfl ?_
            have hJ75 : ∀ (v6 : Int32), zw (fM_of_j75 a4 a5 v6) P3 → zv_V S D cA p l e (zv_rm d 0 0) s mi args below meth c 5 (MQ below (zv_Q S D cA (zq_i SH0 (fun v m' => m = m' ∧ P v))) args s 0 0 (zv_fr S)) 0 0 75 [(0, .ref (S.heap.size + 68)), (1, .int p1), (4, .int a5)] [.int v6, .int a4] SH0 m := by
              intro v6 h
              rw [fM_of_j75] at h
              refine zr_iadd X dX11_of_75 ?_
              refine zr_istore_n (lo' := [(3, .int (a4 + v6)), (0, .ref (S.heap.size + 68)), (1, .int p1), (4, .int a5)]) X dX11_of_76 (by decide) rfl ?_
              refine zr_iinc (v := a5 + 1) (lo' := [(4, .int (a5 + 1)), (3, .int (a4 + v6)), (0, .ref (S.heap.size + 68)), (1, .int p1)]) X dX11_of_77 3 rfl rfl (by decide) rfl ?_
              refine zr_goto (tgt := 51) X dX11_of_80 (by decide) ?_
              have h := hl3 _ h
              exact zr_sub [2, 3, 1, 0] rfl h
            refine zr_icmp_ne (tgt := 74) X dX11_of_67 (by decide) (fun q => ?_) (fun q => ?_)
            · rw [if_neg q] at h
              refine zr_iconst (v := 0) X dX11_of_74 (by decide) ?_
              exact zr_sub [0, 1, 3] rfl (hJ75 0 h)
            · rw [if_pos q] at h
              refine zr_iconst (v := 1) X dX11_of_70 (by decide) ?_
              refine zr_goto (tgt := 75) X dX11_of_71 (by decide) ?_
              exact zr_sub [0, 1, 3] rfl (hJ75 1 h)
        · rw [if_neg q] at h
          refine zr_iconst (v := (-1)) X dX11_of_44 (by decide) ?_
          exact zr_iret X dX11_of_45 rfl ⟨Nat.le_refl _, Nat.le_refl _⟩ ⟨rfl, _, rfl, rfl, h⟩
      · rw [if_pos q] at h
        exact zr_sub [0, 1, 2] rfl (hJ19 h)
  · rw [if_pos q] at h
    refine zr_iconst (v := (-1)) X dX11_of_8 (by decide) ?_
    exact zr_iret X dX11_of_9 rfl ⟨Nat.le_refl _, Nat.le_refl _⟩ ⟨rfl, _, rfl, rfl, h⟩

set_option maxRecDepth 100000 in
set_option maxHeartbeats 4000000 in
theorem x_fM_feed {l : Launch} {S : State} {D : va_G} {cA : Nat → ClassId} {tb sx : Nat → Nat} (hG : zv_G S D cA tb sx) (d : Nat) (hd : 2 ≤ d) (p1 : Int32) (m : zv_M) (P : Int32 → zv_M → Prop) (h : zw2 (fM_feed p1 m) P) : zv_Met l S D cA d 0 0 yX11_feed cX11_feed 2 (some .int) [.ref (S.heap.size + 68), .int p1] SH0 m (zq_i SH0 P) := by
  refine zv_met false hG pf_X11_feed (fun z => by cases z) (Nat.le_of_ble_eq_true rfl) [(0, .ref (S.heap.size + 68)), (1, .int p1)] rfl (fun p e s mi args below meth c X => ?_)
  rw [fM_feed] at h
  refine zr_aload_n X dX11_feed_0 0 rfl ?_
  refine zr_iload_n X dX11_feed_1 1 rfl ?_
  refine zr_iconst (v := 0) X dX11_feed_2 (by decide) ?_
  refine zr_bipush (v := 127) X dX11_feed_3 (by decide) ?_
  refine zr_callV_i (As := [.int p1, .int 0, .int 127]) (st := []) (d := d - 1) X dX11_feed_5 wm_X11_230 my_X11_in mv_X11_in zo_68 rfl (Nat.le_of_ble_eq_true rfl) (zRm (by omega)) ⟨Nat.le_refl _, Nat.le_refl _⟩ (x_fM_in hG (d - 1) (by omega) p1 0 127 m _ (zw_b12 h)) (fun r1 m2 q => ?_)
  obtain ⟨rfl, h⟩ := q
  refine zr_if_ne (tgt := 14) X dX11_feed_8 (by decide) (fun q => ?_) (fun q => ?_)
  · rw [if_neg q] at h
    refine zr_aload_n X dX11_feed_14 0 rfl ?_
    refine zr_getI X dX11_feed_15 zd_X11_45 rfl zo_68 (by rw [zk_11 zo_68]; decide) ?_
    refine zr_bipush (v := 100) X dX11_feed_18 (by decide) ?_
    refine zr_icmp_ne (tgt := 26) X dX11_feed_20 (by decide) (fun q => ?_) (fun q => ?_)
    · rw [if_neg q] at h
      refine zr_aload_n X dX11_feed_26 0 rfl ?_
      refine zr_getR X dX11_feed_27 zd_X11_54 rfl zo_68 zl_68_14 ?_
      refine zr_aload_n X dX11_feed_30 0 rfl ?_
      refine zr_getI X dX11_feed_31 zd_X11_45 rfl zo_68 (by rw [zk_11 zo_68]; decide) ?_
      refine zr_iload_n X dX11_feed_34 1 rfl ?_
      obtain ⟨g0, h⟩ := zg_e2 h
      refine zr_iast X dX11_feed_35 za_73 (zI_in g0) ?_
      refine zr_aload_n X dX11_feed_36 0 rfl ?_
      refine zr_dup X dX11_feed_37 rfl ?_
      refine zr_getI X dX11_feed_38 zd_X11_45 rfl zo_68 (by rw [zk_11 zo_68]; decide) ?_
      refine zr_iconst (v := 1) X dX11_feed_41 (by decide) ?_
      refine zr_iadd X dX11_feed_42 ?_
      refine zr_put X dX11_feed_43 zd_X11_45 rfl rfl rfl zo_68 (by rw [zk_11 zo_68]; decide) ?_
      refine zr_aload_n X dX11_feed_46 0 rfl ?_
      refine zr_getI X dX11_feed_47 zd_X11_45 rfl zo_68 (by rw [zk_11 zo_68]; decide) ?_
      exact zr_iret X dX11_feed_50 rfl ⟨Nat.le_refl _, Nat.le_refl _⟩ ⟨rfl, _, rfl, h⟩
    · rw [if_pos q] at h
      refine zr_bipush (v := (-4)) X dX11_feed_23 (by decide) ?_
      exact zr_iret X dX11_feed_25 rfl ⟨Nat.le_refl _, Nat.le_refl _⟩ ⟨rfl, _, rfl, h⟩
  · rw [if_pos q] at h
    refine zr_bipush (v := (-2)) X dX11_feed_11 (by decide) ?_
    exact zr_iret X dX11_feed_13 rfl ⟨Nat.le_refl _, Nat.le_refl _⟩ ⟨rfl, _, rfl, h⟩

set_option maxRecDepth 100000 in
set_option maxHeartbeats 4000000 in
theorem x_fM_next {l : Launch} {S : State} {D : va_G} {cA : Nat → ClassId} {tb sx : Nat → Nat} (hG : zv_G S D cA tb sx) (d : Nat) (hd : 1 ≤ d) (m : zv_M) (P : Int32 → Prop) (h : zw (fM_next m) P) : zv_Met l S D cA d 0 0 yX11_next cX11_next 1 (some .int) [.ref (S.heap.size + 68)] SH0 m (zq_i SH0 (fun v m' => m = m' ∧ P v)) := by
  refine zv_met false hG pf_X11_next (fun z => by cases z) (Nat.le_of_ble_eq_true rfl) [(0, .ref (S.heap.size + 68))] rfl (fun p e s mi args below meth c X => ?_)
  rw [fM_next] at h
  refine zr_aload_n X dX11_next_0 0 rfl ?_
  refine zr_getI X dX11_next_1 zd_X11_48 rfl zo_68 (by rw [zk_11 zo_68]; decide) ?_
  refine zr_aload_n X dX11_next_4 0 rfl ?_
  refine zr_getI X dX11_next_5 zd_X11_45 rfl zo_68 (by rw [zk_11 zo_68]; decide) ?_
  refine zr_icmp_ge (tgt := 23) X dX11_next_8 (by decide) (fun q => ?_) (fun q => ?_)
  · rw [if_neg q] at h
    refine zr_iconst (v := (-1)) X dX11_next_23 (by decide) ?_
    exact zr_iret X dX11_next_24 rfl ⟨Nat.le_refl _, Nat.le_refl _⟩ ⟨rfl, _, rfl, rfl, h⟩
  · rw [if_pos q] at h
    refine zr_aload_n X dX11_next_11 0 rfl ?_
    refine zr_getR X dX11_next_12 zd_X11_54 rfl zo_68 zl_68_14 ?_
    refine zr_aload_n X dX11_next_15 0 rfl ?_
    refine zr_getI X dX11_next_16 zd_X11_48 rfl zo_68 (by rw [zk_11 zo_68]; decide) ?_
    obtain ⟨g0, h⟩ := zg_e h
    refine zr_iald X dX11_next_19 za_73 (zI_in g0) ?_
    refine zr_goto (tgt := 24) X dX11_next_20 (by decide) ?_
    exact zr_iret X dX11_next_24 rfl ⟨Nat.le_refl _, Nat.le_refl _⟩ ⟨rfl, _, rfl, rfl, h⟩

set_option maxRecDepth 100000 in
set_option maxHeartbeats 4000000 in
theorem x_fM_takes {l : Launch} {S : State} {D : va_G} {cA : Nat → ClassId} {tb sx : Nat → Nat} (hG : zv_G S D cA tb sx) (d : Nat) (hd : 2 ≤ d) (p1 : Int32) (m : zv_M) (P : Int32 → zv_M → Prop) (h : zw2 (fM_takes p1 m) P) : zv_Met l S D cA d 0 0 yX11_takes cX11_takes 2 (some .boolean) [.ref (S.heap.size + 68), .int p1] SH0 m (zq_i SH0 P) := by
  refine zv_met false hG pf_X11_takes (fun z => by cases z) (Nat.le_of_ble_eq_true rfl) [(0, .ref (S.heap.size + 68)), (1, .int p1)] rfl (fun p e s mi args below meth c X => ?_)
  rw [fM_takes] at h
  refine zr_aload_n X dX11_takes_0 0 rfl ?_
  refine zr_callV_i (As := []) (st := []) (d := d - 1) X dX11_takes_1 wm_X11_249 my_X11_next mv_X11_next zo_68 rfl (Nat.le_of_ble_eq_true rfl) (zRm (by omega)) ⟨Nat.le_refl _, Nat.le_refl _⟩ (x_fM_next hG (d - 1) (by omega) m _ (zw_b12 h)) (fun r1 m2 q => ?_)
  obtain ⟨rfl, h⟩ := q
  refine zr_iload_n X dX11_takes_4 1 rfl ?_
  refine zr_icmp_eq (tgt := 10) X dX11_takes_5 (by decide) (fun q => ?_) (fun q => ?_)
  · rw [if_pos q] at h
    refine zr_aload_n X dX11_takes_10 0 rfl ?_
    refine zr_dup X dX11_takes_11 rfl ?_
    refine zr_getI X dX11_takes_12 zd_X11_48 rfl zo_68 (by rw [zk_11 zo_68]; decide) ?_
    refine zr_iconst (v := 1) X dX11_takes_15 (by decide) ?_
    refine zr_iadd X dX11_takes_16 ?_
    refine zr_put X dX11_takes_17 zd_X11_48 rfl rfl rfl zo_68 (by rw [zk_11 zo_68]; decide) ?_
    refine zr_iconst (v := 1) X dX11_takes_20 (by decide) ?_
    exact zr_iret X dX11_takes_21 rfl ⟨Nat.le_refl _, Nat.le_refl _⟩ ⟨rfl, _, rfl, h⟩
  · rw [if_neg q] at h
    refine zr_iconst (v := 0) X dX11_takes_8 (by decide) ?_
    exact zr_iret X dX11_takes_9 rfl ⟨Nat.le_refl _, Nat.le_refl _⟩ ⟨rfl, _, rfl, h⟩

set_option maxRecDepth 100000 in
set_option maxHeartbeats 4000000 in
theorem x_fM_takesAlone {l : Launch} {S : State} {D : va_G} {cA : Nat → ClassId} {tb sx : Nat → Nat} (hG : zv_G S D cA tb sx) (d : Nat) (hd : 3 ≤ d) (p1 : Int32) (p2 : Int32) (m : zv_M) (P : Int32 → zv_M → Prop) (h : zw2 (fM_takesAlone p1 p2 m) P) : zv_Met l S D cA d 0 0 yX11_takesAlone cX11_takesAlone 4 (some .boolean) [.ref (S.heap.size + 68), .int p1, .int p2] SH0 m (zq_i SH0 P) := by
  refine zv_met false hG pf_X11_takesAlone (fun z => by cases z) (Nat.le_of_ble_eq_true rfl) [(0, .ref (S.heap.size + 68)), (1, .int p1), (2, .int p2)] rfl (fun p e s mi args below meth c X => ?_)
  rw [fM_takesAlone] at h
  refine zr_iconst (v := 0) X dX11_takesAlone_0 (by decide) ?_
  refine zr_istore_n (lo' := [(3, .int 0), (0, .ref (S.heap.size + 68)), (1, .int p1), (2, .int p2)]) X dX11_takesAlone_1 (by decide) rfl ?_
  refine zr_sub [1, 2, 3, 0] rfl ?_
  refine zl_w2 (fun a2 m3 => zv_V S D cA p l e (zv_rm d 0 0) s mi args below meth c 4 (MQ below (zv_Q S D cA (zq_i SH0 P)) args s 0 0 (zv_fr S)) 0 0 2 [(0, .ref (S.heap.size + 68)), (1, .int p1), (2, .int p2), (3, .int a2)] [] SH0 m3) (fM_takesAlone_l2 p1 p2) _ (fun P1 hl1 hr1 a2 m3 h => ?_) zFU 0 m (zw_b12 h)
  rw [fM_takesAlone_l2] at h
  refine zr_iload_n X dX11_takesAlone_2 3 rfl ?_
  refine zr_iload_n X dX11_takesAlone_3 2 rfl ?_
  refine zr_icmp_ge (tgt := 30) X dX11_takesAlone_4 (by decide) (fun q => ?_) (fun q => ?_)
  · rw [if_neg q] at h
    refine zr_iconst (v := 1) X dX11_takesAlone_30 (by decide) ?_
    have h := hr1 _ h
    exact zr_iret X dX11_takesAlone_31 rfl ⟨Nat.le_refl _, Nat.le_refl _⟩ ⟨rfl, _, rfl, h⟩
  · rw [if_pos q] at h
    refine zr_aload_n X dX11_takesAlone_7 0 rfl ?_
    refine zr_aload_n X dX11_takesAlone_8 0 rfl ?_
    refine zr_getR X dX11_takesAlone_9 zd_X11_87 rfl zo_68 zl_68_25 ?_
    refine zr_iload_n X dX11_takesAlone_12 1 rfl ?_
    refine zr_iload_n X dX11_takesAlone_13 3 rfl ?_
    refine zr_iadd X dX11_takesAlone_14 ?_
    obtain ⟨g0, h⟩ := zg_e h
    refine zr_iald X dX11_takesAlone_15 za_81 (zI_in g0) ?_
    refine zr_callV_i (As := [.int (m3.1 81 (p1 + a2).toNatClampNeg)]) (st := []) (d := d - 1) X dX11_takesAlone_16 wm_X11_252 my_X11_takes mv_X11_takes zo_68 rfl (Nat.le_of_ble_eq_true rfl) (zRm (by omega)) ⟨Nat.le_refl _, Nat.le_refl _⟩ (x_fM_takes hG (d - 1) (by omega) (m3.1 81 (p1 + a2).toNatClampNeg) m3 _ (zw_b2 h)) (fun r4 m5 q => ?_)
    replace h := q
    refine zr_if_ne (tgt := 24) X dX11_takesAlone_19 (by decide) (fun q => ?_) (fun q => ?_)
    · rw [if_neg q] at h
      refine zr_iinc (v := a2 + 1) (lo' := [(3, .int (a2 + 1)), (0, .ref (S.heap.size + 68)), (1, .int p1), (2, .int p2)]) X dX11_takesAlone_24 3 rfl rfl (by decide) rfl ?_
      refine zr_goto (tgt := 2) X dX11_takesAlone_27 (by decide) ?_
      have h := hl1 _ h
      exact zr_sub [1, 2, 3, 0] rfl h
    · rw [if_pos q] at h
      refine zr_iconst (v := 0) X dX11_takesAlone_22 (by decide) ?_
      have h := hr1 _ h
      exact zr_iret X dX11_takesAlone_23 rfl ⟨Nat.le_refl _, Nat.le_refl _⟩ ⟨rfl, _, rfl, h⟩

set_option maxRecDepth 100000 in
set_option maxHeartbeats 4000000 in
theorem x_fM_takesWord {l : Launch} {S : State} {D : va_G} {cA : Nat → ClassId} {tb sx : Nat → Nat} (hG : zv_G S D cA tb sx) (d : Nat) (hd : 4 ≤ d) (p1 : Int32) (p2 : Int32) (m : zv_M) (P : Int32 → zv_M → Prop) (h : zw2 (fM_takesWord p1 p2 m) P) : zv_Met l S D cA d 0 0 yX11_takesWord cX11_takesWord 3 (some .boolean) [.ref (S.heap.size + 68), .int p1, .int p2] SH0 m (zq_i SH0 P) := by
  refine zv_met false hG pf_X11_takesWord (fun z => by cases z) (Nat.le_of_ble_eq_true rfl) [(0, .ref (S.heap.size + 68)), (1, .int p1), (2, .int p2)] rfl (fun p e s mi args below meth c X => ?_)
  rw [fM_takesWord] at h
  refine zr_aload_n X dX11_takesWord_0 0 rfl ?_
  refine zr_iload_n X dX11_takesWord_1 1 rfl ?_
  refine zr_iload_n X dX11_takesWord_2 2 rfl ?_
  refine zr_callV_i (As := [.int p1, .int p2]) (st := []) (d := d - 1) X dX11_takesWord_3 wm_X11_255 my_X11_takesAlone mv_X11_takesAlone zo_68 rfl (Nat.le_of_ble_eq_true rfl) (zRm (by omega)) ⟨Nat.le_refl _, Nat.le_refl _⟩ (x_fM_takesAlone hG (d - 1) (by omega) p1 p2 m _ (zw_b22 h)) (fun r1 m2 q => ?_)
  replace h := q
  refine zr_if_eq (tgt := 22) X dX11_takesWord_6 (by decide) (fun q => ?_) (fun q => ?_)
  · rw [if_pos q] at h
    refine zr_iconst (v := 0) X dX11_takesWord_22 (by decide) ?_
    exact zr_iret X dX11_takesWord_23 rfl ⟨Nat.le_refl _, Nat.le_refl _⟩ ⟨rfl, _, rfl, h⟩
  · rw [if_neg q] at h
    refine zr_aload_n X dX11_takesWord_9 0 rfl ?_
    refine zr_bipush (v := 32) X dX11_takesWord_10 (by decide) ?_
    refine zr_callV_i (As := [.int 32]) (st := []) (d := d - 1) X dX11_takesWord_12 wm_X11_252 my_X11_takes mv_X11_takes zo_68 rfl (Nat.le_of_ble_eq_true rfl) (zRm (by omega)) ⟨Nat.le_refl _, Nat.le_refl _⟩ (x_fM_takes hG (d - 1) (by omega) 32 m2 _ (zw_b22 h)) (fun r3 m4 q => ?_)
    replace h := q
    refine zr_if_eq (tgt := 22) X dX11_takesWord_15 (by decide) (fun q => ?_) (fun q => ?_)
    · rw [if_pos q] at h
      refine zr_iconst (v := 0) X dX11_takesWord_22 (by decide) ?_
      exact zr_iret X dX11_takesWord_23 rfl ⟨Nat.le_refl _, Nat.le_refl _⟩ ⟨rfl, _, rfl, h⟩
    · rw [if_neg q] at h
      refine zr_iconst (v := 1) X dX11_takesWord_18 (by decide) ?_
      refine zr_goto (tgt := 23) X dX11_takesWord_19 (by decide) ?_
      exact zr_iret X dX11_takesWord_23 rfl ⟨Nat.le_refl _, Nat.le_refl _⟩ ⟨rfl, _, rfl, h⟩

set_option maxRecDepth 100000 in
set_option maxHeartbeats 4000000 in
theorem x_fM_isDigit {l : Launch} {S : State} {D : va_G} {cA : Nat → ClassId} {tb sx : Nat → Nat} (hG : zv_G S D cA tb sx) (d : Nat) (hd : 2 ≤ d) (m : zv_M) (P : Int32 → Prop) (h : zw (fM_isDigit m) P) : zv_Met l S D cA d 0 0 yX11_isDigit cX11_isDigit 1 (some .boolean) [.ref (S.heap.size + 68)] SH0 m (zq_i SH0 (fun v m' => m = m' ∧ P v)) := by
  refine zv_met false hG pf_X11_isDigit (fun z => by cases z) (Nat.le_of_ble_eq_true rfl) [(0, .ref (S.heap.size + 68))] rfl (fun p e s mi args below meth c X => ?_)
  rw [fM_isDigit] at h
  refine zr_aload_n X dX11_isDigit_0 0 rfl ?_
  refine zr_aload_n X dX11_isDigit_1 0 rfl ?_
  refine zr_callV_i (As := []) (st := [.ref (S.heap.size + 68)]) (d := d - 1) X dX11_isDigit_2 wm_X11_249 my_X11_next mv_X11_next zo_68 rfl (Nat.le_of_ble_eq_true rfl) (zRm (by omega)) ⟨Nat.le_refl _, Nat.le_refl _⟩ (x_fM_next hG (d - 1) (by omega) m _ (zw_b1 h)) (fun r1 m2 q => ?_)
  obtain ⟨rfl, h⟩ := q
  refine zr_bipush (v := 48) X dX11_isDigit_5 (by decide) ?_
  refine zr_bipush (v := 57) X dX11_isDigit_7 (by decide) ?_
  refine zr_callV_i (As := [.int r1, .int 48, .int 57]) (st := []) (d := d - 1) X dX11_isDigit_9 wm_X11_230 my_X11_in mv_X11_in zo_68 rfl (Nat.le_of_ble_eq_true rfl) (zRm (by omega)) ⟨Nat.le_refl _, Nat.le_refl _⟩ (x_fM_in hG (d - 1) (by omega) r1 48 57 m _ (zw_b1 h)) (fun r3 m4 q => ?_)
  obtain ⟨rfl, h⟩ := q
  obtain ⟨g0, h⟩ := zg_e h
  exact zr_iret X dX11_isDigit_12 (zB_n g0) ⟨Nat.le_refl _, Nat.le_refl _⟩ ⟨rfl, _, rfl, rfl, h⟩

set_option maxRecDepth 100000 in
set_option maxHeartbeats 4000000 in
theorem x_fM_takesNumber {l : Launch} {S : State} {D : va_G} {cA : Nat → ClassId} {tb sx : Nat → Nat} (hG : zv_G S D cA tb sx) (d : Nat) (hd : 3 ≤ d) (m : zv_M) (P : Int32 → zv_M → Prop) (h : zw2 (fM_takesNumber m) P) : zv_Met l S D cA d 0 0 yX11_takesNumber cX11_takesNumber 2 (some .boolean) [.ref (S.heap.size + 68)] SH0 m (zq_i SH0 P) := by
  refine zv_met false hG pf_X11_takesNumber (fun z => by cases z) (Nat.le_of_ble_eq_true rfl) [(0, .ref (S.heap.size + 68))] rfl (fun p e s mi args below meth c X => ?_)
  rw [fM_takesNumber] at h
  refine zr_aload_n X dX11_takesNumber_0 0 rfl ?_
  refine zr_callV_i (As := []) (st := []) (d := d - 1) X dX11_takesNumber_1 wm_X11_259 my_X11_isDigit mv_X11_isDigit zo_68 rfl (Nat.le_of_ble_eq_true rfl) (zRm (by omega)) ⟨Nat.le_refl _, Nat.le_refl _⟩ (x_fM_isDigit hG (d - 1) (by omega) m _ (zw_b12 h)) (fun r1 m2 q => ?_)
  obtain ⟨rfl, h⟩ := q
  refine zr_if_ne (tgt := 9) X dX11_takesNumber_4 (by decide) (fun q => ?_) (fun q => ?_)
  · rw [if_neg q] at h
    refine zr_aload_n X dX11_takesNumber_9 0 rfl ?_
    refine zr_iconst (v := 0) X dX11_takesNumber_10 (by decide) ?_
    refine zr_put X dX11_takesNumber_11 zd_X11_51 rfl rfl rfl zo_68 (by rw [zk_11 zo_68]; decide) ?_
    refine zr_iconst (v := 0) X dX11_takesNumber_14 (by decide) ?_
    refine zr_istore_n (lo' := [(1, .int 0), (0, .ref (S.heap.size + 68))]) X dX11_takesNumber_15 (by decide) rfl ?_
    refine zr_sub [1, 0] rfl ?_
    refine zl_w2 (fun a4 m5 => zv_V S D cA p l e (zv_rm d 0 0) s mi args below meth c 2 (MQ below (zv_Q S D cA (zq_i SH0 P)) args s 0 0 (zv_fr S)) 0 0 16 [(0, .ref (S.heap.size + 68)), (1, .int a4)] [] SH0 m5) fM_takesNumber_l16 _ (fun P3 hl3 hr3 a4 m5 h => ?_) zFU 0 (wI m 68 13 0) (zw_b12 h)
    rw [fM_takesNumber_l16] at h
    refine zr_iload_n X dX11_takesNumber_16 1 rfl ?_
    refine zr_iconst (v := 2) X dX11_takesNumber_17 (by decide) ?_
    refine zr_icmp_ge (tgt := 63) X dX11_takesNumber_18 (by decide) (fun q => ?_) (fun q => ?_)
    · rw [if_neg q] at h
      refine zr_iconst (v := 1) X dX11_takesNumber_63 (by decide) ?_
      have h := hr3 _ h
      exact zr_iret X dX11_takesNumber_64 rfl ⟨Nat.le_refl _, Nat.le_refl _⟩ ⟨rfl, _, rfl, h⟩
    · rw [if_pos q] at h
      refine zr_aload_n X dX11_takesNumber_21 0 rfl ?_
      refine zr_callV_i (As := []) (st := []) (d := d - 1) X dX11_takesNumber_22 wm_X11_259 my_X11_isDigit mv_X11_isDigit zo_68 rfl (Nat.le_of_ble_eq_true rfl) (zRm (by omega)) ⟨Nat.le_refl _, Nat.le_refl _⟩ (x_fM_isDigit hG (d - 1) (by omega) m5 _ (zw_b1 h)) (fun r6 m7 q => ?_)
      obtain ⟨rfl, h⟩ := q
      refine zr_if_eq (tgt := 63) X dX11_takesNumber_25 (by decide) (fun q => ?_) (fun q => ?_)
      · rw [if_pos q] at h
        refine zr_iconst (v := 1) X dX11_takesNumber_63 (by decide) ?_
        have h := hr3 _ h
        exact zr_iret X dX11_takesNumber_64 rfl ⟨Nat.le_refl _, Nat.le_refl _⟩ ⟨rfl, _, rfl, h⟩
      · rw [if_neg q] at h
        refine zr_aload_n X dX11_takesNumber_28 0 rfl ?_
        refine zr_bipush (v := 10) X dX11_takesNumber_29 (by decide) ?_
        refine zr_aload_n X dX11_takesNumber_31 0 rfl ?_
        refine zr_getI X dX11_takesNumber_32 zd_X11_51 rfl zo_68 (by rw [zk_11 zo_68]; decide) ?_
        refine zr_imul X dX11_takesNumber_35 ?_
        refine zr_aload_n X dX11_takesNumber_36 0 rfl ?_
        refine zr_callV_i (As := []) (st := [.int (10 * (m5.1 68 13)), .ref (S.heap.size + 68)]) (d := d - 1) X dX11_takesNumber_37 wm_X11_249 my_X11_next mv_X11_next zo_68 rfl (Nat.le_of_ble_eq_true rfl) (zRm (by omega)) ⟨Nat.le_refl _, Nat.le_refl _⟩ (x_fM_next hG (d - 1) (by omega) m5 _ (zw_b1 h)) (fun r8 m9 q => ?_)
        obtain ⟨rfl, h⟩ := q
        refine zr_iadd X dX11_takesNumber_40 ?_
        refine zr_bipush (v := 48) X dX11_takesNumber_41 (by decide) ?_
        refine zr_isub X dX11_takesNumber_43 ?_
        refine zr_put X dX11_takesNumber_44 zd_X11_51 rfl rfl rfl zo_68 (by rw [zk_11 zo_68]; decide) ?_
        refine zr_aload_n X dX11_takesNumber_47 0 rfl ?_
        refine zr_dup X dX11_takesNumber_48 rfl ?_
        refine zr_getI X dX11_takesNumber_49 zd_X11_48 rfl zo_68 (by rw [zk_11 zo_68]; decide) ?_
        refine zr_iconst (v := 1) X dX11_takesNumber_52 (by decide) ?_
        refine zr_iadd X dX11_takesNumber_53 ?_
        refine zr_put X dX11_takesNumber_54 zd_X11_48 rfl rfl rfl zo_68 (by rw [zk_11 zo_68]; decide) ?_
        refine zr_iinc (v := a4 + 1) (lo' := [(1, .int (a4 + 1)), (0, .ref (S.heap.size + 68))]) X dX11_takesNumber_57 1 rfl rfl (by decide) rfl ?_
        refine zr_goto (tgt := 16) X dX11_takesNumber_60 (by decide) ?_
        have h := hl3 _ h
        exact zr_sub [1, 0] rfl h
  · rw [if_pos q] at h
    refine zr_iconst (v := 0) X dX11_takesNumber_7 (by decide) ?_
    exact zr_iret X dX11_takesNumber_8 rfl ⟨Nat.le_refl _, Nat.le_refl _⟩ ⟨rfl, _, rfl, h⟩

set_option maxRecDepth 100000 in
set_option maxHeartbeats 4000000 in
theorem x_fM_emits {l : Launch} {S : State} {D : va_G} {cA : Nat → ClassId} {tb sx : Nat → Nat} (hG : zv_G S D cA tb sx) (d : Nat) (hd : 1 ≤ d) (p1 : Int32) (m : zv_M) (P : zv_M → Prop) (h : zw (fM_emits p1 m) P) : zv_Met l S D cA d 0 0 yX11_emits cX11_emits 2 none [.ref (S.heap.size + 68), .int p1] SH0 m (zq_v SH0 P) := by
  refine zv_met false hG pf_X11_emits (fun z => by cases z) (Nat.le_of_ble_eq_true rfl) [(0, .ref (S.heap.size + 68)), (1, .int p1)] rfl (fun p e s mi args below meth c X => ?_)
  rw [fM_emits] at h
  refine zr_aload_n X dX11_emits_0 0 rfl ?_
  refine zr_getR X dX11_emits_1 zd_X11_72 rfl zo_68 zl_68_20 ?_
  refine zr_aload_n X dX11_emits_4 0 rfl ?_
  refine zr_getI X dX11_emits_5 zd_X11_78 rfl zo_68 (by rw [zk_11 zo_68]; decide) ?_
  refine zr_iload_n X dX11_emits_8 1 rfl ?_
  obtain ⟨g0, h⟩ := zg_e h
  refine zr_iast X dX11_emits_9 za_79 (zI_in g0) ?_
  refine zr_aload_n X dX11_emits_10 0 rfl ?_
  refine zr_dup X dX11_emits_11 rfl ?_
  refine zr_getI X dX11_emits_12 zd_X11_78 rfl zo_68 (by rw [zk_11 zo_68]; decide) ?_
  refine zr_iconst (v := 1) X dX11_emits_15 (by decide) ?_
  refine zr_iadd X dX11_emits_16 ?_
  refine zr_put X dX11_emits_17 zd_X11_78 rfl rfl rfl zo_68 (by rw [zk_11 zo_68]; decide) ?_
  exact zr_vret X dX11_emits_20 ⟨Nat.le_refl _, Nat.le_refl _⟩ ⟨rfl, rfl, h⟩

set_option maxRecDepth 100000 in
set_option maxHeartbeats 4000000 in
theorem x_fM_whole {l : Launch} {S : State} {D : va_G} {cA : Nat → ClassId} {tb sx : Nat → Nat} (hG : zv_G S D cA tb sx) (d : Nat) (hd : 2 ≤ d) (m : zv_M) (P : zv_M → Prop) (h : zw (fM_whole m) P) : zv_Met l S D cA d 0 0 yX11_whole cX11_whole 1 none [.ref (S.heap.size + 68)] SH0 m (zq_v SH0 P) := by
  refine zv_met false hG pf_X11_whole (fun z => by cases z) (Nat.le_of_ble_eq_true rfl) [(0, .ref (S.heap.size + 68))] rfl (fun p e s mi args below meth c X => ?_)
  rw [fM_whole] at h
  refine zr_sub [0] rfl ?_
  refine zl_w1 (fun m2 => zv_V S D cA p l e (zv_rm d 0 0) s mi args below meth c 1 (MQ below (zv_Q S D cA (zq_v SH0 P)) args s 0 0 (zv_fr S)) 0 0 0 [(0, .ref (S.heap.size + 68))] [] SH0 m2) fM_whole_l0 _ (fun P1 hl1 hr1 m2 h => ?_) zFU m (zw_b1 h)
  rw [fM_whole_l0] at h
  refine zr_aload_n X dX11_whole_0 0 rfl ?_
  refine zr_getI X dX11_whole_1 zd_X11_81 rfl zo_68 (by rw [zk_11 zo_68]; decide) ?_
  refine zr_if_le (tgt := 52) X dX11_whole_4 (by decide) (fun q => ?_) (fun q => ?_)
  · rw [if_neg q] at h
    have h := hr1 _ h
    exact zr_vret X dX11_whole_52 ⟨Nat.le_refl _, Nat.le_refl _⟩ ⟨rfl, rfl, h⟩
  · rw [if_pos q] at h
    refine zr_aload_n X dX11_whole_7 0 rfl ?_
    refine zr_getR X dX11_whole_8 zd_X11_75 rfl zo_68 zl_68_21 ?_
    refine zr_aload_n X dX11_whole_11 0 rfl ?_
    refine zr_getI X dX11_whole_12 zd_X11_81 rfl zo_68 (by rw [zk_11 zo_68]; decide) ?_
    refine zr_iconst (v := 1) X dX11_whole_15 (by decide) ?_
    refine zr_isub X dX11_whole_16 ?_
    obtain ⟨g0, h⟩ := zg_e h
    refine zr_iald X dX11_whole_17 za_80 (zI_in g0) ?_
    refine zr_bipush (v := 33) X dX11_whole_18 (by decide) ?_
    refine zr_icmp_ne (tgt := 52) X dX11_whole_20 (by decide) (fun q => ?_) (fun q => ?_)
    · rw [if_neg q] at h
      have h := hr1 _ h
      exact zr_vret X dX11_whole_52 ⟨Nat.le_refl _, Nat.le_refl _⟩ ⟨rfl, rfl, h⟩
    · rw [if_pos q] at h
      refine zr_aload_n X dX11_whole_23 0 rfl ?_
      refine zr_bipush (v := (-33)) X dX11_whole_24 (by decide) ?_
      refine zr_callV_v (As := [.int (-33)]) (st := []) (d := d - 1) X dX11_whole_26 wm_X11_263 my_X11_emits mv_X11_emits zo_68 rfl (Nat.le_of_ble_eq_true rfl) (zRm (by omega)) ⟨Nat.le_refl _, Nat.le_refl _⟩ (x_fM_emits hG (d - 1) (by omega) (-33) m2 _ (zw_b1 h)) (fun m3 q => ?_)
      replace h := q
      refine zr_aload_n X dX11_whole_29 0 rfl ?_
      refine zr_dup X dX11_whole_30 rfl ?_
      refine zr_getI X dX11_whole_31 zd_X11_81 rfl zo_68 (by rw [zk_11 zo_68]; decide) ?_
      refine zr_iconst (v := 1) X dX11_whole_34 (by decide) ?_
      refine zr_isub X dX11_whole_35 ?_
      refine zr_put X dX11_whole_36 zd_X11_81 rfl rfl rfl zo_68 (by rw [zk_11 zo_68]; decide) ?_
      refine zr_aload_n X dX11_whole_39 0 rfl ?_
      refine zr_dup X dX11_whole_40 rfl ?_
      refine zr_getI X dX11_whole_41 zd_X11_84 rfl zo_68 (by rw [zk_11 zo_68]; decide) ?_
      refine zr_iconst (v := 1) X dX11_whole_44 (by decide) ?_
      refine zr_isub X dX11_whole_45 ?_
      refine zr_put X dX11_whole_46 zd_X11_84 rfl rfl rfl zo_68 (by rw [zk_11 zo_68]; decide) ?_
      refine zr_goto (tgt := 0) X dX11_whole_49 (by decide) ?_
      have h := hl1 _ h
      exact zr_sub [0] rfl h

set_option maxRecDepth 100000 in
set_option maxHeartbeats 4000000 in
theorem x_fM_settle {l : Launch} {S : State} {D : va_G} {cA : Nat → ClassId} {tb sx : Nat → Nat} (hG : zv_G S D cA tb sx) (d : Nat) (hd : 2 ≤ d) (p1 : Int32) (m : zv_M) (P : zv_M → Prop) (h : zw (fM_settle p1 m) P) : zv_Met l S D cA d 0 0 yX11_settle cX11_settle 2 none [.ref (S.heap.size + 68), .int p1] SH0 m (zq_v SH0 P) := by
  refine zv_met false hG pf_X11_settle (fun z => by cases z) (Nat.le_of_ble_eq_true rfl) [(0, .ref (S.heap.size + 68)), (1, .int p1)] rfl (fun p e s mi args below meth c X => ?_)
  rw [fM_settle] at h
  refine zr_sub [0, 1] rfl ?_
  refine zl_w1 (fun m2 => zv_V S D cA p l e (zv_rm d 0 0) s mi args below meth c 2 (MQ below (zv_Q S D cA (zq_v SH0 P)) args s 0 0 (zv_fr S)) 0 0 0 [(0, .ref (S.heap.size + 68)), (1, .int p1)] [] SH0 m2) (fM_settle_l0 p1) _ (fun P1 hl1 hr1 m2 h => ?_) zFU m (zw_b1 h)
  rw [fM_settle_l0] at h
  refine zr_aload_n X dX11_settle_0 0 rfl ?_
  refine zr_getI X dX11_settle_1 zd_X11_81 rfl zo_68 (by rw [zk_11 zo_68]; decide) ?_
  refine zr_if_le (tgt := 72) X dX11_settle_4 (by decide) (fun q => ?_) (fun q => ?_)
  · rw [if_neg q] at h
    have h := hr1 _ h
    exact zr_vret X dX11_settle_72 ⟨Nat.le_refl _, Nat.le_refl _⟩ ⟨rfl, rfl, h⟩
  · rw [if_pos q] at h
    refine zr_aload_n X dX11_settle_7 0 rfl ?_
    refine zr_getR X dX11_settle_8 zd_X11_75 rfl zo_68 zl_68_21 ?_
    refine zr_aload_n X dX11_settle_11 0 rfl ?_
    refine zr_getI X dX11_settle_12 zd_X11_81 rfl zo_68 (by rw [zk_11 zo_68]; decide) ?_
    refine zr_iconst (v := 1) X dX11_settle_15 (by decide) ?_
    refine zr_isub X dX11_settle_16 ?_
    obtain ⟨g0, h⟩ := zg_e h
    refine zr_iald X dX11_settle_17 za_80 (zI_in g0) ?_
    refine zr_bipush (v := 38) X dX11_settle_18 (by decide) ?_
    have hJ45 : zw (fM_settle_j45 m2) P1 → zv_V S D cA p l e (zv_rm d 0 0) s mi args below meth c 2 (MQ below (zv_Q S D cA (zq_v SH0 P)) args s 0 0 (zv_fr S)) 0 0 45 [(0, .ref (S.heap.size + 68)), (1, .int p1)] [] SH0 m2 := by
      intro h
      rw [fM_settle_j45] at h
      refine zr_aload_n X dX11_settle_45 0 rfl ?_
      refine zr_dup X dX11_settle_46 rfl ?_
      refine zr_getI X dX11_settle_47 zd_X11_81 rfl zo_68 (by rw [zk_11 zo_68]; decide) ?_
      refine zr_iconst (v := 1) X dX11_settle_50 (by decide) ?_
      refine zr_isub X dX11_settle_51 ?_
      refine zr_put X dX11_settle_52 zd_X11_81 rfl rfl rfl zo_68 (by rw [zk_11 zo_68]; decide) ?_
      refine zr_aload_n X dX11_settle_55 0 rfl ?_
      refine zr_aload_n X dX11_settle_56 0 rfl ?_
      refine zr_getR X dX11_settle_57 zd_X11_75 rfl zo_68 zl_68_21 ?_
      refine zr_aload_n X dX11_settle_60 0 rfl ?_
      refine zr_getI X dX11_settle_61 zd_X11_81 rfl zo_68 (by rw [zk_11 zo_68]; decide) ?_
      obtain ⟨g0, h⟩ := zg_e h
      refine zr_iald X dX11_settle_64 za_80 (zI_in g0) ?_
      refine zr_ineg X dX11_settle_65 ?_
      refine zr_callV_v (As := [.int (-((wI m2 68 23 ((m2.1 68 23) - 1)).1 80 ((wI m2 68 23 ((m2.1 68 23) - 1)).1 68 23).toNatClampNeg))]) (st := []) (d := d - 1) X dX11_settle_66 wm_X11_263 my_X11_emits mv_X11_emits zo_68 rfl (Nat.le_of_ble_eq_true rfl) (zRm (by omega)) ⟨Nat.le_refl _, Nat.le_refl _⟩ (x_fM_emits hG (d - 1) (by omega) (-((wI m2 68 23 ((m2.1 68 23) - 1)).1 80 ((wI m2 68 23 ((m2.1 68 23) - 1)).1 68 23).toNatClampNeg)) (wI m2 68 23 ((m2.1 68 23) - 1)) _ (zw_b1 h)) (fun m3 q => ?_)
      replace h := q
      refine zr_goto (tgt := 0) X dX11_settle_69 (by decide) ?_
      have h := hl1 _ h
      exact zr_sub [0, 1] rfl h
    refine zr_icmp_eq (tgt := 45) X dX11_settle_20 (by decide) (fun q => ?_) (fun q => ?_)
    · rw [if_pos q] at h
      exact zr_sub [0, 1] rfl (hJ45 h)
    · rw [if_neg q] at h
      refine zr_aload_n X dX11_settle_23 0 rfl ?_
      refine zr_getR X dX11_settle_24 zd_X11_75 rfl zo_68 zl_68_21 ?_
      refine zr_aload_n X dX11_settle_27 0 rfl ?_
      refine zr_getI X dX11_settle_28 zd_X11_81 rfl zo_68 (by rw [zk_11 zo_68]; decide) ?_
      refine zr_iconst (v := 1) X dX11_settle_31 (by decide) ?_
      refine zr_isub X dX11_settle_32 ?_
      obtain ⟨g0, h⟩ := zg_e h
      refine zr_iald X dX11_settle_33 za_80 (zI_in g0) ?_
      refine zr_bipush (v := 124) X dX11_settle_34 (by decide) ?_
      refine zr_icmp_ne (tgt := 72) X dX11_settle_36 (by decide) (fun q => ?_) (fun q => ?_)
      · rw [if_neg q] at h
        have h := hr1 _ h
        exact zr_vret X dX11_settle_72 ⟨Nat.le_refl _, Nat.le_refl _⟩ ⟨rfl, rfl, h⟩
      · rw [if_pos q] at h
        refine zr_iload_n X dX11_settle_39 1 rfl ?_
        refine zr_bipush (v := 38) X dX11_settle_40 (by decide) ?_
        refine zr_icmp_eq (tgt := 72) X dX11_settle_42 (by decide) (fun q => ?_) (fun q => ?_)
        · rw [if_pos q] at h
          have h := hr1 _ h
          exact zr_vret X dX11_settle_72 ⟨Nat.le_refl _, Nat.le_refl _⟩ ⟨rfl, rfl, h⟩
        · rw [if_neg q] at h
          exact zr_sub [0, 1] rfl (hJ45 h)

set_option maxRecDepth 100000 in
set_option maxHeartbeats 4000000 in
theorem x_fM_place {l : Launch} {S : State} {D : va_G} {cA : Nat → ClassId} {tb sx : Nat → Nat} (hG : zv_G S D cA tb sx) (d : Nat) (hd : 1 ≤ d) (p1 : Int32) (m : zv_M) (P : Int32 → Prop) (h : zw (fM_place p1) P) : zv_Met l S D cA d 0 0 yX11_place cX11_place 2 (some .int) [.ref (S.heap.size + 68), .int p1] SH0 m (zq_i SH0 (fun v m' => m = m' ∧ P v)) := by
  refine zv_met false hG pf_X11_place (fun z => by cases z) (Nat.le_of_ble_eq_true rfl) [(0, .ref (S.heap.size + 68)), (1, .int p1)] rfl (fun p e s mi args below meth c X => ?_)
  rw [fM_place] at h
  refine zr_iload_n X dX11_place_0 1 rfl ?_
  by_cases e0 : p1 = 100
  · rw [if_pos e0] at h
    refine zr_lookup (off := 65) (tgt := 66) X dX11_place_1 (by decide) (by rw [e0]; decide) (by decide) ?_
    refine zr_iconst (v := 3) X dX11_place_66 (by decide) ?_
    exact zr_iret X dX11_place_67 rfl ⟨Nat.le_refl _, Nat.le_refl _⟩ ⟨rfl, _, rfl, rfl, h⟩
  rw [if_neg e0] at h
  by_cases e1 : p1 = 110
  · rw [if_pos e1] at h
    refine zr_lookup (off := 67) (tgt := 68) X dX11_place_1 (by decide) (by rw [e1]; decide) (by decide) ?_
    refine zr_iconst (v := 4) X dX11_place_68 (by decide) ?_
    exact zr_iret X dX11_place_69 rfl ⟨Nat.le_refl _, Nat.le_refl _⟩ ⟨rfl, _, rfl, rfl, h⟩
  rw [if_neg e1] at h
  by_cases e2 : p1 = 115
  · rw [if_pos e2] at h
    refine zr_lookup (off := 63) (tgt := 64) X dX11_place_1 (by decide) (by rw [e2]; decide) (by decide) ?_
    refine zr_iconst (v := 2) X dX11_place_64 (by decide) ?_
    exact zr_iret X dX11_place_65 rfl ⟨Nat.le_refl _, Nat.le_refl _⟩ ⟨rfl, _, rfl, rfl, h⟩
  rw [if_neg e2] at h
  by_cases e3 : p1 = 119
  · rw [if_pos e3] at h
    refine zr_lookup (off := 69) (tgt := 70) X dX11_place_1 (by decide) (by rw [e3]; decide) (by decide) ?_
    refine zr_iconst (v := 5) X dX11_place_70 (by decide) ?_
    exact zr_iret X dX11_place_71 rfl ⟨Nat.le_refl _, Nat.le_refl _⟩ ⟨rfl, _, rfl, rfl, h⟩
  rw [if_neg e3] at h
  by_cases e4 : p1 = 120
  · rw [if_pos e4] at h
    refine zr_lookup (off := 59) (tgt := 60) X dX11_place_1 (by decide) (by rw [e4]; decide) (by decide) ?_
    refine zr_iconst (v := 0) X dX11_place_60 (by decide) ?_
    exact zr_iret X dX11_place_61 rfl ⟨Nat.le_refl _, Nat.le_refl _⟩ ⟨rfl, _, rfl, rfl, h⟩
  rw [if_neg e4] at h
  by_cases e5 : p1 = 121
  · rw [if_pos e5] at h
    refine zr_lookup (off := 61) (tgt := 62) X dX11_place_1 (by decide) (by rw [e5]; decide) (by decide) ?_
    refine zr_iconst (v := 1) X dX11_place_62 (by decide) ?_
    exact zr_iret X dX11_place_63 rfl ⟨Nat.le_refl _, Nat.le_refl _⟩ ⟨rfl, _, rfl, rfl, h⟩
  rw [if_neg e5] at h
  refine zr_lookup (off := 71) (tgt := 72) X dX11_place_1 (by decide) (by rw [lv_osw e0 (by decide), lv_osw e1 (by decide), lv_osw e2 (by decide), lv_osw e3 (by decide), lv_osw e4 (by decide), lv_osw e5 (by decide)]; rfl) (by decide) ?_
  refine zr_iconst (v := (-1)) X dX11_place_72 (by decide) ?_
  exact zr_iret X dX11_place_73 rfl ⟨Nat.le_refl _, Nat.le_refl _⟩ ⟨rfl, _, rfl, rfl, h⟩

set_option maxRecDepth 100000 in
set_option maxHeartbeats 4000000 in
theorem x_fM_takesTest {l : Launch} {S : State} {D : va_G} {cA : Nat → ClassId} {tb sx : Nat → Nat} (hG : zv_G S D cA tb sx) (d : Nat) (hd : 4 ≤ d) (m : zv_M) (P : Int32 → zv_M → Prop) (h : zw2 (fM_takesTest m) P) : zv_Met l S D cA d 0 0 yX11_takesTest cX11_takesTest 3 (some .boolean) [.ref (S.heap.size + 68)] SH0 m (zq_i SH0 P) := by
  refine zv_met false hG pf_X11_takesTest (fun z => by cases z) (Nat.le_of_ble_eq_true rfl) [(0, .ref (S.heap.size + 68))] rfl (fun p e s mi args below meth c X => ?_)
  rw [fM_takesTest] at h
  refine zr_aload_n X dX11_takesTest_0 0 rfl ?_
  refine zr_aload_n X dX11_takesTest_1 0 rfl ?_
  refine zr_callV_i (As := []) (st := [.ref (S.heap.size + 68)]) (d := d - 1) X dX11_takesTest_2 wm_X11_249 my_X11_next mv_X11_next zo_68 rfl (Nat.le_of_ble_eq_true rfl) (zRm (by omega)) ⟨Nat.le_refl _, Nat.le_refl _⟩ (x_fM_next hG (d - 1) (by omega) m _ (zw_b12 h)) (fun r1 m2 q => ?_)
  obtain ⟨rfl, h⟩ := q
  refine zr_callV_i (As := [.int r1]) (st := []) (d := d - 1) X dX11_takesTest_5 wm_X11_267 my_X11_place mv_X11_place zo_68 rfl (Nat.le_of_ble_eq_true rfl) (zRm (by omega)) ⟨Nat.le_refl _, Nat.le_refl _⟩ (x_fM_place hG (d - 1) (by omega) r1 m _ (zw_b12 h)) (fun r3 m4 q => ?_)
  obtain ⟨rfl, h⟩ := q
  refine zr_istore_n (lo' := [(1, .int r3), (0, .ref (S.heap.size + 68))]) X dX11_takesTest_8 (by decide) rfl ?_
  refine zr_iload_n X dX11_takesTest_9 0 rfl ?_
  refine zr_if_ge (tgt := 15) X dX11_takesTest_10 (by decide) (fun q => ?_) (fun q => ?_)
  · rw [if_neg q] at h
    refine zr_aload_n X dX11_takesTest_15 1 rfl ?_
    refine zr_dup X dX11_takesTest_16 rfl ?_
    refine zr_getI X dX11_takesTest_17 zd_X11_48 rfl zo_68 (by rw [zk_11 zo_68]; decide) ?_
    refine zr_iconst (v := 1) X dX11_takesTest_20 (by decide) ?_
    refine zr_iadd X dX11_takesTest_21 ?_
    refine zr_put X dX11_takesTest_22 zd_X11_48 rfl rfl rfl zo_68 (by rw [zk_11 zo_68]; decide) ?_
    refine zr_aload_n X dX11_takesTest_25 1 rfl ?_
    refine zr_callV_i (As := []) (st := []) (d := d - 1) X dX11_takesTest_26 wm_X11_249 my_X11_next mv_X11_next zo_68 rfl (Nat.le_of_ble_eq_true rfl) (zRm (by omega)) ⟨Nat.le_refl _, Nat.le_refl _⟩ (x_fM_next hG (d - 1) (by omega) (wI m 68 12 ((m.1 68 12) + 1)) _ (zw_b12 h)) (fun r5 m6 q => ?_)
    obtain ⟨rfl, h⟩ := q
    refine zr_istore_n (lo' := [(2, .int r5), (1, .int r3), (0, .ref (S.heap.size + 68))]) X dX11_takesTest_29 (by decide) rfl ?_
    refine zr_aload_n X dX11_takesTest_30 2 rfl ?_
    refine zr_iload_n X dX11_takesTest_31 0 rfl ?_
    refine zr_bipush (v := 60) X dX11_takesTest_32 (by decide) ?_
    refine zr_bipush (v := 62) X dX11_takesTest_34 (by decide) ?_
    refine zr_callV_i (As := [.int r5, .int 60, .int 62]) (st := []) (d := d - 1) X dX11_takesTest_36 wm_X11_230 my_X11_in mv_X11_in zo_68 rfl (Nat.le_of_ble_eq_true rfl) (zRm (by omega)) ⟨Nat.le_refl _, Nat.le_refl _⟩ (x_fM_in hG (d - 1) (by omega) r5 60 62 (wI m 68 12 ((m.1 68 12) + 1)) _ (zw_b12 h)) (fun r7 m8 q => ?_)
    obtain ⟨rfl, h⟩ := q
    refine zr_if_ne (tgt := 44) X dX11_takesTest_39 (by decide) (fun q => ?_) (fun q => ?_)
    · rw [if_neg q] at h
      refine zr_aload_n X dX11_takesTest_44 2 rfl ?_
      refine zr_dup X dX11_takesTest_45 rfl ?_
      refine zr_getI X dX11_takesTest_46 zd_X11_48 rfl zo_68 (by rw [zk_11 zo_68]; decide) ?_
      refine zr_iconst (v := 1) X dX11_takesTest_49 (by decide) ?_
      refine zr_iadd X dX11_takesTest_50 ?_
      refine zr_put X dX11_takesTest_51 zd_X11_48 rfl rfl rfl zo_68 (by rw [zk_11 zo_68]; decide) ?_
      refine zr_aload_n X dX11_takesTest_54 2 rfl ?_
      refine zr_callV_i (As := []) (st := []) (d := d - 1) X dX11_takesTest_55 wm_X11_270 my_X11_takesNumber mv_X11_takesNumber zo_68 rfl (Nat.le_of_ble_eq_true rfl) (zRm (by omega)) ⟨Nat.le_refl _, Nat.le_refl _⟩ (x_fM_takesNumber hG (d - 1) (by omega) (wI (wI m 68 12 ((m.1 68 12) + 1)) 68 12 (((wI m 68 12 ((m.1 68 12) + 1)).1 68 12) + 1)) _ (zw_b22 h)) (fun r9 m10 q => ?_)
      replace h := q
      refine zr_if_ne (tgt := 63) X dX11_takesTest_58 (by decide) (fun q => ?_) (fun q => ?_)
      · rw [if_neg q] at h
        refine zr_aload_n X dX11_takesTest_63 2 rfl ?_
        refine zr_sipush (v := 1000) X dX11_takesTest_64 (by decide) ?_
        refine zr_iload_n X dX11_takesTest_67 1 rfl ?_
        refine zr_imul X dX11_takesTest_68 ?_
        refine zr_bipush (v := 100) X dX11_takesTest_69 (by decide) ?_
        refine zr_iload_n X dX11_takesTest_71 0 rfl ?_
        refine zr_bipush (v := 60) X dX11_takesTest_72 (by decide) ?_
        refine zr_isub X dX11_takesTest_74 ?_
        refine zr_imul X dX11_takesTest_75 ?_
        refine zr_iadd X dX11_takesTest_76 ?_
        refine zr_aload_n X dX11_takesTest_77 2 rfl ?_
        refine zr_getI X dX11_takesTest_78 zd_X11_51 rfl zo_68 (by rw [zk_11 zo_68]; decide) ?_
        refine zr_iadd X dX11_takesTest_81 ?_
        refine zr_callV_v (As := [.int (((1000 * r3) + (100 * (r5 - 60))) + (m10.1 68 13))]) (st := []) (d := d - 1) X dX11_takesTest_82 wm_X11_263 my_X11_emits mv_X11_emits zo_68 rfl (Nat.le_of_ble_eq_true rfl) (zRm (by omega)) ⟨Nat.le_refl _, Nat.le_refl _⟩ (x_fM_emits hG (d - 1) (by omega) (((1000 * r3) + (100 * (r5 - 60))) + (m10.1 68 13)) m10 _ (zw_b12 h)) (fun m11 q => ?_)
        replace h := q
        refine zr_aload_n X dX11_takesTest_85 2 rfl ?_
        refine zr_callV_v (As := []) (st := []) (d := d - 1) X dX11_takesTest_86 wm_X11_273 my_X11_whole mv_X11_whole zo_68 rfl (Nat.le_of_ble_eq_true rfl) (zRm (by omega)) ⟨Nat.le_refl _, Nat.le_refl _⟩ (x_fM_whole hG (d - 1) (by omega) m11 _ (zw_b12 h)) (fun m12 q => ?_)
        replace h := q
        refine zr_iconst (v := 1) X dX11_takesTest_89 (by decide) ?_
        exact zr_iret X dX11_takesTest_90 rfl ⟨Nat.le_refl _, Nat.le_refl _⟩ ⟨rfl, _, rfl, h⟩
      · rw [if_pos q] at h
        refine zr_iconst (v := 0) X dX11_takesTest_61 (by decide) ?_
        exact zr_iret X dX11_takesTest_62 rfl ⟨Nat.le_refl _, Nat.le_refl _⟩ ⟨rfl, _, rfl, h⟩
    · rw [if_pos q] at h
      refine zr_iconst (v := 0) X dX11_takesTest_42 (by decide) ?_
      exact zr_iret X dX11_takesTest_43 rfl ⟨Nat.le_refl _, Nat.le_refl _⟩ ⟨rfl, _, rfl, h⟩
  · rw [if_pos q] at h
    refine zr_iconst (v := 0) X dX11_takesTest_13 (by decide) ?_
    exact zr_iret X dX11_takesTest_14 rfl ⟨Nat.le_refl _, Nat.le_refl _⟩ ⟨rfl, _, rfl, h⟩

set_option maxRecDepth 100000 in
set_option maxHeartbeats 4000000 in
theorem x_fM_takesE {l : Launch} {S : State} {D : va_G} {cA : Nat → ClassId} {tb sx : Nat → Nat} (hG : zv_G S D cA tb sx) (d : Nat) (hd : 5 ≤ d) (p1 : Int32) (m : zv_M) (P : Int32 → zv_M → Prop) (h : zw2 (fM_takesE p1 m) P) : zv_Met l S D cA d 0 0 yX11_takesE cX11_takesE 4 (some .boolean) [.ref (S.heap.size + 68), .int p1] SH0 m (zq_i SH0 P) := by
  refine zv_met false hG pf_X11_takesE (fun z => by cases z) (Nat.le_of_ble_eq_true rfl) [(0, .ref (S.heap.size + 68)), (1, .int p1)] rfl (fun p e s mi args below meth c X => ?_)
  rw [fM_takesE] at h
  refine zr_aload_n X dX11_takesE_0 0 rfl ?_
  refine zr_iconst (v := 0) X dX11_takesE_1 (by decide) ?_
  refine zr_put X dX11_takesE_2 zd_X11_81 rfl rfl rfl zo_68 (by rw [zk_11 zo_68]; decide) ?_
  refine zr_aload_n X dX11_takesE_5 0 rfl ?_
  refine zr_iconst (v := 0) X dX11_takesE_6 (by decide) ?_
  refine zr_put X dX11_takesE_7 zd_X11_84 rfl rfl rfl zo_68 (by rw [zk_11 zo_68]; decide) ?_
  refine zr_aload_n X dX11_takesE_10 0 rfl ?_
  refine zr_getR X dX11_takesE_11 zd_X11_66 rfl zo_68 zl_68_18 ?_
  refine zr_iload_n X dX11_takesE_14 1 rfl ?_
  refine zr_aload_n X dX11_takesE_15 0 rfl ?_
  refine zr_getI X dX11_takesE_16 zd_X11_78 rfl zo_68 (by rw [zk_11 zo_68]; decide) ?_
  obtain ⟨g0, h⟩ := zg_e2 h
  refine zr_iast X dX11_takesE_19 za_77 (zI_in g0) ?_
  refine zr_iconst (v := 1) X dX11_takesE_20 (by decide) ?_
  refine zr_istore_n (lo' := [(2, .int 1), (0, .ref (S.heap.size + 68)), (1, .int p1)]) X dX11_takesE_21 (by decide) rfl ?_
  refine zr_sub [1, 2, 0] rfl ?_
  refine zl_w2 (fun a2 m3 => zv_V S D cA p l e (zv_rm d 0 0) s mi args below meth c 4 (MQ below (zv_Q S D cA (zq_i SH0 P)) args s 0 0 (zv_fr S)) 0 0 22 [(0, .ref (S.heap.size + 68)), (1, .int p1), (2, .int a2)] [] SH0 m3) (fM_takesE_l22 p1) _ (fun P1 hl1 hr1 a2 m3 h => ?_) zFU 1 (wI (wI (wI m 68 23 0) 68 24 0) 77 p1.toNatClampNeg ((wI (wI m 68 23 0) 68 24 0).1 68 22)) (zw_b12 h)
  rw [fM_takesE_l22] at h
  refine zr_aload_n X dX11_takesE_22 0 rfl ?_
  refine zr_callV_i (As := []) (st := []) (d := d - 1) X dX11_takesE_23 wm_X11_249 my_X11_next mv_X11_next zo_68 rfl (Nat.le_of_ble_eq_true rfl) (zRm (by omega)) ⟨Nat.le_refl _, Nat.le_refl _⟩ (x_fM_next hG (d - 1) (by omega) m3 _ (zw_b1 h)) (fun r4 m5 q => ?_)
  obtain ⟨rfl, h⟩ := q
  refine zr_istore_n (lo' := [(3, .int r4), (0, .ref (S.heap.size + 68)), (1, .int p1), (2, .int a2)]) X dX11_takesE_26 (by decide) rfl ?_
  refine zr_iload_n X dX11_takesE_27 3 rfl ?_
  refine zr_if_eq (tgt := 110) X dX11_takesE_28 (by decide) (fun q => ?_) (fun q => ?_)
  · rw [if_pos q] at h
    refine zr_iload_n X dX11_takesE_110 0 rfl ?_
    refine zr_bipush (v := 38) X dX11_takesE_111 (by decide) ?_
    have hJ122 : zw (fM_takesE_j122 m3 r4) P1 → zv_V S D cA p l e (zv_rm d 0 0) s mi args below meth c 4 (MQ below (zv_Q S D cA (zq_i SH0 P)) args s 0 0 (zv_fr S)) 0 0 122 [(0, .ref (S.heap.size + 68)), (1, .int p1), (3, .int r4)] [] SH0 m3 := by
      intro h
      rw [fM_takesE_j122] at h
      refine zr_aload_n X dX11_takesE_122 0 rfl ?_
      refine zr_iload_n X dX11_takesE_123 2 rfl ?_
      refine zr_callV_v (As := [.int r4]) (st := []) (d := d - 1) X dX11_takesE_124 wm_X11_279 my_X11_settle mv_X11_settle zo_68 rfl (Nat.le_of_ble_eq_true rfl) (zRm (by omega)) ⟨Nat.le_refl _, Nat.le_refl _⟩ (x_fM_settle hG (d - 1) (by omega) r4 m3 _ (zw_b1 h)) (fun m6 q => ?_)
      replace h := q
      refine zr_aload_n X dX11_takesE_127 0 rfl ?_
      refine zr_getR X dX11_takesE_128 zd_X11_75 rfl zo_68 zl_68_21 ?_
      refine zr_aload_n X dX11_takesE_131 0 rfl ?_
      refine zr_getI X dX11_takesE_132 zd_X11_81 rfl zo_68 (by rw [zk_11 zo_68]; decide) ?_
      refine zr_iload_n X dX11_takesE_135 2 rfl ?_
      obtain ⟨g0, h⟩ := zg_e h
      refine zr_iast X dX11_takesE_136 za_80 (zI_in g0) ?_
      refine zr_aload_n X dX11_takesE_137 0 rfl ?_
      refine zr_dup X dX11_takesE_138 rfl ?_
      refine zr_getI X dX11_takesE_139 zd_X11_81 rfl zo_68 (by rw [zk_11 zo_68]; decide) ?_
      refine zr_iconst (v := 1) X dX11_takesE_142 (by decide) ?_
      refine zr_iadd X dX11_takesE_143 ?_
      refine zr_put X dX11_takesE_144 zd_X11_81 rfl rfl rfl zo_68 (by rw [zk_11 zo_68]; decide) ?_
      refine zr_iconst (v := 1) X dX11_takesE_147 (by decide) ?_
      refine zr_istore_n (lo' := [(2, .int 1), (0, .ref (S.heap.size + 68)), (1, .int p1), (3, .int r4)]) X dX11_takesE_148 (by decide) rfl ?_
      refine zr_aload_n X dX11_takesE_149 1 rfl ?_
      refine zr_dup X dX11_takesE_150 rfl ?_
      refine zr_getI X dX11_takesE_151 zd_X11_48 rfl zo_68 (by rw [zk_11 zo_68]; decide) ?_
      refine zr_iconst (v := 1) X dX11_takesE_154 (by decide) ?_
      refine zr_iadd X dX11_takesE_155 ?_
      refine zr_put X dX11_takesE_156 zd_X11_48 rfl rfl rfl zo_68 (by rw [zk_11 zo_68]; decide) ?_
      refine zr_goto (tgt := 22) X dX11_takesE_159 (by decide) ?_
      have h := hl1 _ h
      exact zr_sub [1, 2, 0] rfl h
    refine zr_icmp_eq (tgt := 122) X dX11_takesE_113 (by decide) (fun q => ?_) (fun q => ?_)
    · rw [if_pos q] at h
      exact zr_sub [1, 2, 0] rfl (hJ122 h)
    · rw [if_neg q] at h
      refine zr_iload_n X dX11_takesE_116 0 rfl ?_
      refine zr_bipush (v := 124) X dX11_takesE_117 (by decide) ?_
      refine zr_icmp_ne (tgt := 162) X dX11_takesE_119 (by decide) (fun q => ?_) (fun q => ?_)
      · rw [if_neg q] at h
        refine zr_aload_n X dX11_takesE_162 1 rfl ?_
        refine zr_bipush (v := 124) X dX11_takesE_163 (by decide) ?_
        refine zr_callV_v (As := [.int 124]) (st := []) (d := d - 1) X dX11_takesE_165 wm_X11_279 my_X11_settle mv_X11_settle zo_68 rfl (Nat.le_of_ble_eq_true rfl) (zRm (by omega)) ⟨Nat.le_refl _, Nat.le_refl _⟩ (x_fM_settle hG (d - 1) (by omega) 124 m3 _ (zw_b1 h)) (fun m7 q => ?_)
        replace h := q
        refine zr_aload_n X dX11_takesE_168 1 rfl ?_
        refine zr_getR X dX11_takesE_169 zd_X11_69 rfl zo_68 zl_68_19 ?_
        refine zr_iload_n X dX11_takesE_172 2 rfl ?_
        refine zr_aload_n X dX11_takesE_173 1 rfl ?_
        refine zr_getI X dX11_takesE_174 zd_X11_78 rfl zo_68 (by rw [zk_11 zo_68]; decide) ?_
        obtain ⟨g0, h⟩ := zg_e h
        refine zr_iast X dX11_takesE_177 za_78 (zI_in g0) ?_
        refine zr_aload_n X dX11_takesE_178 1 rfl ?_
        refine zr_getI X dX11_takesE_179 zd_X11_81 rfl zo_68 (by rw [zk_11 zo_68]; decide) ?_
        refine zr_if_ne (tgt := 187) X dX11_takesE_182 (by decide) (fun q => ?_) (fun q => ?_)
        · rw [if_neg q] at h
          refine zr_iload_n X dX11_takesE_187 0 rfl ?_
          refine zr_bipush (v := 41) X dX11_takesE_188 (by decide) ?_
          refine zr_icmp_eq (tgt := 195) X dX11_takesE_190 (by decide) (fun q => ?_) (fun q => ?_)
          · rw [if_pos q] at h
            refine zr_aload_n X dX11_takesE_195 1 rfl ?_
            refine zr_dup X dX11_takesE_196 rfl ?_
            refine zr_getI X dX11_takesE_197 zd_X11_81 rfl zo_68 (by rw [zk_11 zo_68]; decide) ?_
            refine zr_iconst (v := 1) X dX11_takesE_200 (by decide) ?_
            refine zr_isub X dX11_takesE_201 ?_
            refine zr_put X dX11_takesE_202 zd_X11_81 rfl rfl rfl zo_68 (by rw [zk_11 zo_68]; decide) ?_
            refine zr_aload_n X dX11_takesE_205 1 rfl ?_
            refine zr_dup X dX11_takesE_206 rfl ?_
            refine zr_getI X dX11_takesE_207 zd_X11_84 rfl zo_68 (by rw [zk_11 zo_68]; decide) ?_
            refine zr_iconst (v := 1) X dX11_takesE_210 (by decide) ?_
            refine zr_isub X dX11_takesE_211 ?_
            refine zr_put X dX11_takesE_212 zd_X11_84 rfl rfl rfl zo_68 (by rw [zk_11 zo_68]; decide) ?_
            refine zr_aload_n X dX11_takesE_215 1 rfl ?_
            refine zr_dup X dX11_takesE_216 rfl ?_
            refine zr_getI X dX11_takesE_217 zd_X11_48 rfl zo_68 (by rw [zk_11 zo_68]; decide) ?_
            refine zr_iconst (v := 1) X dX11_takesE_220 (by decide) ?_
            refine zr_iadd X dX11_takesE_221 ?_
            refine zr_put X dX11_takesE_222 zd_X11_48 rfl rfl rfl zo_68 (by rw [zk_11 zo_68]; decide) ?_
            refine zr_aload_n X dX11_takesE_225 1 rfl ?_
            refine zr_callV_v (As := []) (st := []) (d := d - 1) X dX11_takesE_226 wm_X11_273 my_X11_whole mv_X11_whole zo_68 rfl (Nat.le_of_ble_eq_true rfl) (zRm (by omega)) ⟨Nat.le_refl _, Nat.le_refl _⟩ (x_fM_whole hG (d - 1) (by omega) (wI (wI (wI (wI m7 78 p1.toNatClampNeg (m7.1 68 22)) 68 23 (((wI m7 78 p1.toNatClampNeg (m7.1 68 22)).1 68 23) - 1)) 68 24 (((wI (wI m7 78 p1.toNatClampNeg (m7.1 68 22)) 68 23 (((wI m7 78 p1.toNatClampNeg (m7.1 68 22)).1 68 23) - 1)).1 68 24) - 1)) 68 12 (((wI (wI (wI m7 78 p1.toNatClampNeg (m7.1 68 22)) 68 23 (((wI m7 78 p1.toNatClampNeg (m7.1 68 22)).1 68 23) - 1)) 68 24 (((wI (wI m7 78 p1.toNatClampNeg (m7.1 68 22)) 68 23 (((wI m7 78 p1.toNatClampNeg (m7.1 68 22)).1 68 23) - 1)).1 68 24) - 1)).1 68 12) + 1)) _ (zw_b1 h)) (fun m8 q => ?_)
            replace h := q
            refine zr_goto (tgt := 22) X dX11_takesE_229 (by decide) ?_
            have h := hl1 _ h
            exact zr_sub [1, 2, 3] rfl h
          · rw [if_neg q] at h
            refine zr_iconst (v := 0) X dX11_takesE_193 (by decide) ?_
            have h := hr1 _ h
            exact zr_iret X dX11_takesE_194 rfl ⟨Nat.le_refl _, Nat.le_refl _⟩ ⟨rfl, _, rfl, h⟩
        · rw [if_pos q] at h
          refine zr_iconst (v := 1) X dX11_takesE_185 (by decide) ?_
          have h := hr1 _ h
          exact zr_iret X dX11_takesE_186 rfl ⟨Nat.le_refl _, Nat.le_refl _⟩ ⟨rfl, _, rfl, h⟩
      · rw [if_pos q] at h
        exact zr_sub [1, 2, 0] rfl (hJ122 h)
  · rw [if_neg q] at h
    refine zr_iload_n X dX11_takesE_31 0 rfl ?_
    refine zr_bipush (v := 33) X dX11_takesE_32 (by decide) ?_
    have hJ43 : zw (fM_takesE_j43 a2 m3 r4) P1 → zv_V S D cA p l e (zv_rm d 0 0) s mi args below meth c 4 (MQ below (zv_Q S D cA (zq_i SH0 P)) args s 0 0 (zv_fr S)) 0 0 43 [(0, .ref (S.heap.size + 68)), (1, .int p1), (2, .int a2), (3, .int r4)] [] SH0 m3 := by
      intro h
      rw [fM_takesE_j43] at h
      refine zr_aload_n X dX11_takesE_43 0 rfl ?_
      refine zr_getI X dX11_takesE_44 zd_X11_84 rfl zo_68 (by rw [zk_11 zo_68]; decide) ?_
      refine zr_iconst (v := 4) X dX11_takesE_47 (by decide) ?_
      refine zr_icmp_ne (tgt := 53) X dX11_takesE_48 (by decide) (fun q => ?_) (fun q => ?_)
      · rw [if_neg q] at h
        refine zr_aload_n X dX11_takesE_53 0 rfl ?_
        refine zr_dup X dX11_takesE_54 rfl ?_
        refine zr_getI X dX11_takesE_55 zd_X11_84 rfl zo_68 (by rw [zk_11 zo_68]; decide) ?_
        refine zr_iconst (v := 1) X dX11_takesE_58 (by decide) ?_
        refine zr_iadd X dX11_takesE_59 ?_
        refine zr_put X dX11_takesE_60 zd_X11_84 rfl rfl rfl zo_68 (by rw [zk_11 zo_68]; decide) ?_
        refine zr_aload_n X dX11_takesE_63 0 rfl ?_
        refine zr_getR X dX11_takesE_64 zd_X11_75 rfl zo_68 zl_68_21 ?_
        refine zr_aload_n X dX11_takesE_67 0 rfl ?_
        refine zr_getI X dX11_takesE_68 zd_X11_81 rfl zo_68 (by rw [zk_11 zo_68]; decide) ?_
        refine zr_iload_n X dX11_takesE_71 3 rfl ?_
        obtain ⟨g0, h⟩ := zg_e h
        refine zr_iast X dX11_takesE_72 za_80 (zI_in g0) ?_
        refine zr_aload_n X dX11_takesE_73 0 rfl ?_
        refine zr_dup X dX11_takesE_74 rfl ?_
        refine zr_getI X dX11_takesE_75 zd_X11_81 rfl zo_68 (by rw [zk_11 zo_68]; decide) ?_
        refine zr_iconst (v := 1) X dX11_takesE_78 (by decide) ?_
        refine zr_iadd X dX11_takesE_79 ?_
        refine zr_put X dX11_takesE_80 zd_X11_81 rfl rfl rfl zo_68 (by rw [zk_11 zo_68]; decide) ?_
        refine zr_aload_n X dX11_takesE_83 0 rfl ?_
        refine zr_dup X dX11_takesE_84 rfl ?_
        refine zr_getI X dX11_takesE_85 zd_X11_48 rfl zo_68 (by rw [zk_11 zo_68]; decide) ?_
        refine zr_iconst (v := 1) X dX11_takesE_88 (by decide) ?_
        refine zr_iadd X dX11_takesE_89 ?_
        refine zr_put X dX11_takesE_90 zd_X11_48 rfl rfl rfl zo_68 (by rw [zk_11 zo_68]; decide) ?_
        refine zr_goto (tgt := 22) X dX11_takesE_93 (by decide) ?_
        have h := hl1 _ h
        exact zr_sub [0, 1, 2] rfl h
      · rw [if_pos q] at h
        refine zr_iconst (v := 0) X dX11_takesE_51 (by decide) ?_
        have h := hr1 _ h
        exact zr_iret X dX11_takesE_52 rfl ⟨Nat.le_refl _, Nat.le_refl _⟩ ⟨rfl, _, rfl, h⟩
    refine zr_icmp_eq (tgt := 43) X dX11_takesE_34 (by decide) (fun q => ?_) (fun q => ?_)
    · rw [if_pos q] at h
      exact zr_sub [1, 2, 3, 0] rfl (hJ43 h)
    · rw [if_neg q] at h
      refine zr_iload_n X dX11_takesE_37 0 rfl ?_
      refine zr_bipush (v := 40) X dX11_takesE_38 (by decide) ?_
      refine zr_icmp_ne (tgt := 96) X dX11_takesE_40 (by decide) (fun q => ?_) (fun q => ?_)
      · rw [if_neg q] at h
        refine zr_aload_n X dX11_takesE_96 1 rfl ?_
        refine zr_callV_i (As := []) (st := []) (d := d - 1) X dX11_takesE_97 wm_X11_276 my_X11_takesTest mv_X11_takesTest zo_68 rfl (Nat.le_of_ble_eq_true rfl) (zRm (by omega)) ⟨Nat.le_refl _, Nat.le_refl _⟩ (x_fM_takesTest hG (d - 1) (by omega) m3 _ (zw_b2 h)) (fun r9 m10 q => ?_)
        replace h := q
        refine zr_if_eq (tgt := 108) X dX11_takesE_100 (by decide) (fun q => ?_) (fun q => ?_)
        · rw [if_pos q] at h
          refine zr_iconst (v := 0) X dX11_takesE_108 (by decide) ?_
          have h := hr1 _ h
          exact zr_iret X dX11_takesE_109 rfl ⟨Nat.le_refl _, Nat.le_refl _⟩ ⟨rfl, _, rfl, h⟩
        · rw [if_neg q] at h
          refine zr_iconst (v := 0) X dX11_takesE_103 (by decide) ?_
          refine zr_istore_n (lo' := [(2, .int 0), (3, .int r4), (0, .ref (S.heap.size + 68)), (1, .int p1)]) X dX11_takesE_104 (by decide) rfl ?_
          refine zr_goto (tgt := 22) X dX11_takesE_105 (by decide) ?_
          have h := hl1 _ h
          exact zr_sub [2, 3, 0] rfl h
      · rw [if_pos q] at h
        exact zr_sub [1, 2, 3, 0] rfl (hJ43 h)

set_option maxRecDepth 100000 in
set_option maxHeartbeats 4000000 in
theorem x_fM_takesHead {l : Launch} {S : State} {D : va_G} {cA : Nat → ClassId} {tb sx : Nat → Nat} (hG : zv_G S D cA tb sx) (d : Nat) (hd : 5 ≤ d) (p1 : Int32) (m : zv_M) (P : Int32 → zv_M → Prop) (h : zw2 (fM_takesHead p1 m) P) : zv_Met l S D cA d 0 0 yX11_takesHead cX11_takesHead 2 (some .boolean) [.ref (S.heap.size + 68), .int p1] SH0 m (zq_i SH0 P) := by
  refine zv_met false hG pf_X11_takesHead (fun z => by cases z) (Nat.le_of_ble_eq_true rfl) [(0, .ref (S.heap.size + 68)), (1, .int p1)] rfl (fun p e s mi args below meth c X => ?_)
  rw [fM_takesHead] at h
  refine zr_aload_n X dX11_takesHead_0 0 rfl ?_
  refine zr_callV_i (As := []) (st := []) (d := d - 1) X dX11_takesHead_1 wm_X11_249 my_X11_next mv_X11_next zo_68 rfl (Nat.le_of_ble_eq_true rfl) (zRm (by omega)) ⟨Nat.le_refl _, Nat.le_refl _⟩ (x_fM_next hG (d - 1) (by omega) m _ (zw_b12 h)) (fun r1 m2 q => ?_)
  obtain ⟨rfl, h⟩ := q
  by_cases e0 : r1 = 98
  · rw [if_pos e0] at h
    refine zr_lookup (off := 72) (tgt := 76) X dX11_takesHead_4 (by decide) (by rw [e0]; decide) (by decide) ?_
    refine zr_aload_n X dX11_takesHead_76 0 rfl ?_
    refine zr_getR X dX11_takesHead_77 zd_X11_60 rfl zo_68 zl_68_16 ?_
    refine zr_iload_n X dX11_takesHead_80 1 rfl ?_
    refine zr_iconst (v := 2) X dX11_takesHead_81 (by decide) ?_
    obtain ⟨g0, h⟩ := zg_e2 h
    refine zr_iast X dX11_takesHead_82 za_75 (zI_in g0) ?_
    refine zr_aload_n X dX11_takesHead_83 0 rfl ?_
    refine zr_bipush (v := 8) X dX11_takesHead_84 (by decide) ?_
    refine zr_iconst (v := 3) X dX11_takesHead_86 (by decide) ?_
    refine zr_callV_i (As := [.int 8, .int 3]) (st := []) (d := d - 1) X dX11_takesHead_87 wm_X11_282 my_X11_takesWord mv_X11_takesWord zo_68 rfl (Nat.le_of_ble_eq_true rfl) (zRm (by omega)) ⟨Nat.le_refl _, Nat.le_refl _⟩ (x_fM_takesWord hG (d - 1) (by omega) 8 3 (wI m 75 p1.toNatClampNeg 2) _ (zw_b22 h)) (fun r3 m4 q => ?_)
    replace h := q
    obtain ⟨g0, h⟩ := zg_e2 h
    exact zr_iret X dX11_takesHead_90 (zB_n g0) ⟨Nat.le_refl _, Nat.le_refl _⟩ ⟨rfl, _, rfl, h⟩
  rw [if_neg e0] at h
  by_cases e1 : r1 = 104
  · rw [if_pos e1] at h
    refine zr_lookup (off := 58) (tgt := 62) X dX11_takesHead_4 (by decide) (by rw [e1]; decide) (by decide) ?_
    refine zr_aload_n X dX11_takesHead_62 0 rfl ?_
    refine zr_getR X dX11_takesHead_63 zd_X11_60 rfl zo_68 zl_68_16 ?_
    refine zr_iload_n X dX11_takesHead_66 1 rfl ?_
    refine zr_iconst (v := 1) X dX11_takesHead_67 (by decide) ?_
    obtain ⟨g0, h⟩ := zg_e2 h
    refine zr_iast X dX11_takesHead_68 za_75 (zI_in g0) ?_
    refine zr_aload_n X dX11_takesHead_69 0 rfl ?_
    refine zr_iconst (v := 4) X dX11_takesHead_70 (by decide) ?_
    refine zr_iconst (v := 4) X dX11_takesHead_71 (by decide) ?_
    refine zr_callV_i (As := [.int 4, .int 4]) (st := []) (d := d - 1) X dX11_takesHead_72 wm_X11_282 my_X11_takesWord mv_X11_takesWord zo_68 rfl (Nat.le_of_ble_eq_true rfl) (zRm (by omega)) ⟨Nat.le_refl _, Nat.le_refl _⟩ (x_fM_takesWord hG (d - 1) (by omega) 4 4 (wI m 75 p1.toNatClampNeg 1) _ (zw_b22 h)) (fun r5 m6 q => ?_)
    replace h := q
    obtain ⟨g0, h⟩ := zg_e2 h
    exact zr_iret X dX11_takesHead_75 (zB_n g0) ⟨Nat.le_refl _, Nat.le_refl _⟩ ⟨rfl, _, rfl, h⟩
  rw [if_neg e1] at h
  by_cases e2 : r1 = 114
  · rw [if_pos e2] at h
    refine zr_lookup (off := 87) (tgt := 91) X dX11_takesHead_4 (by decide) (by rw [e2]; decide) (by decide) ?_
    refine zr_aload_n X dX11_takesHead_91 0 rfl ?_
    refine zr_getR X dX11_takesHead_92 zd_X11_60 rfl zo_68 zl_68_16 ?_
    refine zr_iload_n X dX11_takesHead_95 1 rfl ?_
    refine zr_iconst (v := 3) X dX11_takesHead_96 (by decide) ?_
    obtain ⟨g0, h⟩ := zg_e2 h
    refine zr_iast X dX11_takesHead_97 za_75 (zI_in g0) ?_
    refine zr_aload_n X dX11_takesHead_98 0 rfl ?_
    refine zr_bipush (v := 11) X dX11_takesHead_99 (by decide) ?_
    refine zr_iconst (v := 5) X dX11_takesHead_101 (by decide) ?_
    refine zr_callV_i (As := [.int 11, .int 5]) (st := []) (d := d - 1) X dX11_takesHead_102 wm_X11_255 my_X11_takesAlone mv_X11_takesAlone zo_68 rfl (Nat.le_of_ble_eq_true rfl) (zRm (by omega)) ⟨Nat.le_refl _, Nat.le_refl _⟩ (x_fM_takesAlone hG (d - 1) (by omega) 11 5 (wI m 75 p1.toNatClampNeg 3) _ (zw_b22 h)) (fun r7 m8 q => ?_)
    replace h := q
    obtain ⟨g0, h⟩ := zg_e2 h
    exact zr_iret X dX11_takesHead_105 (zB_n g0) ⟨Nat.le_refl _, Nat.le_refl _⟩ ⟨rfl, _, rfl, h⟩
  rw [if_neg e2] at h
  by_cases e3 : r1 = 119
  · rw [if_pos e3] at h
    refine zr_lookup (off := 44) (tgt := 48) X dX11_takesHead_4 (by decide) (by rw [e3]; decide) (by decide) ?_
    refine zr_aload_n X dX11_takesHead_48 0 rfl ?_
    refine zr_getR X dX11_takesHead_49 zd_X11_60 rfl zo_68 zl_68_16 ?_
    refine zr_iload_n X dX11_takesHead_52 1 rfl ?_
    refine zr_iconst (v := 0) X dX11_takesHead_53 (by decide) ?_
    obtain ⟨g0, h⟩ := zg_e2 h
    refine zr_iast X dX11_takesHead_54 za_75 (zI_in g0) ?_
    refine zr_aload_n X dX11_takesHead_55 0 rfl ?_
    refine zr_iconst (v := 0) X dX11_takesHead_56 (by decide) ?_
    refine zr_iconst (v := 4) X dX11_takesHead_57 (by decide) ?_
    refine zr_callV_i (As := [.int 0, .int 4]) (st := []) (d := d - 1) X dX11_takesHead_58 wm_X11_282 my_X11_takesWord mv_X11_takesWord zo_68 rfl (Nat.le_of_ble_eq_true rfl) (zRm (by omega)) ⟨Nat.le_refl _, Nat.le_refl _⟩ (x_fM_takesWord hG (d - 1) (by omega) 0 4 (wI m 75 p1.toNatClampNeg 0) _ (zw_b22 h)) (fun r9 m10 q => ?_)
    replace h := q
    obtain ⟨g0, h⟩ := zg_e2 h
    exact zr_iret X dX11_takesHead_61 (zB_n g0) ⟨Nat.le_refl _, Nat.le_refl _⟩ ⟨rfl, _, rfl, h⟩
  rw [if_neg e3] at h
  refine zr_lookup (off := 102) (tgt := 106) X dX11_takesHead_4 (by decide) (by rw [lv_osw e0 (by decide), lv_osw e1 (by decide), lv_osw e2 (by decide), lv_osw e3 (by decide)]; rfl) (by decide) ?_
  refine zr_aload_n X dX11_takesHead_106 0 rfl ?_
  refine zr_getR X dX11_takesHead_107 zd_X11_60 rfl zo_68 zl_68_16 ?_
  refine zr_iload_n X dX11_takesHead_110 1 rfl ?_
  refine zr_iconst (v := 4) X dX11_takesHead_111 (by decide) ?_
  obtain ⟨g0, h⟩ := zg_e2 h
  refine zr_iast X dX11_takesHead_112 za_75 (zI_in g0) ?_
  refine zr_aload_n X dX11_takesHead_113 0 rfl ?_
  refine zr_bipush (v := 16) X dX11_takesHead_114 (by decide) ?_
  refine zr_iconst (v := 4) X dX11_takesHead_116 (by decide) ?_
  refine zr_callV_i (As := [.int 16, .int 4]) (st := []) (d := d - 1) X dX11_takesHead_117 wm_X11_255 my_X11_takesAlone mv_X11_takesAlone zo_68 rfl (Nat.le_of_ble_eq_true rfl) (zRm (by omega)) ⟨Nat.le_refl _, Nat.le_refl _⟩ (x_fM_takesAlone hG (d - 1) (by omega) 16 4 (wI m 75 p1.toNatClampNeg 4) _ (zw_b22 h)) (fun r11 m12 q => ?_)
  replace h := q
  obtain ⟨g0, h⟩ := zg_e2 h
  exact zr_iret X dX11_takesHead_120 (zB_n g0) ⟨Nat.le_refl _, Nat.le_refl _⟩ ⟨rfl, _, rfl, h⟩

set_option maxRecDepth 100000 in
set_option maxHeartbeats 4000000 in
theorem x_fM_takesClause {l : Launch} {S : State} {D : va_G} {cA : Nat → ClassId} {tb sx : Nat → Nat} (hG : zv_G S D cA tb sx) (d : Nat) (hd : 6 ≤ d) (p1 : Int32) (m : zv_M) (P : Int32 → zv_M → Prop) (h : zw2 (fM_takesClause p1 m) P) : zv_Met l S D cA d 0 0 yX11_takesClause cX11_takesClause 2 (some .boolean) [.ref (S.heap.size + 68), .int p1] SH0 m (zq_i SH0 P) := by
  refine zv_met false hG pf_X11_takesClause (fun z => by cases z) (Nat.le_of_ble_eq_true rfl) [(0, .ref (S.heap.size + 68)), (1, .int p1)] rfl (fun p e s mi args below meth c X => ?_)
  rw [fM_takesClause] at h
  refine zr_aload_n X dX11_takesClause_0 0 rfl ?_
  refine zr_iload_n X dX11_takesClause_1 1 rfl ?_
  refine zr_callV_i (As := [.int p1]) (st := []) (d := d - 1) X dX11_takesClause_2 wm_X11_285 my_X11_takesHead mv_X11_takesHead zo_68 rfl (Nat.le_of_ble_eq_true rfl) (zRm (by omega)) ⟨Nat.le_refl _, Nat.le_refl _⟩ (x_fM_takesHead hG (d - 1) (by omega) p1 m _ (zw_b22 h)) (fun r1 m2 q => ?_)
  replace h := q
  refine zr_if_ne (tgt := 10) X dX11_takesClause_5 (by decide) (fun q => ?_) (fun q => ?_)
  · rw [if_neg q] at h
    refine zr_aload_n X dX11_takesClause_10 0 rfl ?_
    refine zr_getR X dX11_takesClause_11 zd_X11_60 rfl zo_68 zl_68_16 ?_
    refine zr_iload_n X dX11_takesClause_14 1 rfl ?_
    obtain ⟨g0, h⟩ := zg_e2 h
    refine zr_iald X dX11_takesClause_15 za_75 (zI_in g0) ?_
    refine zr_iconst (v := 2) X dX11_takesClause_16 (by decide) ?_
    refine zr_icmp_le (tgt := 22) X dX11_takesClause_17 (by decide) (fun q => ?_) (fun q => ?_)
    · rw [if_neg q] at h
      refine zr_aload_n X dX11_takesClause_22 0 rfl ?_
      refine zr_getR X dX11_takesClause_23 zd_X11_60 rfl zo_68 zl_68_16 ?_
      refine zr_iload_n X dX11_takesClause_26 1 rfl ?_
      obtain ⟨g0, h⟩ := zg_e2 h
      refine zr_iald X dX11_takesClause_27 za_75 (zI_in g0) ?_
      refine zr_if_eq (tgt := 37) X dX11_takesClause_28 (by decide) (fun q => ?_) (fun q => ?_)
      · rw [if_pos q] at h
        refine zr_aload_n X dX11_takesClause_37 0 rfl ?_
        refine zr_callV_i (As := []) (st := []) (d := d - 1) X dX11_takesClause_38 wm_X11_270 my_X11_takesNumber mv_X11_takesNumber zo_68 rfl (Nat.le_of_ble_eq_true rfl) (zRm (by omega)) ⟨Nat.le_refl _, Nat.le_refl _⟩ (x_fM_takesNumber hG (d - 1) (by omega) m2 _ (zw_b22 h)) (fun r3 m4 q => ?_)
        replace h := q
        refine zr_if_ne (tgt := 46) X dX11_takesClause_41 (by decide) (fun q => ?_) (fun q => ?_)
        · rw [if_neg q] at h
          refine zr_aload_n X dX11_takesClause_46 0 rfl ?_
          refine zr_getR X dX11_takesClause_47 zd_X11_63 rfl zo_68 zl_68_17 ?_
          refine zr_iload_n X dX11_takesClause_50 1 rfl ?_
          refine zr_aload_n X dX11_takesClause_51 0 rfl ?_
          refine zr_getI X dX11_takesClause_52 zd_X11_51 rfl zo_68 (by rw [zk_11 zo_68]; decide) ?_
          obtain ⟨g0, h⟩ := zg_e2 h
          refine zr_iast X dX11_takesClause_55 za_76 (zI_in g0) ?_
          refine zr_iconst (v := 1) X dX11_takesClause_56 (by decide) ?_
          exact zr_iret X dX11_takesClause_57 rfl ⟨Nat.le_refl _, Nat.le_refl _⟩ ⟨rfl, _, rfl, h⟩
        · rw [if_pos q] at h
          refine zr_iconst (v := 0) X dX11_takesClause_44 (by decide) ?_
          exact zr_iret X dX11_takesClause_45 rfl ⟨Nat.le_refl _, Nat.le_refl _⟩ ⟨rfl, _, rfl, h⟩
      · rw [if_neg q] at h
        refine zr_aload_n X dX11_takesClause_31 0 rfl ?_
        refine zr_iload_n X dX11_takesClause_32 1 rfl ?_
        refine zr_callV_i (As := [.int p1]) (st := []) (d := d - 1) X dX11_takesClause_33 wm_X11_288 my_X11_takesE mv_X11_takesE zo_68 rfl (Nat.le_of_ble_eq_true rfl) (zRm (by omega)) ⟨Nat.le_refl _, Nat.le_refl _⟩ (x_fM_takesE hG (d - 1) (by omega) p1 m2 _ (zw_b22 h)) (fun r5 m6 q => ?_)
        replace h := q
        obtain ⟨g0, h⟩ := zg_e2 h
        exact zr_iret X dX11_takesClause_36 (zB_n g0) ⟨Nat.le_refl _, Nat.le_refl _⟩ ⟨rfl, _, rfl, h⟩
    · rw [if_pos q] at h
      refine zr_iconst (v := 1) X dX11_takesClause_20 (by decide) ?_
      exact zr_iret X dX11_takesClause_21 rfl ⟨Nat.le_refl _, Nat.le_refl _⟩ ⟨rfl, _, rfl, h⟩
  · rw [if_pos q] at h
    refine zr_iconst (v := 0) X dX11_takesClause_8 (by decide) ?_
    exact zr_iret X dX11_takesClause_9 rfl ⟨Nat.le_refl _, Nat.le_refl _⟩ ⟨rfl, _, rfl, h⟩

set_option maxRecDepth 100000 in
set_option maxHeartbeats 4000000 in
theorem x_fM_goesText {l : Launch} {S : State} {D : va_G} {cA : Nat → ClassId} {tb sx : Nat → Nat} (hG : zv_G S D cA tb sx) (d : Nat) (hd : 7 ≤ d) (p1 : Int32) (m : zv_M) (P : Int32 → zv_M → Prop) (h : zw2 (fM_goesText p1 m) P) : zv_Met l S D cA d 0 0 yX11_goesText cX11_goesText 3 (some .boolean) [.ref (S.heap.size + 68), .int p1] SH0 m (zq_i SH0 P) := by
  refine zv_met false hG pf_X11_goesText (fun z => by cases z) (Nat.le_of_ble_eq_true rfl) [(0, .ref (S.heap.size + 68)), (1, .int p1)] rfl (fun p e s mi args below meth c X => ?_)
  rw [fM_goesText] at h
  refine zr_aload_n X dX11_goesText_0 0 rfl ?_
  refine zr_iconst (v := 0) X dX11_goesText_1 (by decide) ?_
  refine zr_put X dX11_goesText_2 zd_X11_48 rfl rfl rfl zo_68 (by rw [zk_11 zo_68]; decide) ?_
  refine zr_aload_n X dX11_goesText_5 0 rfl ?_
  refine zr_bipush (v := 100) X dX11_goesText_6 (by decide) ?_
  refine zr_iload_n X dX11_goesText_8 1 rfl ?_
  refine zr_imul X dX11_goesText_9 ?_
  refine zr_put X dX11_goesText_10 zd_X11_78 rfl rfl rfl zo_68 (by rw [zk_11 zo_68]; decide) ?_
  refine zr_iconst (v := 0) X dX11_goesText_13 (by decide) ?_
  refine zr_istore_n (lo' := [(2, .int 0), (0, .ref (S.heap.size + 68)), (1, .int p1)]) X dX11_goesText_14 (by decide) rfl ?_
  refine zr_sub [1, 2, 0] rfl ?_
  refine zl_w2 (fun a2 m3 => zv_V S D cA p l e (zv_rm d 0 0) s mi args below meth c 3 (MQ below (zv_Q S D cA (zq_i SH0 P)) args s 0 0 (zv_fr S)) 0 0 15 [(0, .ref (S.heap.size + 68)), (1, .int p1), (2, .int a2)] [] SH0 m3) (fM_goesText_l15 p1) _ (fun P1 hl1 hr1 a2 m3 h => ?_) zFU 0 (wI (wI m 68 12 0) 68 22 (100 * p1)) (zw_b12 h)
  rw [fM_goesText_l15] at h
  refine zr_aload_n X dX11_goesText_15 0 rfl ?_
  refine zr_bipush (v := 10) X dX11_goesText_16 (by decide) ?_
  refine zr_iload_n X dX11_goesText_18 1 rfl ?_
  refine zr_imul X dX11_goesText_19 ?_
  refine zr_iload_n X dX11_goesText_20 2 rfl ?_
  refine zr_iadd X dX11_goesText_21 ?_
  refine zr_callV_i (As := [.int ((10 * p1) + a2)]) (st := []) (d := d - 1) X dX11_goesText_22 wm_X11_291 my_X11_takesClause mv_X11_takesClause zo_68 rfl (Nat.le_of_ble_eq_true rfl) (zRm (by omega)) ⟨Nat.le_refl _, Nat.le_refl _⟩ (x_fM_takesClause hG (d - 1) (by omega) ((10 * p1) + a2) m3 _ (zw_b2 h)) (fun r4 m5 q => ?_)
  replace h := q
  refine zr_if_ne (tgt := 30) X dX11_goesText_25 (by decide) (fun q => ?_) (fun q => ?_)
  · rw [if_neg q] at h
    refine zr_iinc (v := a2 + 1) (lo' := [(2, .int (a2 + 1)), (0, .ref (S.heap.size + 68)), (1, .int p1)]) X dX11_goesText_30 2 rfl rfl (by decide) rfl ?_
    refine zr_aload_n X dX11_goesText_33 1 rfl ?_
    refine zr_getR X dX11_goesText_34 zd_X11_57 rfl zo_68 zl_68_15 ?_
    refine zr_iload_n X dX11_goesText_37 2 rfl ?_
    refine zr_iload_n X dX11_goesText_38 0 rfl ?_
    obtain ⟨g0, h⟩ := zg_e h
    refine zr_iast X dX11_goesText_39 za_74 (zI_in g0) ?_
    refine zr_aload_n X dX11_goesText_40 1 rfl ?_
    refine zr_getI X dX11_goesText_41 zd_X11_48 rfl zo_68 (by rw [zk_11 zo_68]; decide) ?_
    refine zr_aload_n X dX11_goesText_44 1 rfl ?_
    refine zr_getI X dX11_goesText_45 zd_X11_45 rfl zo_68 (by rw [zk_11 zo_68]; decide) ?_
    refine zr_icmp_ne (tgt := 53) X dX11_goesText_48 (by decide) (fun q => ?_) (fun q => ?_)
    · rw [if_neg q] at h
      refine zr_iload_n X dX11_goesText_53 0 rfl ?_
      refine zr_bipush (v := 10) X dX11_goesText_54 (by decide) ?_
      refine zr_icmp_eq (tgt := 68) X dX11_goesText_56 (by decide) (fun q => ?_) (fun q => ?_)
      · rw [if_pos q] at h
        refine zr_iconst (v := 0) X dX11_goesText_68 (by decide) ?_
        have h := hr1 _ h
        exact zr_iret X dX11_goesText_69 rfl ⟨Nat.le_refl _, Nat.le_refl _⟩ ⟨rfl, _, rfl, h⟩
      · rw [if_neg q] at h
        refine zr_aload_n X dX11_goesText_59 1 rfl ?_
        refine zr_bipush (v := 59) X dX11_goesText_60 (by decide) ?_
        refine zr_callV_i (As := [.int 59]) (st := []) (d := d - 1) X dX11_goesText_62 wm_X11_252 my_X11_takes mv_X11_takes zo_68 rfl (Nat.le_of_ble_eq_true rfl) (zRm (by omega)) ⟨Nat.le_refl _, Nat.le_refl _⟩ (x_fM_takes hG (d - 1) (by omega) 59 (wI m5 74 p1.toNatClampNeg (a2 + 1)) _ (zw_b2 h)) (fun r6 m7 q => ?_)
        replace h := q
        refine zr_if_ne (tgt := 15) X dX11_goesText_65 (by decide) (fun q => ?_) (fun q => ?_)
        · rw [if_neg q] at h
          have h := hl1 _ h
          exact zr_sub [1, 2, 0] rfl h
        · rw [if_pos q] at h
          refine zr_iconst (v := 0) X dX11_goesText_68 (by decide) ?_
          have h := hr1 _ h
          exact zr_iret X dX11_goesText_69 rfl ⟨Nat.le_refl _, Nat.le_refl _⟩ ⟨rfl, _, rfl, h⟩
    · rw [if_pos q] at h
      refine zr_iconst (v := 1) X dX11_goesText_51 (by decide) ?_
      have h := hr1 _ h
      exact zr_iret X dX11_goesText_52 rfl ⟨Nat.le_refl _, Nat.le_refl _⟩ ⟨rfl, _, rfl, h⟩
  · rw [if_pos q] at h
    refine zr_iconst (v := 0) X dX11_goesText_28 (by decide) ?_
    have h := hr1 _ h
    exact zr_iret X dX11_goesText_29 rfl ⟨Nat.le_refl _, Nat.le_refl _⟩ ⟨rfl, _, rfl, h⟩

set_option maxRecDepth 100000 in
set_option maxHeartbeats 4000000 in
theorem x_fM_begin {l : Launch} {S : State} {D : va_G} {cA : Nat → ClassId} {tb sx : Nat → Nat} (hG : zv_G S D cA tb sx) (d : Nat) (hd : 1 ≤ d) (m : zv_M) (P : Int32 → Prop) (h : zw (fM_begin m) P) : zv_Met l S D cA d 0 0 yX11_begin cX11_begin 1 (some .int) [.ref (S.heap.size + 68)] SH0 m (zq_i SH0 (fun v m' => m = m' ∧ P v)) := by
  refine zv_met false hG pf_X11_begin (fun z => by cases z) (Nat.le_of_ble_eq_true rfl) [(0, .ref (S.heap.size + 68))] rfl (fun p e s mi args below meth c X => ?_)
  rw [fM_begin] at h
  refine zr_aload_n X dX11_begin_0 0 rfl ?_
  refine zr_getI X dX11_begin_1 zd_X11_42 rfl zo_68 (by rw [zk_11 zo_68]; decide) ?_
  refine zr_if_ge (tgt := 11) X dX11_begin_4 (by decide) (fun q => ?_) (fun q => ?_)
  · rw [if_neg q] at h
    refine zr_bipush (v := 10) X dX11_begin_11 (by decide) ?_
    refine zr_aload_n X dX11_begin_13 0 rfl ?_
    refine zr_getI X dX11_begin_14 zd_X11_42 rfl zo_68 (by rw [zk_11 zo_68]; decide) ?_
    refine zr_imul X dX11_begin_17 ?_
    exact zr_iret X dX11_begin_18 rfl ⟨Nat.le_refl _, Nat.le_refl _⟩ ⟨rfl, _, rfl, rfl, h⟩
  · rw [if_pos q] at h
    refine zr_iconst (v := 0) X dX11_begin_7 (by decide) ?_
    refine zr_goto (tgt := 18) X dX11_begin_8 (by decide) ?_
    exact zr_iret X dX11_begin_18 rfl ⟨Nat.le_refl _, Nat.le_refl _⟩ ⟨rfl, _, rfl, rfl, h⟩

set_option maxRecDepth 100000 in
set_option maxHeartbeats 4000000 in
theorem x_fM_behind {l : Launch} {S : State} {D : va_G} {cA : Nat → ClassId} {tb sx : Nat → Nat} (hG : zv_G S D cA tb sx) (d : Nat) (hd : 1 ≤ d) (m : zv_M) (P : Int32 → Prop) (h : zw (fM_behind m) P) : zv_Met l S D cA d 0 0 yX11_behind cX11_behind 1 (some .int) [.ref (S.heap.size + 68)] SH0 m (zq_i SH0 (fun v m' => m = m' ∧ P v)) := by
  refine zv_met false hG pf_X11_behind (fun z => by cases z) (Nat.le_of_ble_eq_true rfl) [(0, .ref (S.heap.size + 68))] rfl (fun p e s mi args below meth c X => ?_)
  rw [fM_behind] at h
  refine zr_aload_n X dX11_behind_0 0 rfl ?_
  refine zr_getI X dX11_behind_1 zd_X11_42 rfl zo_68 (by rw [zk_11 zo_68]; decide) ?_
  refine zr_if_ge (tgt := 11) X dX11_behind_4 (by decide) (fun q => ?_) (fun q => ?_)
  · rw [if_neg q] at h
    refine zr_bipush (v := 10) X dX11_behind_11 (by decide) ?_
    refine zr_aload_n X dX11_behind_13 0 rfl ?_
    refine zr_getI X dX11_behind_14 zd_X11_42 rfl zo_68 (by rw [zk_11 zo_68]; decide) ?_
    refine zr_imul X dX11_behind_17 ?_
    refine zr_aload_n X dX11_behind_18 0 rfl ?_
    refine zr_getR X dX11_behind_19 zd_X11_57 rfl zo_68 zl_68_15 ?_
    refine zr_aload_n X dX11_behind_22 0 rfl ?_
    refine zr_getI X dX11_behind_23 zd_X11_42 rfl zo_68 (by rw [zk_11 zo_68]; decide) ?_
    obtain ⟨g0, h⟩ := zg_e h
    refine zr_iald X dX11_behind_26 za_74 (zI_in g0) ?_
    refine zr_iadd X dX11_behind_27 ?_
    exact zr_iret X dX11_behind_28 rfl ⟨Nat.le_refl _, Nat.le_refl _⟩ ⟨rfl, _, rfl, rfl, h⟩
  · rw [if_pos q] at h
    refine zr_iconst (v := 0) X dX11_behind_7 (by decide) ?_
    refine zr_goto (tgt := 28) X dX11_behind_8 (by decide) ?_
    exact zr_iret X dX11_behind_28 rfl ⟨Nat.le_refl _, Nat.le_refl _⟩ ⟨rfl, _, rfl, rfl, h⟩

set_option maxRecDepth 100000 in
set_option maxHeartbeats 4000000 in
theorem x_fM_apart {l : Launch} {S : State} {D : va_G} {cA : Nat → ClassId} {tb sx : Nat → Nat} (hG : zv_G S D cA tb sx) (d : Nat) (hd : 1 ≤ d) (p1 : Int32) (p2 : Int32) (m : zv_M) (P : Int32 → Prop) (h : zw (fM_apart p1 p2) P) : zv_Met l S D cA d 0 0 yX11_apart cX11_apart 3 (some .int) [.ref (S.heap.size + 68), .int p1, .int p2] SH0 m (zq_i SH0 (fun v m' => m = m' ∧ P v)) := by
  refine zv_met false hG pf_X11_apart (fun z => by cases z) (Nat.le_of_ble_eq_true rfl) [(0, .ref (S.heap.size + 68)), (1, .int p1), (2, .int p2)] rfl (fun p e s mi args below meth c X => ?_)
  rw [fM_apart] at h
  refine zr_iload_n X dX11_apart_0 1 rfl ?_
  refine zr_iload_n X dX11_apart_1 2 rfl ?_
  refine zr_icmp_ge (tgt := 11) X dX11_apart_2 (by decide) (fun q => ?_) (fun q => ?_)
  · rw [if_neg q] at h
    refine zr_iload_n X dX11_apart_11 1 rfl ?_
    refine zr_iload_n X dX11_apart_12 2 rfl ?_
    refine zr_isub X dX11_apart_13 ?_
    exact zr_iret X dX11_apart_14 rfl ⟨Nat.le_refl _, Nat.le_refl _⟩ ⟨rfl, _, rfl, rfl, h⟩
  · rw [if_pos q] at h
    refine zr_iload_n X dX11_apart_5 2 rfl ?_
    refine zr_iload_n X dX11_apart_6 1 rfl ?_
    refine zr_isub X dX11_apart_7 ?_
    refine zr_goto (tgt := 14) X dX11_apart_8 (by decide) ?_
    exact zr_iret X dX11_apart_14 rfl ⟨Nat.le_refl _, Nat.le_refl _⟩ ⟨rfl, _, rfl, rfl, h⟩

set_option maxRecDepth 100000 in
set_option maxHeartbeats 4000000 in
theorem x_fM_factOf {l : Launch} {S : State} {D : va_G} {cA : Nat → ClassId} {tb sx : Nat → Nat} (hG : zv_G S D cA tb sx) (d : Nat) (hd : 2 ≤ d) (p1 : Int32) (p2 : Int32) (m : zv_M) (P : Int32 → Prop) (h : zw (fM_factOf p1 p2 m) P) : zv_Met l S D cA d 0 0 yX11_factOf cX11_factOf 5 (some .int) [.ref (S.heap.size + 68), .int p1, .int p2] SH0 m (zq_i SH0 (fun v m' => m = m' ∧ P v)) := by
  refine zv_met false hG pf_X11_factOf (fun z => by cases z) (Nat.le_of_ble_eq_true rfl) [(0, .ref (S.heap.size + 68)), (1, .int p1), (2, .int p2)] rfl (fun p e s mi args below meth c X => ?_)
  rw [fM_factOf] at h
  refine zr_iload_n X dX11_factOf_0 2 rfl ?_
  refine zr_aload_n X dX11_factOf_1 0 rfl ?_
  refine zr_getI X dX11_factOf_2 zd_X11_13 rfl zo_68 (by rw [zk_11 zo_68]; decide) ?_
  obtain ⟨g0, h⟩ := zg_e h
  refine zr_irem X dX11_factOf_5 (zN_ne g0) ?_
  refine zr_istore_n (lo' := [(3, .int (p2 - p2 / (m.1 68 1) * (m.1 68 1))), (0, .ref (S.heap.size + 68)), (1, .int p1), (2, .int p2)]) X dX11_factOf_6 (by decide) rfl ?_
  refine zr_iload_n X dX11_factOf_7 3 rfl ?_
  refine zr_aload_n X dX11_factOf_8 1 rfl ?_
  refine zr_getI X dX11_factOf_9 zd_X11_13 rfl zo_68 (by rw [zk_11 zo_68]; decide) ?_
  obtain ⟨g0, h⟩ := zg_e h
  refine zr_idiv X dX11_factOf_12 (zN_ne g0) ?_
  refine zr_istore (lo' := [(4, .int (p2 / (m.1 68 1))), (3, .int (p2 - p2 / (m.1 68 1) * (m.1 68 1))), (0, .ref (S.heap.size + 68)), (1, .int p1), (2, .int p2)]) X dX11_factOf_13 (by decide) rfl ?_
  refine zr_iload_n X dX11_factOf_15 3 rfl ?_
  by_cases e0 : p1 = 0
  · rw [if_pos e0] at h
    refine zr_tableIn (tgt := 52) X dX11_factOf_16 0 (by rw [e0]; decide) (by decide) (by decide) rfl (by decide) ?_
    refine zr_iload_n X dX11_factOf_52 1 rfl ?_
    exact zr_iret X dX11_factOf_53 rfl ⟨Nat.le_refl _, Nat.le_refl _⟩ ⟨rfl, _, rfl, rfl, h⟩
  rw [if_neg e0] at h
  by_cases e1 : p1 = 1
  · rw [if_pos e1] at h
    refine zr_tableIn (tgt := 54) X dX11_factOf_16 1 (by rw [e1]; decide) (by decide) (by decide) rfl (by decide) ?_
    refine zr_iload X dX11_factOf_54 0 rfl ?_
    exact zr_iret X dX11_factOf_56 rfl ⟨Nat.le_refl _, Nat.le_refl _⟩ ⟨rfl, _, rfl, rfl, h⟩
  rw [if_neg e1] at h
  by_cases e2 : p1 = 2
  · rw [if_pos e2] at h
    refine zr_tableIn (tgt := 57) X dX11_factOf_16 2 (by rw [e2]; decide) (by decide) (by decide) rfl (by decide) ?_
    refine zr_iload_n X dX11_factOf_57 1 rfl ?_
    refine zr_iload X dX11_factOf_58 0 rfl ?_
    refine zr_iadd X dX11_factOf_60 ?_
    exact zr_iret X dX11_factOf_61 rfl ⟨Nat.le_refl _, Nat.le_refl _⟩ ⟨rfl, _, rfl, rfl, h⟩
  rw [if_neg e2] at h
  by_cases e3 : p1 = 3
  · rw [if_pos e3] at h
    refine zr_tableIn (tgt := 62) X dX11_factOf_16 3 (by rw [e3]; decide) (by decide) (by decide) rfl (by decide) ?_
    refine zr_aload_n X dX11_factOf_62 2 rfl ?_
    refine zr_iload_n X dX11_factOf_63 1 rfl ?_
    refine zr_iload X dX11_factOf_64 0 rfl ?_
    refine zr_callV_i (As := [.int (p2 - p2 / (m.1 68 1) * (m.1 68 1)), .int (p2 / (m.1 68 1))]) (st := []) (d := d - 1) X dX11_factOf_66 wm_X11_300 my_X11_apart mv_X11_apart zo_68 rfl (Nat.le_of_ble_eq_true rfl) (zRm (by omega)) ⟨Nat.le_refl _, Nat.le_refl _⟩ (x_fM_apart hG (d - 1) (by omega) (p2 - p2 / (m.1 68 1) * (m.1 68 1)) (p2 / (m.1 68 1)) m _ (zw_b1 h)) (fun r1 m2 q => ?_)
    obtain ⟨rfl, h⟩ := q
    exact zr_iret X dX11_factOf_69 rfl ⟨Nat.le_refl _, Nat.le_refl _⟩ ⟨rfl, _, rfl, rfl, h⟩
  rw [if_neg e3] at h
  by_cases e4 : p1 = 4
  · rw [if_pos e4] at h
    refine zr_tableIn (tgt := 70) X dX11_factOf_16 4 (by rw [e4]; decide) (by decide) (by decide) rfl (by decide) ?_
    refine zr_iload_n X dX11_factOf_70 4 rfl ?_
    exact zr_iret X dX11_factOf_71 rfl ⟨Nat.le_refl _, Nat.le_refl _⟩ ⟨rfl, _, rfl, rfl, h⟩
  rw [if_neg e4] at h
  refine zr_tableOut (tgt := 72) X dX11_factOf_16 (by have ze0 := lv_neT e0 (by decide : (0 : Int32).toInt = 0); have ze1 := lv_neT e1 (by decide : (1 : Int32).toInt = 1); have ze2 := lv_neT e2 (by decide : (2 : Int32).toInt = 2); have ze3 := lv_neT e3 (by decide : (3 : Int32).toInt = 3); have ze4 := lv_neT e4 (by decide : (4 : Int32).toInt = 4); omega) (by decide) ?_
  refine zr_aload_n X dX11_factOf_72 2 rfl ?_
  refine zr_getI X dX11_factOf_73 zd_X11_13 rfl zo_68 (by rw [zk_11 zo_68]; decide) ?_
  exact zr_iret X dX11_factOf_76 rfl ⟨Nat.le_refl _, Nat.le_refl _⟩ ⟨rfl, _, rfl, rfl, h⟩

set_option maxRecDepth 100000 in
set_option maxHeartbeats 4000000 in
theorem x_fM_holds {l : Launch} {S : State} {D : va_G} {cA : Nat → ClassId} {tb sx : Nat → Nat} (hG : zv_G S D cA tb sx) (d : Nat) (hd : 3 ≤ d) (p1 : Int32) (p2 : Int32) (m : zv_M) (P : Int32 → zv_M → Prop) (h : zw2 (fM_holds p1 p2 m) P) : zv_Met l S D cA d 0 0 yX11_holds cX11_holds 8 (some .boolean) [.ref (S.heap.size + 68), .int p1, .int p2] SH0 m (zq_i SH0 P) := by
  refine zv_met false hG pf_X11_holds (fun z => by cases z) (Nat.le_of_ble_eq_true rfl) [(0, .ref (S.heap.size + 68)), (1, .int p1), (2, .int p2)] rfl (fun p e s mi args below meth c X => ?_)
  rw [fM_holds] at h
  refine zr_iconst (v := 0) X dX11_holds_0 (by decide) ?_
  refine zr_istore_n (lo' := [(3, .int 0), (0, .ref (S.heap.size + 68)), (1, .int p1), (2, .int p2)]) X dX11_holds_1 (by decide) rfl ?_
  refine zr_aload_n X dX11_holds_2 1 rfl ?_
  refine zr_getR X dX11_holds_3 zd_X11_66 rfl zo_68 zl_68_18 ?_
  refine zr_iload_n X dX11_holds_6 2 rfl ?_
  obtain ⟨g0, h⟩ := zg_e2 h
  refine zr_iald X dX11_holds_7 za_77 (zI_in g0) ?_
  refine zr_istore (lo' := [(4, .int (m.1 77 p1.toNatClampNeg)), (3, .int 0), (0, .ref (S.heap.size + 68)), (1, .int p1), (2, .int p2)]) X dX11_holds_8 (by decide) rfl ?_
  refine zr_sub [2, 3, 4, 1, 0] rfl ?_
  refine zl_w3 (fun a2 a3 m4 => zv_V S D cA p l e (zv_rm d 0 0) s mi args below meth c 8 (MQ below (zv_Q S D cA (zq_i SH0 P)) args s 0 0 (zv_fr S)) 0 0 10 [(0, .ref (S.heap.size + 68)), (1, .int p1), (2, .int p2), (3, .int a2), (4, .int a3)] [] SH0 m4) (fM_holds_l10 p1 p2) _ (fun P1 hl1 hr1 a2 a3 m4 h => ?_) zFU 0 (m.1 77 p1.toNatClampNeg) m (zw_b12 h)
  rw [fM_holds_l10] at h
  refine zr_iload X dX11_holds_10 4 rfl ?_
  refine zr_aload_n X dX11_holds_12 0 rfl ?_
  refine zr_getR X dX11_holds_13 zd_X11_69 rfl zo_68 zl_68_19 ?_
  refine zr_iload_n X dX11_holds_16 1 rfl ?_
  obtain ⟨g0, h⟩ := zg_e h
  refine zr_iald X dX11_holds_17 za_78 (zI_in g0) ?_
  refine zr_icmp_ge (tgt := 243) X dX11_holds_18 (by decide) (fun q => ?_) (fun q => ?_)
  · rw [if_neg q] at h
    refine zr_aload_n X dX11_holds_243 0 rfl ?_
    refine zr_getR X dX11_holds_244 zd_X11_90 rfl zo_68 zl_68_26 ?_
    refine zr_iconst (v := 0) X dX11_holds_247 (by decide) ?_
    obtain ⟨g0, h⟩ := zg_e h
    refine zr_zald X dX11_holds_248 za_82 (zI_in g0) ?_
    obtain ⟨g0, h⟩ := zg_e h
    have h := hr1 _ h
    exact zr_iret X dX11_holds_249 (zB_n g0) ⟨Nat.le_refl _, Nat.le_refl _⟩ ⟨rfl, _, rfl, h⟩
  · rw [if_pos q] at h
    refine zr_aload_n X dX11_holds_21 0 rfl ?_
    refine zr_getR X dX11_holds_22 zd_X11_72 rfl zo_68 zl_68_20 ?_
    refine zr_iload X dX11_holds_25 4 rfl ?_
    obtain ⟨g0, h⟩ := zg_e h
    refine zr_iald X dX11_holds_27 za_79 (zI_in g0) ?_
    refine zr_istore (lo' := [(5, .int (m4.1 79 a3.toNatClampNeg)), (0, .ref (S.heap.size + 68)), (1, .int p1), (2, .int p2), (3, .int a2), (4, .int a3)]) X dX11_holds_28 (by decide) rfl ?_
    refine zr_iload X dX11_holds_30 0 rfl ?_
    refine zr_bipush (v := (-33)) X dX11_holds_32 (by decide) ?_
    have hJ237 : ∀ (a5 : Int32) (m6 : zv_M), zw (fM_holds_j237 a3 a5 m6) P1 → zv_V S D cA p l e (zv_rm d 0 0) s mi args below meth c 8 (MQ below (zv_Q S D cA (zq_i SH0 P)) args s 0 0 (zv_fr S)) 0 0 237 [(0, .ref (S.heap.size + 68)), (1, .int p1), (2, .int p2), (3, .int a5), (4, .int a3)] [] SH0 m6 := by
      intro a5 m6 h
      rw [fM_holds_j237] at h
      refine zr_iinc (v := a3 + 1) (lo' := [(4, .int (a3 + 1)), (0, .ref (S.heap.size + 68)), (1, .int p1), (2, .int p2), (3, .int a5)]) X dX11_holds_237 4 rfl rfl (by decide) rfl ?_
      refine zr_goto (tgt := 10) X dX11_holds_240 (by decide) ?_
      have h := hl1 _ h
      exact zr_sub [1, 2, 3, 4, 0] rfl h
    refine zr_icmp_ne (tgt := 64) X dX11_holds_34 (by decide) (fun q => ?_) (fun q => ?_)
    · rw [if_neg q] at h
      refine zr_iload X dX11_holds_64 0 rfl ?_
      refine zr_if_ge (tgt := 143) X dX11_holds_66 (by decide) (fun q => ?_) (fun q => ?_)
      · rw [if_neg q] at h
        refine zr_aload_n X dX11_holds_143 1 rfl ?_
        refine zr_iload X dX11_holds_144 0 rfl ?_
        refine zr_sipush (v := 1000) X dX11_holds_146 (by decide) ?_
        refine zr_idiv X dX11_holds_149 (by decide) ?_
        refine zr_iload_n X dX11_holds_150 3 rfl ?_
        refine zr_callV_i (As := [.int ((m4.1 79 a3.toNatClampNeg) / 1000), .int p2]) (st := []) (d := d - 1) X dX11_holds_151 wm_X11_304 my_X11_factOf mv_X11_factOf zo_68 rfl (Nat.le_of_ble_eq_true rfl) (zRm (by omega)) ⟨Nat.le_refl _, Nat.le_refl _⟩ (x_fM_factOf hG (d - 1) (by omega) ((m4.1 79 a3.toNatClampNeg) / 1000) p2 m4 _ (zw_b1 h)) (fun r7 m8 q => ?_)
        obtain ⟨rfl, h⟩ := q
        refine zr_istore (lo' := [(6, .int r7), (5, .int (m4.1 79 a3.toNatClampNeg)), (0, .ref (S.heap.size + 68)), (1, .int p1), (2, .int p2), (3, .int a2), (4, .int a3)]) X dX11_holds_154 (by decide) rfl ?_
        refine zr_iload X dX11_holds_156 1 rfl ?_
        refine zr_bipush (v := 100) X dX11_holds_158 (by decide) ?_
        refine zr_idiv X dX11_holds_160 (by decide) ?_
        refine zr_bipush (v := 10) X dX11_holds_161 (by decide) ?_
        refine zr_irem X dX11_holds_163 (by decide) ?_
        refine zr_topi (fun a9 ea9 => ?_)
        rw [zlet, ← ea9] at h
        refine zr_istore (lo' := [(7, .int a9), (6, .int r7), (5, .int (m4.1 79 a3.toNatClampNeg)), (0, .ref (S.heap.size + 68)), (1, .int p1), (2, .int p2), (3, .int a2), (4, .int a3)]) X dX11_holds_164 (by decide) rfl ?_
        refine zr_aload_n X dX11_holds_166 3 rfl ?_
        refine zr_getR X dX11_holds_167 zd_X11_90 rfl zo_68 zl_68_26 ?_
        refine zr_iload_n X dX11_holds_170 6 rfl ?_
        refine zr_iload X dX11_holds_171 0 rfl ?_
        have hJ233 : ∀ (v10 : Int32), zw (fM_holds_j233 a2 a3 m4 v10) P1 → zv_V S D cA p l e (zv_rm d 0 0) s mi args below meth c 8 (MQ below (zv_Q S D cA (zq_i SH0 P)) args s 0 0 (zv_fr S)) 0 0 233 [(0, .ref (S.heap.size + 68)), (1, .int p1), (2, .int p2), (3, .int a2), (4, .int a3)] [.int v10, .int a2, .ref (S.heap.size + 82)] SH0 m4 := by
          intro v10 h
          rw [fM_holds_j233] at h
          obtain ⟨g0, h⟩ := zg_e h
          obtain ⟨g1, h⟩ := zg_e h
          refine zr_zast X dX11_holds_233 za_82 (zI_in g0) (zB_n g1) ?_
          refine zr_iinc (v := a2 + 1) (lo' := [(3, .int (a2 + 1)), (0, .ref (S.heap.size + 68)), (1, .int p1), (2, .int p2), (4, .int a3)]) X dX11_holds_234 3 rfl rfl (by decide) rfl ?_
          exact zr_sub [1, 2, 3, 0, 4] rfl (hJ237 (a2 + 1) (wI m4 82 a2.toNatClampNeg v10) h)
        refine zr_if_ne (tgt := 194) X dX11_holds_173 (by decide) (fun q => ?_) (fun q => ?_)
        · rw [if_neg q] at h
          refine zr_iload X dX11_holds_194 0 rfl ?_
          refine zr_iconst (v := 1) X dX11_holds_196 (by decide) ?_
          refine zr_icmp_ne (tgt := 218) X dX11_holds_197 (by decide) (fun q => ?_) (fun q => ?_)
          · rw [if_neg q] at h
            refine zr_iload X dX11_holds_218 1 rfl ?_
            refine zr_iload X dX11_holds_220 2 rfl ?_
            refine zr_bipush (v := 100) X dX11_holds_222 (by decide) ?_
            refine zr_irem X dX11_holds_224 (by decide) ?_
            refine zr_icmp_le (tgt := 232) X dX11_holds_225 (by decide) (fun q => ?_) (fun q => ?_)
            · rw [if_neg q] at h
              refine zr_iconst (v := 0) X dX11_holds_232 (by decide) ?_
              exact zr_sub [3, 4, 5, 6, 7] rfl (hJ233 0 h)
            · rw [if_pos q] at h
              refine zr_iconst (v := 1) X dX11_holds_228 (by decide) ?_
              refine zr_goto (tgt := 233) X dX11_holds_229 (by decide) ?_
              exact zr_sub [3, 4, 5, 6, 7] rfl (hJ233 1 h)
          · rw [if_pos q] at h
            refine zr_iload X dX11_holds_200 1 rfl ?_
            refine zr_iload X dX11_holds_202 2 rfl ?_
            refine zr_bipush (v := 100) X dX11_holds_204 (by decide) ?_
            refine zr_irem X dX11_holds_206 (by decide) ?_
            refine zr_icmp_ne (tgt := 214) X dX11_holds_207 (by decide) (fun q => ?_) (fun q => ?_)
            · rw [if_neg q] at h
              refine zr_iconst (v := 0) X dX11_holds_214 (by decide) ?_
              refine zr_goto (tgt := 233) X dX11_holds_215 (by decide) ?_
              exact zr_sub [3, 4, 5, 6, 7] rfl (hJ233 0 h)
            · rw [if_pos q] at h
              refine zr_iconst (v := 1) X dX11_holds_210 (by decide) ?_
              refine zr_goto (tgt := 233) X dX11_holds_211 (by decide) ?_
              exact zr_sub [3, 4, 5, 6, 7] rfl (hJ233 1 h)
        · rw [if_pos q] at h
          refine zr_iload X dX11_holds_176 1 rfl ?_
          refine zr_iload X dX11_holds_178 2 rfl ?_
          refine zr_bipush (v := 100) X dX11_holds_180 (by decide) ?_
          refine zr_irem X dX11_holds_182 (by decide) ?_
          refine zr_icmp_ge (tgt := 190) X dX11_holds_183 (by decide) (fun q => ?_) (fun q => ?_)
          · rw [if_neg q] at h
            refine zr_iconst (v := 0) X dX11_holds_190 (by decide) ?_
            refine zr_goto (tgt := 233) X dX11_holds_191 (by decide) ?_
            exact zr_sub [3, 4, 5, 6, 7] rfl (hJ233 0 h)
          · rw [if_pos q] at h
            refine zr_iconst (v := 1) X dX11_holds_186 (by decide) ?_
            refine zr_goto (tgt := 233) X dX11_holds_187 (by decide) ?_
            exact zr_sub [3, 4, 5, 6, 7] rfl (hJ233 1 h)
      · rw [if_pos q] at h
        refine zr_iinc (v := a2 - 1) (lo' := [(3, .int (a2 - 1)), (5, .int (m4.1 79 a3.toNatClampNeg)), (0, .ref (S.heap.size + 68)), (1, .int p1), (2, .int p2), (4, .int a3)]) X dX11_holds_69 4 rfl (by rw [Int32.sub_eq_add_neg]; rfl) (by decide) rfl ?_
        refine zr_aload_n X dX11_holds_72 2 rfl ?_
        refine zr_getR X dX11_holds_73 zd_X11_90 rfl zo_68 zl_68_26 ?_
        refine zr_iload_n X dX11_holds_76 0 rfl ?_
        refine zr_iconst (v := 1) X dX11_holds_77 (by decide) ?_
        refine zr_isub X dX11_holds_78 ?_
        refine zr_iload X dX11_holds_79 1 rfl ?_
        refine zr_bipush (v := (-38)) X dX11_holds_81 (by decide) ?_
        have hJ139 : ∀ (v11 : Int32), zw (fM_holds_j139 a2 a3 m4 v11) P1 → zv_V S D cA p l e (zv_rm d 0 0) s mi args below meth c 8 (MQ below (zv_Q S D cA (zq_i SH0 P)) args s 0 0 (zv_fr S)) 0 0 139 [(0, .ref (S.heap.size + 68)), (1, .int p1), (2, .int p2), (3, .int (a2 - 1)), (4, .int a3)] [.int v11, .int ((a2 - 1) - 1), .ref (S.heap.size + 82)] SH0 m4 := by
          intro v11 h
          rw [fM_holds_j139] at h
          obtain ⟨g0, h⟩ := zg_e h
          obtain ⟨g1, h⟩ := zg_e h
          refine zr_zast X dX11_holds_139 za_82 (zI_in g0) (zB_n g1) ?_
          refine zr_goto (tgt := 237) X dX11_holds_140 (by decide) ?_
          exact zr_sub [0, 1, 2, 3, 4] rfl (hJ237 (a2 - 1) (wI m4 82 ((a2 - 1) - 1).toNatClampNeg v11) h)
        refine zr_icmp_ne (tgt := 114) X dX11_holds_83 (by decide) (fun q => ?_) (fun q => ?_)
        · rw [if_neg q] at h
          refine zr_aload_n X dX11_holds_114 2 rfl ?_
          refine zr_getR X dX11_holds_115 zd_X11_90 rfl zo_68 zl_68_26 ?_
          refine zr_iload_n X dX11_holds_118 0 rfl ?_
          refine zr_iconst (v := 1) X dX11_holds_119 (by decide) ?_
          refine zr_isub X dX11_holds_120 ?_
          obtain ⟨g0, h⟩ := zg_e h
          refine zr_zald X dX11_holds_121 za_82 (zI_in g0) ?_
          have hJ134 : zw (fM_holds_j134 a2 a3 m4) P1 → zv_V S D cA p l e (zv_rm d 0 0) s mi args below meth c 8 (MQ below (zv_Q S D cA (zq_i SH0 P)) args s 0 0 (zv_fr S)) 0 0 134 [(0, .ref (S.heap.size + 68)), (1, .int p1), (2, .int p2), (3, .int (a2 - 1)), (4, .int a3)] [.int ((a2 - 1) - 1), .ref (S.heap.size + 82)] SH0 m4 := by
            intro h
            rw [fM_holds_j134] at h
            refine zr_iconst (v := 1) X dX11_holds_134 (by decide) ?_
            refine zr_goto (tgt := 139) X dX11_holds_135 (by decide) ?_
            exact zr_sub [0, 1, 2, 3, 4] rfl (hJ139 1 h)
          refine zr_if_ne (tgt := 134) X dX11_holds_122 (by decide) (fun q => ?_) (fun q => ?_)
          · rw [if_neg q] at h
            exact zr_sub [2, 3, 4, 0, 5] rfl (hJ134 h)
          · rw [if_pos q] at h
            refine zr_aload_n X dX11_holds_125 2 rfl ?_
            refine zr_getR X dX11_holds_126 zd_X11_90 rfl zo_68 zl_68_26 ?_
            refine zr_iload_n X dX11_holds_129 0 rfl ?_
            obtain ⟨g0, h⟩ := zg_e h
            refine zr_zald X dX11_holds_130 za_82 (zI_in g0) ?_
            refine zr_if_eq (tgt := 138) X dX11_holds_131 (by decide) (fun q => ?_) (fun q => ?_)
            · rw [if_pos q] at h
              refine zr_iconst (v := 0) X dX11_holds_138 (by decide) ?_
              exact zr_sub [2, 3, 4, 0, 5] rfl (hJ139 0 h)
            · rw [if_neg q] at h
              exact zr_sub [2, 3, 4, 0, 5] rfl (hJ134 h)
        · rw [if_pos q] at h
          refine zr_aload_n X dX11_holds_86 2 rfl ?_
          refine zr_getR X dX11_holds_87 zd_X11_90 rfl zo_68 zl_68_26 ?_
          refine zr_iload_n X dX11_holds_90 0 rfl ?_
          refine zr_iconst (v := 1) X dX11_holds_91 (by decide) ?_
          refine zr_isub X dX11_holds_92 ?_
          obtain ⟨g0, h⟩ := zg_e h
          refine zr_zald X dX11_holds_93 za_82 (zI_in g0) ?_
          have hJ110 : zw (fM_holds_j110 a2 a3 m4) P1 → zv_V S D cA p l e (zv_rm d 0 0) s mi args below meth c 8 (MQ below (zv_Q S D cA (zq_i SH0 P)) args s 0 0 (zv_fr S)) 0 0 110 [(0, .ref (S.heap.size + 68)), (1, .int p1), (2, .int p2), (3, .int (a2 - 1)), (4, .int a3)] [.int ((a2 - 1) - 1), .ref (S.heap.size + 82)] SH0 m4 := by
            intro h
            rw [fM_holds_j110] at h
            refine zr_iconst (v := 0) X dX11_holds_110 (by decide) ?_
            refine zr_goto (tgt := 139) X dX11_holds_111 (by decide) ?_
            exact zr_sub [0, 1, 2, 3, 4] rfl (hJ139 0 h)
          refine zr_if_eq (tgt := 110) X dX11_holds_94 (by decide) (fun q => ?_) (fun q => ?_)
          · rw [if_pos q] at h
            exact zr_sub [2, 3, 4, 0, 5] rfl (hJ110 h)
          · rw [if_neg q] at h
            refine zr_aload_n X dX11_holds_97 2 rfl ?_
            refine zr_getR X dX11_holds_98 zd_X11_90 rfl zo_68 zl_68_26 ?_
            refine zr_iload_n X dX11_holds_101 0 rfl ?_
            obtain ⟨g0, h⟩ := zg_e h
            refine zr_zald X dX11_holds_102 za_82 (zI_in g0) ?_
            refine zr_if_eq (tgt := 110) X dX11_holds_103 (by decide) (fun q => ?_) (fun q => ?_)
            · rw [if_pos q] at h
              exact zr_sub [2, 3, 4, 0, 5] rfl (hJ110 h)
            · rw [if_neg q] at h
              refine zr_iconst (v := 1) X dX11_holds_106 (by decide) ?_
              refine zr_goto (tgt := 139) X dX11_holds_107 (by decide) ?_
              exact zr_sub [2, 3, 4, 0, 5] rfl (hJ139 1 h)
    · rw [if_pos q] at h
      refine zr_aload_n X dX11_holds_37 1 rfl ?_
      refine zr_getR X dX11_holds_38 zd_X11_90 rfl zo_68 zl_68_26 ?_
      refine zr_iload_n X dX11_holds_41 4 rfl ?_
      refine zr_iconst (v := 1) X dX11_holds_42 (by decide) ?_
      refine zr_isub X dX11_holds_43 ?_
      refine zr_aload_n X dX11_holds_44 1 rfl ?_
      refine zr_getR X dX11_holds_45 zd_X11_90 rfl zo_68 zl_68_26 ?_
      refine zr_iload_n X dX11_holds_48 4 rfl ?_
      refine zr_iconst (v := 1) X dX11_holds_49 (by decide) ?_
      refine zr_isub X dX11_holds_50 ?_
      obtain ⟨g0, h⟩ := zg_e h
      refine zr_zald X dX11_holds_51 za_82 (zI_in g0) ?_
      have hJ60 : ∀ (v12 : Int32), zw (fM_holds_j60 a2 a3 m4 v12) P1 → zv_V S D cA p l e (zv_rm d 0 0) s mi args below meth c 8 (MQ below (zv_Q S D cA (zq_i SH0 P)) args s 0 0 (zv_fr S)) 0 0 60 [(0, .ref (S.heap.size + 68)), (1, .int p1), (2, .int p2), (3, .int a2), (4, .int a3)] [.int v12, .int (a2 - 1), .ref (S.heap.size + 82)] SH0 m4 := by
        intro v12 h
        rw [fM_holds_j60] at h
        obtain ⟨g0, h⟩ := zg_e h
        obtain ⟨g1, h⟩ := zg_e h
        refine zr_zast X dX11_holds_60 za_82 (zI_in g0) (zB_n g1) ?_
        refine zr_goto (tgt := 237) X dX11_holds_61 (by decide) ?_
        exact zr_sub [0, 1, 2, 3, 4] rfl (hJ237 a2 (wI m4 82 (a2 - 1).toNatClampNeg v12) h)
      refine zr_if_ne (tgt := 59) X dX11_holds_52 (by decide) (fun q => ?_) (fun q => ?_)
      · rw [if_neg q] at h
        refine zr_iconst (v := 0) X dX11_holds_59 (by decide) ?_
        exact zr_sub [1, 2, 3, 4, 5] rfl (hJ60 0 h)
      · rw [if_pos q] at h
        refine zr_iconst (v := 1) X dX11_holds_55 (by decide) ?_
        refine zr_goto (tgt := 60) X dX11_holds_56 (by decide) ?_
        exact zr_sub [1, 2, 3, 4, 5] rfl (hJ60 1 h)

set_option maxRecDepth 100000 in
set_option maxHeartbeats 4000000 in
theorem x_fM_squaresOf {l : Launch} {S : State} {D : va_G} {cA : Nat → ClassId} {tb sx : Nat → Nat} (hG : zv_G S D cA tb sx) (d : Nat) (hd : 4 ≤ d) (p1 : Int32) (m : zv_M) (P : Int32 → zv_M → Prop) (h : zw2 (fM_squaresOf p1 m) P) : zv_Met l S D cA d 0 0 yX11_squaresOf cX11_squaresOf 5 (some .int) [.ref (S.heap.size + 68), .int p1] SH0 m (zq_i SH0 P) := by
  refine zv_met false hG pf_X11_squaresOf (fun z => by cases z) (Nat.le_of_ble_eq_true rfl) [(0, .ref (S.heap.size + 68)), (1, .int p1)] rfl (fun p e s mi args below meth c X => ?_)
  rw [fM_squaresOf] at h
  refine zr_iconst (v := 0) X dX11_squaresOf_0 (by decide) ?_
  refine zr_istore_n (lo' := [(2, .int 0), (0, .ref (S.heap.size + 68)), (1, .int p1)]) X dX11_squaresOf_1 (by decide) rfl ?_
  refine zr_iconst (v := 0) X dX11_squaresOf_2 (by decide) ?_
  refine zr_istore_n (lo' := [(3, .int 0), (2, .int 0), (0, .ref (S.heap.size + 68)), (1, .int p1)]) X dX11_squaresOf_3 (by decide) rfl ?_
  refine zr_sub [2, 3, 1, 0] rfl ?_
  refine zl_w3 (fun a2 a3 m4 => zv_V S D cA p l e (zv_rm d 0 0) s mi args below meth c 5 (MQ below (zv_Q S D cA (zq_i SH0 P)) args s 0 0 (zv_fr S)) 0 0 4 [(0, .ref (S.heap.size + 68)), (1, .int p1), (2, .int a2), (3, .int a3)] [] SH0 m4) (fM_squaresOf_l4 p1) _ (fun P1 hl1 hr1 a2 a3 m4 h => ?_) zFU 0 0 m (zw_b12 h)
  rw [fM_squaresOf_l4] at h
  refine zr_iload_n X dX11_squaresOf_4 3 rfl ?_
  refine zr_aload_n X dX11_squaresOf_5 0 rfl ?_
  refine zr_getI X dX11_squaresOf_6 zd_X11_13 rfl zo_68 (by rw [zk_11 zo_68]; decide) ?_
  refine zr_aload_n X dX11_squaresOf_9 0 rfl ?_
  refine zr_getI X dX11_squaresOf_10 zd_X11_13 rfl zo_68 (by rw [zk_11 zo_68]; decide) ?_
  refine zr_imul X dX11_squaresOf_13 ?_
  refine zr_icmp_ge (tgt := 75) X dX11_squaresOf_14 (by decide) (fun q => ?_) (fun q => ?_)
  · rw [if_neg q] at h
    refine zr_iload_n X dX11_squaresOf_75 2 rfl ?_
    have h := hr1 _ h
    exact zr_iret X dX11_squaresOf_76 rfl ⟨Nat.le_refl _, Nat.le_refl _⟩ ⟨rfl, _, rfl, h⟩
  · rw [if_pos q] at h
    refine zr_aload_n X dX11_squaresOf_17 0 rfl ?_
    refine zr_callV_i (As := []) (st := []) (d := d - 1) X dX11_squaresOf_18 wm_X11_307 my_X11_begin mv_X11_begin zo_68 rfl (Nat.le_of_ble_eq_true rfl) (zRm (by omega)) ⟨Nat.le_refl _, Nat.le_refl _⟩ (x_fM_begin hG (d - 1) (by omega) m4 _ (zw_b1 h)) (fun r5 m6 q => ?_)
    obtain ⟨rfl, h⟩ := q
    refine zr_istore (lo' := [(4, .int r5), (0, .ref (S.heap.size + 68)), (1, .int p1), (2, .int a2), (3, .int a3)]) X dX11_squaresOf_21 (by decide) rfl ?_
    refine zr_sub [1, 2, 3, 4, 0] rfl ?_
    have hR7 : ∀ (a11 : Int32) (m12 : zv_M), zw (some (.inl (a11, a3 + 1, m12)) : Option ((Int32 × Int32 × zv_M) ⊕ (Int32 × zv_M))) P1 → zv_V S D cA p l e (zv_rm d 0 0) s mi args below meth c 5 (MQ below (zv_Q S D cA (zq_i SH0 P)) args s 0 0 (zv_fr S)) 0 0 69 [(0, .ref (S.heap.size + 68)), (1, .int p1), (2, .int a11), (3, .int a3)] [] SH0 m12 := by
      intro a11 m12 h
      refine zr_iinc (v := a3 + 1) (lo' := [(3, .int (a3 + 1)), (0, .ref (S.heap.size + 68)), (1, .int p1), (2, .int a11)]) X dX11_squaresOf_69 3 rfl rfl (by decide) rfl ?_
      refine zr_goto (tgt := 4) X dX11_squaresOf_72 (by decide) ?_
      have h := hl1 _ h
      exact zr_sub [1, 2, 3, 0] rfl h
    refine zl_w3 (fun a8 a9 m10 => zv_V S D cA p l e (zv_rm d 0 0) s mi args below meth c 5 (MQ below (zv_Q S D cA (zq_i SH0 P)) args s 0 0 (zv_fr S)) 0 0 23 [(0, .ref (S.heap.size + 68)), (1, .int p1), (2, .int a8), (3, .int a3), (4, .int a9)] [] SH0 m10) (fM_squaresOf_l23 p1 a3) _ (fun P7 hl7 hr7 a8 a9 m10 h => ?_) zFU a2 r5 m4 (zw_b1 h)
    rw [fM_squaresOf_l23] at h
    refine zr_iload X dX11_squaresOf_23 4 rfl ?_
    refine zr_aload_n X dX11_squaresOf_25 0 rfl ?_
    refine zr_callV_i (As := []) (st := [.int a9]) (d := d - 1) X dX11_squaresOf_26 wm_X11_310 my_X11_behind mv_X11_behind zo_68 rfl (Nat.le_of_ble_eq_true rfl) (zRm (by omega)) ⟨Nat.le_refl _, Nat.le_refl _⟩ (x_fM_behind hG (d - 1) (by omega) m10 _ (zw_b1 h)) (fun r13 m14 q => ?_)
    obtain ⟨rfl, h⟩ := q
    refine zr_icmp_ge (tgt := 69) X dX11_squaresOf_29 (by decide) (fun q => ?_) (fun q => ?_)
    · rw [if_neg q] at h
      have h := hr7 _ h
      exact zr_sub [0, 1, 2, 3] rfl (hR7 a8 m10 h)
    · rw [if_pos q] at h
      refine zr_iload_n X dX11_squaresOf_32 2 rfl ?_
      refine zr_aload_n X dX11_squaresOf_33 0 rfl ?_
      refine zr_getR X dX11_squaresOf_34 zd_X11_60 rfl zo_68 zl_68_16 ?_
      refine zr_iload X dX11_squaresOf_37 4 rfl ?_
      obtain ⟨g0, h⟩ := zg_e h
      refine zr_iald X dX11_squaresOf_39 za_75 (zI_in g0) ?_
      refine zr_iload_n X dX11_squaresOf_40 1 rfl ?_
      have hJ60 : ∀ (m15 : zv_M), zw (fM_squaresOf_j60 a8 a9 m15) P7 → zv_V S D cA p l e (zv_rm d 0 0) s mi args below meth c 5 (MQ below (zv_Q S D cA (zq_i SH0 P)) args s 0 0 (zv_fr S)) 0 0 60 [(0, .ref (S.heap.size + 68)), (1, .int p1), (3, .int a3), (4, .int a9)] [.int a8] SH0 m15 := by
        intro m15 h
        rw [fM_squaresOf_j60] at h
        refine zr_iconst (v := 0) X dX11_squaresOf_60 (by decide) ?_
        refine zr_ior X dX11_squaresOf_61 ?_
        refine zr_istore_n (lo' := [(2, .int (a8 ||| 0)), (0, .ref (S.heap.size + 68)), (1, .int p1), (3, .int a3), (4, .int a9)]) X dX11_squaresOf_62 (by decide) rfl ?_
        refine zr_iinc (v := a9 + 1) (lo' := [(4, .int (a9 + 1)), (2, .int (a8 ||| 0)), (0, .ref (S.heap.size + 68)), (1, .int p1), (3, .int a3)]) X dX11_squaresOf_63 4 rfl rfl (by decide) rfl ?_
        refine zr_goto (tgt := 23) X dX11_squaresOf_66 (by decide) ?_
        have h := hl7 _ h
        exact zr_sub [2, 3, 1, 4, 0] rfl h
      have hJ61 : ∀ (v16 : Int32) (m17 : zv_M), zw (fM_squaresOf_j61 a8 a9 v16 m17) P7 → zv_V S D cA p l e (zv_rm d 0 0) s mi args below meth c 5 (MQ below (zv_Q S D cA (zq_i SH0 P)) args s 0 0 (zv_fr S)) 0 0 61 [(0, .ref (S.heap.size + 68)), (1, .int p1), (3, .int a3), (4, .int a9)] [.int v16, .int a8] SH0 m17 := by
        intro v16 m17 h
        rw [fM_squaresOf_j61] at h
        refine zr_ior X dX11_squaresOf_61 ?_
        refine zr_istore_n (lo' := [(2, .int (a8 ||| v16)), (0, .ref (S.heap.size + 68)), (1, .int p1), (3, .int a3), (4, .int a9)]) X dX11_squaresOf_62 (by decide) rfl ?_
        refine zr_iinc (v := a9 + 1) (lo' := [(4, .int (a9 + 1)), (2, .int (a8 ||| v16)), (0, .ref (S.heap.size + 68)), (1, .int p1), (3, .int a3)]) X dX11_squaresOf_63 4 rfl rfl (by decide) rfl ?_
        refine zr_goto (tgt := 23) X dX11_squaresOf_66 (by decide) ?_
        have h := hl7 _ h
        exact zr_sub [2, 3, 1, 4, 0] rfl h
      refine zr_icmp_ne (tgt := 60) X dX11_squaresOf_41 (by decide) (fun q => ?_) (fun q => ?_)
      · rw [if_neg q] at h
        exact zr_sub [0, 1, 3, 4] rfl (hJ60 m10 h)
      · rw [if_pos q] at h
        refine zr_aload_n X dX11_squaresOf_44 0 rfl ?_
        refine zr_iload X dX11_squaresOf_45 4 rfl ?_
        refine zr_iload_n X dX11_squaresOf_47 3 rfl ?_
        refine zr_callV_i (As := [.int a9, .int a3]) (st := [.int a8]) (d := d - 1) X dX11_squaresOf_48 wm_X11_313 my_X11_holds mv_X11_holds zo_68 rfl (Nat.le_of_ble_eq_true rfl) (zRm (by omega)) ⟨Nat.le_refl _, Nat.le_refl _⟩ (x_fM_holds hG (d - 1) (by omega) a9 a3 m10 _ (zw_b2 h)) (fun r18 m19 q => ?_)
        replace h := q
        refine zr_if_eq (tgt := 60) X dX11_squaresOf_51 (by decide) (fun q => ?_) (fun q => ?_)
        · rw [if_pos q] at h
          exact zr_sub [0, 1, 3, 4] rfl (hJ60 m19 h)
        · rw [if_neg q] at h
          refine zr_iconst (v := 1) X dX11_squaresOf_54 (by decide) ?_
          refine zr_iload_n X dX11_squaresOf_55 3 rfl ?_
          refine zr_ishl X dX11_squaresOf_56 ?_
          refine zr_goto (tgt := 61) X dX11_squaresOf_57 (by decide) ?_
          exact zr_sub [0, 1, 3, 4] rfl (hJ61 (1 <<< (a3 &&& 31)) m19 h)

set_option maxRecDepth 100000 in
set_option maxHeartbeats 4000000 in
theorem x_fM_layBoard {l : Launch} {S : State} {D : va_G} {cA : Nat → ClassId} {tb sx : Nat → Nat} (hG : zv_G S D cA tb sx) (d : Nat) (hd : 5 ≤ d) (m : zv_M) (P : zv_M → Prop) (h : zw (fM_layBoard m) P) : zv_Met l S D cA d 0 0 yX11_layBoard cX11_layBoard 2 none [.ref (S.heap.size + 68)] SH0 m (zq_v SH0 P) := by
  refine zv_met false hG pf_X11_layBoard (fun z => by cases z) (Nat.le_of_ble_eq_true rfl) [(0, .ref (S.heap.size + 68))] rfl (fun p e s mi args below meth c X => ?_)
  rw [fM_layBoard] at h
  refine zr_aload_n X dX11_layBoard_0 0 rfl ?_
  refine zr_iconst (v := 4) X dX11_layBoard_1 (by decide) ?_
  refine zr_put X dX11_layBoard_2 zd_X11_13 rfl rfl rfl zo_68 (by rw [zk_11 zo_68]; decide) ?_
  refine zr_aload_n X dX11_layBoard_5 0 rfl ?_
  refine zr_iconst (v := 0) X dX11_layBoard_6 (by decide) ?_
  refine zr_put X dX11_layBoard_7 zd_X11_22 rfl rfl rfl zo_68 (by rw [zk_11 zo_68]; decide) ?_
  refine zr_aload_n X dX11_layBoard_10 0 rfl ?_
  refine zr_callV_i (As := []) (st := []) (d := d - 1) X dX11_layBoard_11 wm_X11_307 my_X11_begin mv_X11_begin zo_68 rfl (Nat.le_of_ble_eq_true rfl) (zRm (by omega)) ⟨Nat.le_refl _, Nat.le_refl _⟩ (x_fM_begin hG (d - 1) (by omega) (wI (wI m 68 1 4) 68 4 0) _ (zw_b1 h)) (fun r1 m2 q => ?_)
  obtain ⟨rfl, h⟩ := q
  refine zr_istore_n (lo' := [(1, .int r1), (0, .ref (S.heap.size + 68))]) X dX11_layBoard_14 (by decide) rfl ?_
  refine zr_sub [1, 0] rfl ?_
  refine zl_w2 (fun a4 m5 => zv_V S D cA p l e (zv_rm d 0 0) s mi args below meth c 2 (MQ below (zv_Q S D cA (zq_v SH0 P)) args s 0 0 (zv_fr S)) 0 0 15 [(0, .ref (S.heap.size + 68)), (1, .int a4)] [] SH0 m5) fM_layBoard_l15 _ (fun P3 hl3 hr3 a4 m5 h => ?_) zFU r1 (wI (wI m 68 1 4) 68 4 0) (zw_b1 h)
  rw [fM_layBoard_l15] at h
  refine zr_iload_n X dX11_layBoard_15 1 rfl ?_
  refine zr_aload_n X dX11_layBoard_16 0 rfl ?_
  refine zr_callV_i (As := []) (st := [.int a4]) (d := d - 1) X dX11_layBoard_17 wm_X11_310 my_X11_behind mv_X11_behind zo_68 rfl (Nat.le_of_ble_eq_true rfl) (zRm (by omega)) ⟨Nat.le_refl _, Nat.le_refl _⟩ (x_fM_behind hG (d - 1) (by omega) m5 _ (zw_b1 h)) (fun r6 m7 q => ?_)
  obtain ⟨rfl, h⟩ := q
  refine zr_icmp_ge (tgt := 105) X dX11_layBoard_20 (by decide) (fun q => ?_) (fun q => ?_)
  · rw [if_neg q] at h
    refine zr_aload_n X dX11_layBoard_105 0 rfl ?_
    refine zr_aload_n X dX11_layBoard_106 0 rfl ?_
    refine zr_iconst (v := 1) X dX11_layBoard_107 (by decide) ?_
    refine zr_callV_i (As := [.int 1]) (st := [.ref (S.heap.size + 68)]) (d := d - 1) X dX11_layBoard_108 wm_X11_316 my_X11_squaresOf mv_X11_squaresOf zo_68 rfl (Nat.le_of_ble_eq_true rfl) (zRm (by omega)) ⟨Nat.le_refl _, Nat.le_refl _⟩ (x_fM_squaresOf hG (d - 1) (by omega) 1 m5 _ (zw_b2 h)) (fun r8 m9 q => ?_)
    replace h := q
    refine zr_put X dX11_layBoard_111 zd_X11_16 rfl rfl rfl zo_68 (by rw [zk_11 zo_68]; decide) ?_
    refine zr_aload_n X dX11_layBoard_114 0 rfl ?_
    refine zr_aload_n X dX11_layBoard_115 0 rfl ?_
    refine zr_getI X dX11_layBoard_116 zd_X11_16 rfl zo_68 (by rw [zk_11 zo_68]; decide) ?_
    refine zr_aload_n X dX11_layBoard_119 0 rfl ?_
    refine zr_iconst (v := 2) X dX11_layBoard_120 (by decide) ?_
    refine zr_callV_i (As := [.int 2]) (st := [.int ((wI m9 68 2 r8).1 68 2), .ref (S.heap.size + 68)]) (d := d - 1) X dX11_layBoard_121 wm_X11_316 my_X11_squaresOf mv_X11_squaresOf zo_68 rfl (Nat.le_of_ble_eq_true rfl) (zRm (by omega)) ⟨Nat.le_refl _, Nat.le_refl _⟩ (x_fM_squaresOf hG (d - 1) (by omega) 2 (wI m9 68 2 r8) _ (zw_b2 h)) (fun r10 m11 q => ?_)
    replace h := q
    refine zr_ior X dX11_layBoard_124 ?_
    refine zr_put X dX11_layBoard_125 zd_X11_19 rfl rfl rfl zo_68 (by rw [zk_11 zo_68]; decide) ?_
    have h := hr3 _ h
    exact zr_vret X dX11_layBoard_128 ⟨Nat.le_refl _, Nat.le_refl _⟩ ⟨rfl, rfl, h⟩
  · rw [if_pos q] at h
    refine zr_aload_n X dX11_layBoard_23 0 rfl ?_
    refine zr_getR X dX11_layBoard_24 zd_X11_60 rfl zo_68 zl_68_16 ?_
    refine zr_iload_n X dX11_layBoard_27 1 rfl ?_
    obtain ⟨g0, h⟩ := zg_e h
    refine zr_iald X dX11_layBoard_28 za_75 (zI_in g0) ?_
    have hJ70 : ∀ (m12 : zv_M), zw (fM_layBoard_j70 a4 m12) P3 → zv_V S D cA p l e (zv_rm d 0 0) s mi args below meth c 2 (MQ below (zv_Q S D cA (zq_v SH0 P)) args s 0 0 (zv_fr S)) 0 0 70 [(0, .ref (S.heap.size + 68)), (1, .int a4)] [] SH0 m12 := by
      intro m12 h
      rw [fM_layBoard_j70] at h
      refine zr_aload_n X dX11_layBoard_70 0 rfl ?_
      refine zr_getR X dX11_layBoard_71 zd_X11_60 rfl zo_68 zl_68_16 ?_
      refine zr_iload_n X dX11_layBoard_74 1 rfl ?_
      obtain ⟨g0, h⟩ := zg_e h
      refine zr_iald X dX11_layBoard_75 za_75 (zI_in g0) ?_
      refine zr_iconst (v := 2) X dX11_layBoard_76 (by decide) ?_
      have hJ99 : ∀ (m13 : zv_M), zw (fM_layBoard_j99 a4 m13) P3 → zv_V S D cA p l e (zv_rm d 0 0) s mi args below meth c 2 (MQ below (zv_Q S D cA (zq_v SH0 P)) args s 0 0 (zv_fr S)) 0 0 99 [(0, .ref (S.heap.size + 68)), (1, .int a4)] [] SH0 m13 := by
        intro m13 h
        rw [fM_layBoard_j99] at h
        refine zr_iinc (v := a4 + 1) (lo' := [(1, .int (a4 + 1)), (0, .ref (S.heap.size + 68))]) X dX11_layBoard_99 1 rfl rfl (by decide) rfl ?_
        refine zr_goto (tgt := 15) X dX11_layBoard_102 (by decide) ?_
        have h := hl3 _ h
        exact zr_sub [1, 0] rfl h
      refine zr_icmp_le (tgt := 99) X dX11_layBoard_77 (by decide) (fun q => ?_) (fun q => ?_)
      · rw [if_neg q] at h
        exact zr_sub [0, 1] rfl (hJ99 m12 h)
      · rw [if_pos q] at h
        refine zr_aload_n X dX11_layBoard_80 0 rfl ?_
        refine zr_aload_n X dX11_layBoard_81 0 rfl ?_
        refine zr_getR X dX11_layBoard_82 zd_X11_60 rfl zo_68 zl_68_16 ?_
        refine zr_iload_n X dX11_layBoard_85 1 rfl ?_
        obtain ⟨g0, h⟩ := zg_e h
        refine zr_iald X dX11_layBoard_86 za_75 (zI_in g0) ?_
        refine zr_iconst (v := 3) X dX11_layBoard_87 (by decide) ?_
        have hJ96 : ∀ (v14 : Int32), zw (fM_layBoard_j96 a4 m12 v14) P3 → zv_V S D cA p l e (zv_rm d 0 0) s mi args below meth c 2 (MQ below (zv_Q S D cA (zq_v SH0 P)) args s 0 0 (zv_fr S)) 0 0 96 [(0, .ref (S.heap.size + 68)), (1, .int a4)] [.int v14, .ref (S.heap.size + 68)] SH0 m12 := by
          intro v14 h
          rw [fM_layBoard_j96] at h
          obtain ⟨g0, h⟩ := zg_e h
          refine zr_put X dX11_layBoard_96 zd_X11_22 rfl (zB_n g0) (zB_f g0) zo_68 (by rw [zk_11 zo_68]; decide) ?_
          exact zr_sub [0, 1] rfl (hJ99 (wI m12 68 4 v14) h)
        refine zr_icmp_ne (tgt := 95) X dX11_layBoard_88 (by decide) (fun q => ?_) (fun q => ?_)
        · rw [if_neg q] at h
          refine zr_iconst (v := 0) X dX11_layBoard_95 (by decide) ?_
          exact zr_sub [0, 1] rfl (hJ96 0 h)
        · rw [if_pos q] at h
          refine zr_iconst (v := 1) X dX11_layBoard_91 (by decide) ?_
          refine zr_goto (tgt := 96) X dX11_layBoard_92 (by decide) ?_
          exact zr_sub [0, 1] rfl (hJ96 1 h)
    refine zr_if_ne (tgt := 70) X dX11_layBoard_29 (by decide) (fun q => ?_) (fun q => ?_)
    · rw [if_neg q] at h
      exact zr_sub [0, 1] rfl (hJ70 m5 h)
    · rw [if_pos q] at h
      refine zr_aload_n X dX11_layBoard_32 0 rfl ?_
      refine zr_aload_n X dX11_layBoard_33 0 rfl ?_
      refine zr_getR X dX11_layBoard_34 zd_X11_63 rfl zo_68 zl_68_17 ?_
      refine zr_iload_n X dX11_layBoard_37 1 rfl ?_
      obtain ⟨g0, h⟩ := zg_e h
      refine zr_iald X dX11_layBoard_38 za_76 (zI_in g0) ?_
      refine zr_iconst (v := 2) X dX11_layBoard_39 (by decide) ?_
      have hJ67 : ∀ (v15 : Int32), zw (fM_layBoard_j67 a4 m5 v15) P3 → zv_V S D cA p l e (zv_rm d 0 0) s mi args below meth c 2 (MQ below (zv_Q S D cA (zq_v SH0 P)) args s 0 0 (zv_fr S)) 0 0 67 [(0, .ref (S.heap.size + 68)), (1, .int a4)] [.int v15, .ref (S.heap.size + 68)] SH0 m5 := by
        intro v15 h
        rw [fM_layBoard_j67] at h
        refine zr_put X dX11_layBoard_67 zd_X11_13 rfl rfl rfl zo_68 (by rw [zk_11 zo_68]; decide) ?_
        exact zr_sub [0, 1] rfl (hJ70 (wI m5 68 1 v15) h)
      refine zr_icmp_ge (tgt := 47) X dX11_layBoard_40 (by decide) (fun q => ?_) (fun q => ?_)
      · rw [if_neg q] at h
        refine zr_aload_n X dX11_layBoard_47 0 rfl ?_
        refine zr_getR X dX11_layBoard_48 zd_X11_63 rfl zo_68 zl_68_17 ?_
        refine zr_iload_n X dX11_layBoard_51 1 rfl ?_
        obtain ⟨g0, h⟩ := zg_e h
        refine zr_iald X dX11_layBoard_52 za_76 (zI_in g0) ?_
        refine zr_iconst (v := 5) X dX11_layBoard_53 (by decide) ?_
        refine zr_icmp_le (tgt := 61) X dX11_layBoard_54 (by decide) (fun q => ?_) (fun q => ?_)
        · rw [if_neg q] at h
          refine zr_aload_n X dX11_layBoard_61 0 rfl ?_
          refine zr_getR X dX11_layBoard_62 zd_X11_63 rfl zo_68 zl_68_17 ?_
          refine zr_iload_n X dX11_layBoard_65 1 rfl ?_
          obtain ⟨g0, h⟩ := zg_e h
          refine zr_iald X dX11_layBoard_66 za_76 (zI_in g0) ?_
          exact zr_sub [0, 1] rfl (hJ67 (m5.1 76 a4.toNatClampNeg) h)
        · rw [if_pos q] at h
          refine zr_iconst (v := 5) X dX11_layBoard_57 (by decide) ?_
          refine zr_goto (tgt := 67) X dX11_layBoard_58 (by decide) ?_
          exact zr_sub [0, 1] rfl (hJ67 5 h)
      · rw [if_pos q] at h
        refine zr_iconst (v := 2) X dX11_layBoard_43 (by decide) ?_
        refine zr_goto (tgt := 67) X dX11_layBoard_44 (by decide) ?_
        exact zr_sub [0, 1] rfl (hJ67 2 h)

set_option maxRecDepth 100000 in
set_option maxHeartbeats 4000000 in
theorem x_fM_yard {l : Launch} {S : State} {D : va_G} {cA : Nat → ClassId} {tb sx : Nat → Nat} (hG : zv_G S D cA tb sx) (d : Nat) (hd : 8 ≤ d) (m : zv_M) (P : Int32 → zv_M → Prop) (h : zw2 (fM_yard m) P) : zv_Met l S D cA d 0 0 yX11_yard cX11_yard 3 (some .int) [.ref (S.heap.size + 68)] SH0 m (zq_i SH0 P) := by
  refine zv_met false hG pf_X11_yard (fun z => by cases z) (Nat.le_of_ble_eq_true rfl) [(0, .ref (S.heap.size + 68))] rfl (fun p e s mi args below meth c X => ?_)
  rw [fM_yard] at h
  refine zr_aload_n X dX11_yard_0 0 rfl ?_
  refine zr_getI X dX11_yard_1 zd_X11_39 rfl zo_68 (by rw [zk_11 zo_68]; decide) ?_
  refine zr_bipush (v := 6) X dX11_yard_4 (by decide) ?_
  refine zr_icmp_ne (tgt := 12) X dX11_yard_6 (by decide) (fun q => ?_) (fun q => ?_)
  · rw [if_neg q] at h
    refine zr_aload_n X dX11_yard_12 0 rfl ?_
    refine zr_aload_n X dX11_yard_13 0 rfl ?_
    refine zr_getI X dX11_yard_14 zd_X11_39 rfl zo_68 (by rw [zk_11 zo_68]; decide) ?_
    refine zr_callV_i (As := [.int (m.1 68 9)]) (st := []) (d := d - 1) X dX11_yard_17 wm_X11_294 my_X11_goesText mv_X11_goesText zo_68 rfl (Nat.le_of_ble_eq_true rfl) (zRm (by omega)) ⟨Nat.le_refl _, Nat.le_refl _⟩ (x_fM_goesText hG (d - 1) (by omega) (m.1 68 9) m _ (zw_b22 h)) (fun r1 m2 q => ?_)
    replace h := q
    refine zr_istore_n (lo' := [(1, .int r1), (0, .ref (S.heap.size + 68))]) X dX11_yard_20 (by decide) rfl ?_
    refine zr_aload_n X dX11_yard_21 1 rfl ?_
    refine zr_iconst (v := 0) X dX11_yard_22 (by decide) ?_
    refine zr_put X dX11_yard_23 zd_X11_45 rfl rfl rfl zo_68 (by rw [zk_11 zo_68]; decide) ?_
    refine zr_iload_n X dX11_yard_26 0 rfl ?_
    refine zr_if_ne (tgt := 38) X dX11_yard_27 (by decide) (fun q => ?_) (fun q => ?_)
    · rw [if_neg q] at h
      refine zr_aload_n X dX11_yard_38 1 rfl ?_
      refine zr_aload_n X dX11_yard_39 1 rfl ?_
      refine zr_getI X dX11_yard_40 zd_X11_39 rfl zo_68 (by rw [zk_11 zo_68]; decide) ?_
      refine zr_put X dX11_yard_43 zd_X11_42 rfl rfl rfl zo_68 (by rw [zk_11 zo_68]; decide) ?_
      refine zr_aload_n X dX11_yard_46 1 rfl ?_
      refine zr_dup X dX11_yard_47 rfl ?_
      refine zr_getI X dX11_yard_48 zd_X11_39 rfl zo_68 (by rw [zk_11 zo_68]; decide) ?_
      refine zr_iconst (v := 1) X dX11_yard_51 (by decide) ?_
      refine zr_iadd X dX11_yard_52 ?_
      refine zr_put X dX11_yard_53 zd_X11_39 rfl rfl rfl zo_68 (by rw [zk_11 zo_68]; decide) ?_
      refine zr_aload_n X dX11_yard_56 1 rfl ?_
      refine zr_callV_v (As := []) (st := []) (d := d - 1) X dX11_yard_57 wm_X11_297 my_X11_layBoard mv_X11_layBoard zo_68 rfl (Nat.le_of_ble_eq_true rfl) (zRm (by omega)) ⟨Nat.le_refl _, Nat.le_refl _⟩ (x_fM_layBoard hG (d - 1) (by omega) (wI (wI (wI m2 68 11 0) 68 10 ((wI m2 68 11 0).1 68 9)) 68 9 (((wI (wI m2 68 11 0) 68 10 ((wI m2 68 11 0).1 68 9)).1 68 9) + 1)) _ (zw_b12 h)) (fun m3 q => ?_)
      replace h := q
      refine zr_aload_n X dX11_yard_60 1 rfl ?_
      refine zr_callV_i (As := []) (st := []) (d := d - 1) X dX11_yard_61 wm_X11_246 my_X11_takeAll mv_X11_takeAll zo_68 rfl (Nat.le_of_ble_eq_true rfl) (zRm (by omega)) ⟨Nat.le_refl _, Nat.le_refl _⟩ (x_fM_takeAll hG (d - 1) (by omega) m3 _ (zw_b22 h)) (fun r4 m5 q => ?_)
      replace h := q
      refine zr_istore_n (lo' := [(2, .int r4), (1, .int r1), (0, .ref (S.heap.size + 68))]) X dX11_yard_64 (by decide) rfl ?_
      refine zr_aload_n X dX11_yard_65 2 rfl ?_
      refine zr_iconst (v := 0) X dX11_yard_66 (by decide) ?_
      refine zr_put X dX11_yard_67 zd_X11_139 rfl rfl rfl zo_68 (by rw [zk_11 zo_68]; decide) ?_
      refine zr_aload_n X dX11_yard_70 2 rfl ?_
      refine zr_iconst (v := 0) X dX11_yard_71 (by decide) ?_
      refine zr_put X dX11_yard_72 zd_X11_154 rfl rfl rfl zo_68 (by rw [zk_11 zo_68]; decide) ?_
      refine zr_aload_n X dX11_yard_75 2 rfl ?_
      refine zr_iconst (v := 0) X dX11_yard_76 (by decide) ?_
      refine zr_put X dX11_yard_77 zd_X11_163 rfl rfl rfl zo_68 (by rw [zk_11 zo_68]; decide) ?_
      refine zr_aload_n X dX11_yard_80 2 rfl ?_
      refine zr_getI X dX11_yard_81 zd_X11_42 rfl zo_68 (by rw [zk_11 zo_68]; decide) ?_
      exact zr_iret X dX11_yard_84 rfl ⟨Nat.le_refl _, Nat.le_refl _⟩ ⟨rfl, _, rfl, h⟩
    · rw [if_pos q] at h
      refine zr_bipush (v := (-10)) X dX11_yard_30 (by decide) ?_
      refine zr_aload_n X dX11_yard_32 1 rfl ?_
      refine zr_getI X dX11_yard_33 zd_X11_48 rfl zo_68 (by rw [zk_11 zo_68]; decide) ?_
      refine zr_isub X dX11_yard_36 ?_
      exact zr_iret X dX11_yard_37 rfl ⟨Nat.le_refl _, Nat.le_refl _⟩ ⟨rfl, _, rfl, h⟩
  · rw [if_pos q] at h
    refine zr_bipush (v := (-4)) X dX11_yard_9 (by decide) ?_
    exact zr_iret X dX11_yard_11 rfl ⟨Nat.le_refl _, Nat.le_refl _⟩ ⟨rfl, _, rfl, h⟩

set_option maxRecDepth 100000 in
set_option maxHeartbeats 4000000 in
theorem x_fM_away {l : Launch} {S : State} {D : va_G} {cA : Nat → ClassId} {tb sx : Nat → Nat} (hG : zv_G S D cA tb sx) (d : Nat) (hd : 2 ≤ d) (p1 : Int32) (p2 : Int32) (p3 : Int32) (m : zv_M) (P : Int32 → Prop) (h : zw (fM_away p1 p2 p3 m) P) : zv_Met l S D cA d 0 0 yX11_away cX11_away 6 (some .int) [.ref (S.heap.size + 68), .int p1, .int p2, .int p3] SH0 m (zq_i SH0 (fun v m' => m = m' ∧ P v)) := by
  refine zv_met false hG pf_X11_away (fun z => by cases z) (Nat.le_of_ble_eq_true rfl) [(0, .ref (S.heap.size + 68)), (1, .int p1), (2, .int p2), (3, .int p3)] rfl (fun p e s mi args below meth c X => ?_)
  rw [fM_away] at h
  refine zr_iload_n X dX11_away_0 1 rfl ?_
  refine zr_aload_n X dX11_away_1 0 rfl ?_
  refine zr_getI X dX11_away_2 zd_X11_13 rfl zo_68 (by rw [zk_11 zo_68]; decide) ?_
  obtain ⟨g0, h⟩ := zg_e h
  refine zr_irem X dX11_away_5 (zN_ne g0) ?_
  refine zr_iload_n X dX11_away_6 2 rfl ?_
  refine zr_iadd X dX11_away_7 ?_
  refine zr_istore (lo' := [(4, .int ((p1 - p1 / (m.1 68 1) * (m.1 68 1)) + p2)), (0, .ref (S.heap.size + 68)), (1, .int p1), (2, .int p2), (3, .int p3)]) X dX11_away_8 (by decide) rfl ?_
  refine zr_iload_n X dX11_away_10 2 rfl ?_
  refine zr_aload_n X dX11_away_11 1 rfl ?_
  refine zr_getI X dX11_away_12 zd_X11_13 rfl zo_68 (by rw [zk_11 zo_68]; decide) ?_
  obtain ⟨g0, h⟩ := zg_e h
  refine zr_idiv X dX11_away_15 (zN_ne g0) ?_
  refine zr_iload_n X dX11_away_16 4 rfl ?_
  refine zr_iadd X dX11_away_17 ?_
  refine zr_istore (lo' := [(5, .int ((p1 / (m.1 68 1)) + p3)), (4, .int ((p1 - p1 / (m.1 68 1) * (m.1 68 1)) + p2)), (0, .ref (S.heap.size + 68)), (1, .int p1), (2, .int p2), (3, .int p3)]) X dX11_away_18 (by decide) rfl ?_
  refine zr_aload_n X dX11_away_20 2 rfl ?_
  refine zr_getI X dX11_away_21 zd_X11_22 rfl zo_68 (by rw [zk_11 zo_68]; decide) ?_
  refine zr_if_eq (tgt := 62) X dX11_away_24 (by decide) (fun q => ?_) (fun q => ?_)
  · rw [if_pos q] at h
    refine zr_aload_n X dX11_away_62 2 rfl ?_
    refine zr_iload X dX11_away_63 1 rfl ?_
    refine zr_iconst (v := 0) X dX11_away_65 (by decide) ?_
    refine zr_aload_n X dX11_away_66 2 rfl ?_
    refine zr_getI X dX11_away_67 zd_X11_13 rfl zo_68 (by rw [zk_11 zo_68]; decide) ?_
    refine zr_iconst (v := 1) X dX11_away_70 (by decide) ?_
    refine zr_isub X dX11_away_71 ?_
    refine zr_callV_i (As := [.int ((p1 - p1 / (m.1 68 1) * (m.1 68 1)) + p2), .int 0, .int ((m.1 68 1) - 1)]) (st := []) (d := d - 1) X dX11_away_72 wm_X11_230 my_X11_in mv_X11_in zo_68 rfl (Nat.le_of_ble_eq_true rfl) (zRm (by omega)) ⟨Nat.le_refl _, Nat.le_refl _⟩ (x_fM_in hG (d - 1) (by omega) ((p1 - p1 / (m.1 68 1) * (m.1 68 1)) + p2) 0 ((m.1 68 1) - 1) m _ (zw_b1 h)) (fun r1 m2 q => ?_)
    obtain ⟨rfl, h⟩ := q
    refine zr_if_eq (tgt := 107) X dX11_away_75 (by decide) (fun q => ?_) (fun q => ?_)
    · rw [if_pos q] at h
      refine zr_iconst (v := (-1)) X dX11_away_107 (by decide) ?_
      exact zr_iret X dX11_away_108 rfl ⟨Nat.le_refl _, Nat.le_refl _⟩ ⟨rfl, _, rfl, rfl, h⟩
    · rw [if_neg q] at h
      refine zr_aload_n X dX11_away_78 2 rfl ?_
      refine zr_iload X dX11_away_79 0 rfl ?_
      refine zr_iconst (v := 0) X dX11_away_81 (by decide) ?_
      refine zr_aload_n X dX11_away_82 2 rfl ?_
      refine zr_getI X dX11_away_83 zd_X11_13 rfl zo_68 (by rw [zk_11 zo_68]; decide) ?_
      refine zr_iconst (v := 1) X dX11_away_86 (by decide) ?_
      refine zr_isub X dX11_away_87 ?_
      refine zr_callV_i (As := [.int ((p1 / (m.1 68 1)) + p3), .int 0, .int ((m.1 68 1) - 1)]) (st := []) (d := d - 1) X dX11_away_88 wm_X11_230 my_X11_in mv_X11_in zo_68 rfl (Nat.le_of_ble_eq_true rfl) (zRm (by omega)) ⟨Nat.le_refl _, Nat.le_refl _⟩ (x_fM_in hG (d - 1) (by omega) ((p1 / (m.1 68 1)) + p3) 0 ((m.1 68 1) - 1) m _ (zw_b1 h)) (fun r3 m4 q => ?_)
      obtain ⟨rfl, h⟩ := q
      refine zr_if_eq (tgt := 107) X dX11_away_91 (by decide) (fun q => ?_) (fun q => ?_)
      · rw [if_pos q] at h
        refine zr_iconst (v := (-1)) X dX11_away_107 (by decide) ?_
        exact zr_iret X dX11_away_108 rfl ⟨Nat.le_refl _, Nat.le_refl _⟩ ⟨rfl, _, rfl, rfl, h⟩
      · rw [if_neg q] at h
        refine zr_aload_n X dX11_away_94 2 rfl ?_
        refine zr_getI X dX11_away_95 zd_X11_13 rfl zo_68 (by rw [zk_11 zo_68]; decide) ?_
        refine zr_iload X dX11_away_98 0 rfl ?_
        refine zr_imul X dX11_away_100 ?_
        refine zr_iload X dX11_away_101 1 rfl ?_
        refine zr_iadd X dX11_away_103 ?_
        refine zr_goto (tgt := 108) X dX11_away_104 (by decide) ?_
        exact zr_iret X dX11_away_108 rfl ⟨Nat.le_refl _, Nat.le_refl _⟩ ⟨rfl, _, rfl, rfl, h⟩
  · rw [if_neg q] at h
    refine zr_aload_n X dX11_away_27 2 rfl ?_
    refine zr_getI X dX11_away_28 zd_X11_13 rfl zo_68 (by rw [zk_11 zo_68]; decide) ?_
    refine zr_iload X dX11_away_31 0 rfl ?_
    refine zr_iconst (v := 2) X dX11_away_33 (by decide) ?_
    refine zr_aload_n X dX11_away_34 2 rfl ?_
    refine zr_getI X dX11_away_35 zd_X11_13 rfl zo_68 (by rw [zk_11 zo_68]; decide) ?_
    refine zr_imul X dX11_away_38 ?_
    refine zr_iadd X dX11_away_39 ?_
    refine zr_aload_n X dX11_away_40 2 rfl ?_
    refine zr_getI X dX11_away_41 zd_X11_13 rfl zo_68 (by rw [zk_11 zo_68]; decide) ?_
    obtain ⟨g0, h⟩ := zg_e h
    refine zr_irem X dX11_away_44 (zN_ne g0) ?_
    refine zr_imul X dX11_away_45 ?_
    refine zr_iload X dX11_away_46 1 rfl ?_
    refine zr_iconst (v := 2) X dX11_away_48 (by decide) ?_
    refine zr_aload_n X dX11_away_49 2 rfl ?_
    refine zr_getI X dX11_away_50 zd_X11_13 rfl zo_68 (by rw [zk_11 zo_68]; decide) ?_
    refine zr_imul X dX11_away_53 ?_
    refine zr_iadd X dX11_away_54 ?_
    refine zr_aload_n X dX11_away_55 2 rfl ?_
    refine zr_getI X dX11_away_56 zd_X11_13 rfl zo_68 (by rw [zk_11 zo_68]; decide) ?_
    obtain ⟨g0, h⟩ := zg_e h
    refine zr_irem X dX11_away_59 (zN_ne g0) ?_
    refine zr_iadd X dX11_away_60 ?_
    exact zr_iret X dX11_away_61 rfl ⟨Nat.le_refl _, Nat.le_refl _⟩ ⟨rfl, _, rfl, rfl, h⟩

set_option maxRecDepth 100000 in
set_option maxHeartbeats 4000000 in
theorem x_fM_line {l : Launch} {S : State} {D : va_G} {cA : Nat → ClassId} {tb sx : Nat → Nat} (hG : zv_G S D cA tb sx) (d : Nat) (hd : 3 ≤ d) (p1 : Int32) (p2 : Int32) (m : zv_M) (P : Int32 → Prop) (h : zw (fM_line p1 p2 m) P) : zv_Met l S D cA d 0 0 yX11_line cX11_line 5 (some .int) [.ref (S.heap.size + 68), .int p1, .int p2] SH0 m (zq_i SH0 (fun v m' => m = m' ∧ P v)) := by
  refine zv_met false hG pf_X11_line (fun z => by cases z) (Nat.le_of_ble_eq_true rfl) [(0, .ref (S.heap.size + 68)), (1, .int p1), (2, .int p2)] rfl (fun p e s mi args below meth c X => ?_)
  rw [fM_line] at h
  refine zr_iconst (v := 0) X dX11_line_0 (by decide) ?_
  refine zr_istore_n (lo' := [(3, .int 0), (0, .ref (S.heap.size + 68)), (1, .int p1), (2, .int p2)]) X dX11_line_1 (by decide) rfl ?_
  refine zr_aload_n X dX11_line_2 1 rfl ?_
  refine zr_iload_n X dX11_line_3 2 rfl ?_
  refine zr_aload_n X dX11_line_4 1 rfl ?_
  refine zr_getR X dX11_line_5 zd_X11_94 rfl zo_68 zl_68_27 ?_
  refine zr_iload_n X dX11_line_8 3 rfl ?_
  obtain ⟨g0, h⟩ := zg_e h
  refine zr_iald X dX11_line_9 za_83 (zI_in g0) ?_
  refine zr_aload_n X dX11_line_10 1 rfl ?_
  refine zr_getR X dX11_line_11 zd_X11_97 rfl zo_68 zl_68_28 ?_
  refine zr_iload_n X dX11_line_14 3 rfl ?_
  obtain ⟨g0, h⟩ := zg_e h
  refine zr_iald X dX11_line_15 za_84 (zI_in g0) ?_
  refine zr_callV_i (As := [.int p1, .int (m.1 83 p2.toNatClampNeg), .int (m.1 84 p2.toNatClampNeg)]) (st := []) (d := d - 1) X dX11_line_16 wm_X11_319 my_X11_away mv_X11_away zo_68 rfl (Nat.le_of_ble_eq_true rfl) (zRm (by omega)) ⟨Nat.le_refl _, Nat.le_refl _⟩ (x_fM_away hG (d - 1) (by omega) p1 (m.1 83 p2.toNatClampNeg) (m.1 84 p2.toNatClampNeg) m _ (zw_b1 h)) (fun r1 m2 q => ?_)
  obtain ⟨rfl, h⟩ := q
  refine zr_istore (lo' := [(4, .int r1), (3, .int 0), (0, .ref (S.heap.size + 68)), (1, .int p1), (2, .int p2)]) X dX11_line_19 (by decide) rfl ?_
  refine zr_sub [2, 3, 4, 1, 0] rfl ?_
  refine zl_w2 (fun a4 a5 => zv_V S D cA p l e (zv_rm d 0 0) s mi args below meth c 5 (MQ below (zv_Q S D cA (zq_i SH0 (fun v m' => m = m' ∧ P v))) args s 0 0 (zv_fr S)) 0 0 21 [(0, .ref (S.heap.size + 68)), (1, .int p1), (2, .int p2), (3, .int a4), (4, .int a5)] [] SH0 m) (fM_line_l21 p1 p2 m) _ (fun P3 hl3 hr3 a4 a5 h => ?_) zFU 0 r1 (zw_b1 h)
  rw [fM_line_l21] at h
  refine zr_iload X dX11_line_21 4 rfl ?_
  refine zr_if_lt (tgt := 75) X dX11_line_23 (by decide) (fun q => ?_) (fun q => ?_)
  · rw [if_pos q] at h
    refine zr_iload_n X dX11_line_75 3 rfl ?_
    have h := hr3 _ h
    exact zr_iret X dX11_line_76 rfl ⟨Nat.le_refl _, Nat.le_refl _⟩ ⟨rfl, _, rfl, rfl, h⟩
  · rw [if_neg q] at h
    refine zr_iload X dX11_line_26 4 rfl ?_
    refine zr_iload_n X dX11_line_28 1 rfl ?_
    refine zr_icmp_eq (tgt := 75) X dX11_line_29 (by decide) (fun q => ?_) (fun q => ?_)
    · rw [if_pos q] at h
      refine zr_iload_n X dX11_line_75 3 rfl ?_
      have h := hr3 _ h
      exact zr_iret X dX11_line_76 rfl ⟨Nat.le_refl _, Nat.le_refl _⟩ ⟨rfl, _, rfl, rfl, h⟩
    · rw [if_neg q] at h
      refine zr_aload_n X dX11_line_32 0 rfl ?_
      refine zr_aload_n X dX11_line_33 0 rfl ?_
      refine zr_getI X dX11_line_34 zd_X11_16 rfl zo_68 (by rw [zk_11 zo_68]; decide) ?_
      refine zr_iload X dX11_line_37 4 rfl ?_
      refine zr_callV_i (As := [.int (m.1 68 2), .int a5]) (st := []) (d := d - 1) X dX11_line_39 wm_X11_323 my_X11_has mv_X11_has zo_68 rfl (Nat.le_of_ble_eq_true rfl) (zRm (by omega)) ⟨Nat.le_refl _, Nat.le_refl _⟩ (x_fM_has hG (d - 1) (by omega) (m.1 68 2) a5 m _ (zw_b1 h)) (fun r6 m7 q => ?_)
      obtain ⟨rfl, h⟩ := q
      refine zr_if_ne (tgt := 75) X dX11_line_42 (by decide) (fun q => ?_) (fun q => ?_)
      · rw [if_neg q] at h
        refine zr_iload_n X dX11_line_75 3 rfl ?_
        have h := hr3 _ h
        exact zr_iret X dX11_line_76 rfl ⟨Nat.le_refl _, Nat.le_refl _⟩ ⟨rfl, _, rfl, rfl, h⟩
      · rw [if_pos q] at h
        refine zr_iload_n X dX11_line_45 3 rfl ?_
        refine zr_iconst (v := 1) X dX11_line_46 (by decide) ?_
        refine zr_iload X dX11_line_47 4 rfl ?_
        refine zr_ishl X dX11_line_49 ?_
        refine zr_ior X dX11_line_50 ?_
        refine zr_istore_n (lo' := [(3, .int (a4 ||| (1 <<< (a5 &&& 31)))), (0, .ref (S.heap.size + 68)), (1, .int p1), (2, .int p2), (4, .int a5)]) X dX11_line_51 (by decide) rfl ?_
        refine zr_aload_n X dX11_line_52 1 rfl ?_
        refine zr_iload X dX11_line_53 4 rfl ?_
        refine zr_aload_n X dX11_line_55 1 rfl ?_
        refine zr_getR X dX11_line_56 zd_X11_94 rfl zo_68 zl_68_27 ?_
        refine zr_iload_n X dX11_line_59 3 rfl ?_
        obtain ⟨g0, h⟩ := zg_e h
        refine zr_iald X dX11_line_60 za_83 (zI_in g0) ?_
        refine zr_aload_n X dX11_line_61 1 rfl ?_
        refine zr_getR X dX11_line_62 zd_X11_97 rfl zo_68 zl_68_28 ?_
        refine zr_iload_n X dX11_line_65 3 rfl ?_
        obtain ⟨g0, h⟩ := zg_e h
        refine zr_iald X dX11_line_66 za_84 (zI_in g0) ?_
        refine zr_callV_i (As := [.int a5, .int (m.1 83 p2.toNatClampNeg), .int (m.1 84 p2.toNatClampNeg)]) (st := []) (d := d - 1) X dX11_line_67 wm_X11_319 my_X11_away mv_X11_away zo_68 rfl (Nat.le_of_ble_eq_true rfl) (zRm (by omega)) ⟨Nat.le_refl _, Nat.le_refl _⟩ (x_fM_away hG (d - 1) (by omega) a5 (m.1 83 p2.toNatClampNeg) (m.1 84 p2.toNatClampNeg) m _ (zw_b1 h)) (fun r8 m9 q => ?_)
        obtain ⟨rfl, h⟩ := q
        refine zr_istore (lo' := [(4, .int r8), (3, .int (a4 ||| (1 <<< (a5 &&& 31)))), (0, .ref (S.heap.size + 68)), (1, .int p1), (2, .int p2)]) X dX11_line_70 (by decide) rfl ?_
        refine zr_goto (tgt := 21) X dX11_line_72 (by decide) ?_
        have h := hl3 _ h
        exact zr_sub [2, 3, 4, 1, 0] rfl h

set_option maxRecDepth 100000 in
set_option maxHeartbeats 4000000 in
theorem x_fM_lines {l : Launch} {S : State} {D : va_G} {cA : Nat → ClassId} {tb sx : Nat → Nat} (hG : zv_G S D cA tb sx) (d : Nat) (hd : 4 ≤ d) (p1 : Int32) (p2 : Int32) (p3 : Int32) (m : zv_M) (P : Int32 → Prop) (h : zw (fM_lines p1 p2 p3 m) P) : zv_Met l S D cA d 0 0 yX11_lines cX11_lines 6 (some .int) [.ref (S.heap.size + 68), .int p1, .int p2, .int p3] SH0 m (zq_i SH0 (fun v m' => m = m' ∧ P v)) := by
  refine zv_met false hG pf_X11_lines (fun z => by cases z) (Nat.le_of_ble_eq_true rfl) [(0, .ref (S.heap.size + 68)), (1, .int p1), (2, .int p2), (3, .int p3)] rfl (fun p e s mi args below meth c X => ?_)
  rw [fM_lines] at h
  refine zr_iconst (v := 0) X dX11_lines_0 (by decide) ?_
  refine zr_istore (lo' := [(4, .int 0), (0, .ref (S.heap.size + 68)), (1, .int p1), (2, .int p2), (3, .int p3)]) X dX11_lines_1 (by decide) rfl ?_
  refine zr_iload_n X dX11_lines_3 3 rfl ?_
  refine zr_istore (lo' := [(5, .int p2), (4, .int 0), (0, .ref (S.heap.size + 68)), (1, .int p1), (2, .int p2), (3, .int p3)]) X dX11_lines_4 (by decide) rfl ?_
  refine zr_sub [2, 3, 5, 1, 0] rfl ?_
  refine zl_w2 (fun a2 a3 => zv_V S D cA p l e (zv_rm d 0 0) s mi args below meth c 6 (MQ below (zv_Q S D cA (zq_i SH0 (fun v m' => m = m' ∧ P v))) args s 0 0 (zv_fr S)) 0 0 6 [(0, .ref (S.heap.size + 68)), (1, .int p1), (3, .int p3), (4, .int a2), (5, .int a3)] [] SH0 m) (fM_lines_l6 p1 p3 m) _ (fun P1 hl1 hr1 a2 a3 h => ?_) zFU 0 p2 (zw_b1 h)
  rw [fM_lines_l6] at h
  refine zr_iload X dX11_lines_6 4 rfl ?_
  refine zr_iload_n X dX11_lines_8 2 rfl ?_
  refine zr_icmp_ge (tgt := 30) X dX11_lines_9 (by decide) (fun q => ?_) (fun q => ?_)
  · rw [if_neg q] at h
    refine zr_iload X dX11_lines_30 3 rfl ?_
    have h := hr1 _ h
    exact zr_iret X dX11_lines_32 rfl ⟨Nat.le_refl _, Nat.le_refl _⟩ ⟨rfl, _, rfl, rfl, h⟩
  · rw [if_pos q] at h
    refine zr_iload X dX11_lines_12 3 rfl ?_
    refine zr_aload_n X dX11_lines_14 0 rfl ?_
    refine zr_iload_n X dX11_lines_15 1 rfl ?_
    refine zr_iload X dX11_lines_16 4 rfl ?_
    refine zr_callV_i (As := [.int p1, .int a3]) (st := [.int a2]) (d := d - 1) X dX11_lines_18 wm_X11_326 my_X11_line mv_X11_line zo_68 rfl (Nat.le_of_ble_eq_true rfl) (zRm (by omega)) ⟨Nat.le_refl _, Nat.le_refl _⟩ (x_fM_line hG (d - 1) (by omega) p1 a3 m _ (zw_b1 h)) (fun r4 m5 q => ?_)
    obtain ⟨rfl, h⟩ := q
    refine zr_ior X dX11_lines_21 ?_
    refine zr_istore (lo' := [(4, .int (a2 ||| r4)), (0, .ref (S.heap.size + 68)), (1, .int p1), (3, .int p3), (5, .int a3)]) X dX11_lines_22 (by decide) rfl ?_
    refine zr_iinc (v := a3 + 1) (lo' := [(5, .int (a3 + 1)), (4, .int (a2 ||| r4)), (0, .ref (S.heap.size + 68)), (1, .int p1), (3, .int p3)]) X dX11_lines_24 4 rfl rfl (by decide) rfl ?_
    refine zr_goto (tgt := 6) X dX11_lines_27 (by decide) ?_
    have h := hl1 _ h
    exact zr_sub [2, 3, 4, 1, 0] rfl h

set_option maxRecDepth 100000 in
set_option maxHeartbeats 4000000 in
theorem x_fM_one {l : Launch} {S : State} {D : va_G} {cA : Nat → ClassId} {tb sx : Nat → Nat} (hG : zv_G S D cA tb sx) (d : Nat) (hd : 3 ≤ d) (p1 : Int32) (p2 : Int32) (p3 : Int32) (m : zv_M) (P : Int32 → Prop) (h : zw (fM_one p1 p2 p3 m) P) : zv_Met l S D cA d 0 0 yX11_one cX11_one 5 (some .int) [.ref (S.heap.size + 68), .int p1, .int p2, .int p3] SH0 m (zq_i SH0 (fun v m' => m = m' ∧ P v)) := by
  refine zv_met false hG pf_X11_one (fun z => by cases z) (Nat.le_of_ble_eq_true rfl) [(0, .ref (S.heap.size + 68)), (1, .int p1), (2, .int p2), (3, .int p3)] rfl (fun p e s mi args below meth c X => ?_)
  rw [fM_one] at h
  refine zr_aload_n X dX11_one_0 0 rfl ?_
  refine zr_iload_n X dX11_one_1 1 rfl ?_
  refine zr_iload_n X dX11_one_2 2 rfl ?_
  refine zr_iload_n X dX11_one_3 3 rfl ?_
  refine zr_callV_i (As := [.int p1, .int p2, .int p3]) (st := []) (d := d - 1) X dX11_one_4 wm_X11_319 my_X11_away mv_X11_away zo_68 rfl (Nat.le_of_ble_eq_true rfl) (zRm (by omega)) ⟨Nat.le_refl _, Nat.le_refl _⟩ (x_fM_away hG (d - 1) (by omega) p1 p2 p3 m _ (zw_b1 h)) (fun r1 m2 q => ?_)
  obtain ⟨rfl, h⟩ := q
  refine zr_istore (lo' := [(4, .int r1), (0, .ref (S.heap.size + 68)), (1, .int p1), (2, .int p2), (3, .int p3)]) X dX11_one_7 (by decide) rfl ?_
  refine zr_iload X dX11_one_9 0 rfl ?_
  refine zr_if_lt (tgt := 33) X dX11_one_11 (by decide) (fun q => ?_) (fun q => ?_)
  · rw [if_pos q] at h
    refine zr_iconst (v := 0) X dX11_one_33 (by decide) ?_
    refine zr_goto (tgt := 41) X dX11_one_34 (by decide) ?_
    exact zr_iret X dX11_one_41 rfl ⟨Nat.le_refl _, Nat.le_refl _⟩ ⟨rfl, _, rfl, rfl, h⟩
  · rw [if_neg q] at h
    refine zr_iload X dX11_one_14 0 rfl ?_
    refine zr_iload_n X dX11_one_16 2 rfl ?_
    refine zr_icmp_eq (tgt := 33) X dX11_one_17 (by decide) (fun q => ?_) (fun q => ?_)
    · rw [if_pos q] at h
      refine zr_iconst (v := 0) X dX11_one_33 (by decide) ?_
      refine zr_goto (tgt := 41) X dX11_one_34 (by decide) ?_
      exact zr_iret X dX11_one_41 rfl ⟨Nat.le_refl _, Nat.le_refl _⟩ ⟨rfl, _, rfl, rfl, h⟩
    · rw [if_neg q] at h
      refine zr_aload_n X dX11_one_20 1 rfl ?_
      refine zr_aload_n X dX11_one_21 1 rfl ?_
      refine zr_getI X dX11_one_22 zd_X11_16 rfl zo_68 (by rw [zk_11 zo_68]; decide) ?_
      refine zr_iload X dX11_one_25 0 rfl ?_
      refine zr_callV_i (As := [.int (m.1 68 2), .int r1]) (st := []) (d := d - 1) X dX11_one_27 wm_X11_323 my_X11_has mv_X11_has zo_68 rfl (Nat.le_of_ble_eq_true rfl) (zRm (by omega)) ⟨Nat.le_refl _, Nat.le_refl _⟩ (x_fM_has hG (d - 1) (by omega) (m.1 68 2) r1 m _ (zw_b1 h)) (fun r3 m4 q => ?_)
      obtain ⟨rfl, h⟩ := q
      refine zr_if_eq (tgt := 37) X dX11_one_30 (by decide) (fun q => ?_) (fun q => ?_)
      · rw [if_pos q] at h
        refine zr_iconst (v := 1) X dX11_one_37 (by decide) ?_
        refine zr_iload X dX11_one_38 0 rfl ?_
        refine zr_ishl X dX11_one_40 ?_
        exact zr_iret X dX11_one_41 rfl ⟨Nat.le_refl _, Nat.le_refl _⟩ ⟨rfl, _, rfl, rfl, h⟩
      · rw [if_neg q] at h
        refine zr_iconst (v := 0) X dX11_one_33 (by decide) ?_
        refine zr_goto (tgt := 41) X dX11_one_34 (by decide) ?_
        exact zr_iret X dX11_one_41 rfl ⟨Nat.le_refl _, Nat.le_refl _⟩ ⟨rfl, _, rfl, rfl, h⟩

set_option maxRecDepth 100000 in
set_option maxHeartbeats 4000000 in
theorem x_fM_nextTo {l : Launch} {S : State} {D : va_G} {cA : Nat → ClassId} {tb sx : Nat → Nat} (hG : zv_G S D cA tb sx) (d : Nat) (hd : 4 ≤ d) (p1 : Int32) (p2 : Int32) (m : zv_M) (P : Int32 → Prop) (h : zw (fM_nextTo p1 p2 m) P) : zv_Met l S D cA d 0 0 yX11_nextTo cX11_nextTo 5 (some .int) [.ref (S.heap.size + 68), .int p1, .int p2] SH0 m (zq_i SH0 (fun v m' => m = m' ∧ P v)) := by
  refine zv_met false hG pf_X11_nextTo (fun z => by cases z) (Nat.le_of_ble_eq_true rfl) [(0, .ref (S.heap.size + 68)), (1, .int p1), (2, .int p2)] rfl (fun p e s mi args below meth c X => ?_)
  rw [fM_nextTo] at h
  refine zr_iconst (v := 0) X dX11_nextTo_0 (by decide) ?_
  refine zr_istore_n (lo' := [(3, .int 0), (0, .ref (S.heap.size + 68)), (1, .int p1), (2, .int p2)]) X dX11_nextTo_1 (by decide) rfl ?_
  refine zr_iconst (v := 0) X dX11_nextTo_2 (by decide) ?_
  refine zr_istore (lo' := [(4, .int 0), (3, .int 0), (0, .ref (S.heap.size + 68)), (1, .int p1), (2, .int p2)]) X dX11_nextTo_3 (by decide) rfl ?_
  refine zr_sub [2, 3, 4, 1, 0] rfl ?_
  refine zl_w2 (fun a2 a3 => zv_V S D cA p l e (zv_rm d 0 0) s mi args below meth c 5 (MQ below (zv_Q S D cA (zq_i SH0 (fun v m' => m = m' ∧ P v))) args s 0 0 (zv_fr S)) 0 0 5 [(0, .ref (S.heap.size + 68)), (1, .int p1), (2, .int p2), (3, .int a2), (4, .int a3)] [] SH0 m) (fM_nextTo_l5 p1 p2 m) _ (fun P1 hl1 hr1 a2 a3 h => ?_) zFU 0 0 (zw_b1 h)
  rw [fM_nextTo_l5] at h
  refine zr_iload X dX11_nextTo_5 4 rfl ?_
  refine zr_bipush (v := 8) X dX11_nextTo_7 (by decide) ?_
  refine zr_icmp_ge (tgt := 66) X dX11_nextTo_9 (by decide) (fun q => ?_) (fun q => ?_)
  · rw [if_neg q] at h
    refine zr_iload_n X dX11_nextTo_66 3 rfl ?_
    have h := hr1 _ h
    exact zr_iret X dX11_nextTo_67 rfl ⟨Nat.le_refl _, Nat.le_refl _⟩ ⟨rfl, _, rfl, rfl, h⟩
  · rw [if_pos q] at h
    refine zr_aload_n X dX11_nextTo_12 0 rfl ?_
    refine zr_getR X dX11_nextTo_13 zd_X11_26 rfl zo_68 zl_68_5 ?_
    refine zr_iload_n X dX11_nextTo_16 1 rfl ?_
    obtain ⟨g0, h⟩ := zg_e h
    refine zr_iald X dX11_nextTo_17 za_69 (zI_in g0) ?_
    refine zr_iconst (v := 3) X dX11_nextTo_18 (by decide) ?_
    have hJ38 : zw (fM_nextTo_j38 p2 m a2 a3) P1 → zv_V S D cA p l e (zv_rm d 0 0) s mi args below meth c 5 (MQ below (zv_Q S D cA (zq_i SH0 (fun v m' => m = m' ∧ P v))) args s 0 0 (zv_fr S)) 0 0 38 [(0, .ref (S.heap.size + 68)), (1, .int p1), (2, .int p2), (3, .int a2), (4, .int a3)] [] SH0 m := by
      intro h
      rw [fM_nextTo_j38] at h
      refine zr_iload_n X dX11_nextTo_38 3 rfl ?_
      refine zr_aload_n X dX11_nextTo_39 0 rfl ?_
      refine zr_iload_n X dX11_nextTo_40 2 rfl ?_
      refine zr_aload_n X dX11_nextTo_41 0 rfl ?_
      refine zr_getR X dX11_nextTo_42 zd_X11_94 rfl zo_68 zl_68_27 ?_
      refine zr_iload X dX11_nextTo_45 4 rfl ?_
      obtain ⟨g0, h⟩ := zg_e h
      refine zr_iald X dX11_nextTo_47 za_83 (zI_in g0) ?_
      refine zr_aload_n X dX11_nextTo_48 0 rfl ?_
      refine zr_getR X dX11_nextTo_49 zd_X11_97 rfl zo_68 zl_68_28 ?_
      refine zr_iload X dX11_nextTo_52 4 rfl ?_
      obtain ⟨g0, h⟩ := zg_e h
      refine zr_iald X dX11_nextTo_54 za_84 (zI_in g0) ?_
      refine zr_callV_i (As := [.int p2, .int (m.1 83 a3.toNatClampNeg), .int (m.1 84 a3.toNatClampNeg)]) (st := [.int a2]) (d := d - 1) X dX11_nextTo_55 wm_X11_329 my_X11_one mv_X11_one zo_68 rfl (Nat.le_of_ble_eq_true rfl) (zRm (by omega)) ⟨Nat.le_refl _, Nat.le_refl _⟩ (x_fM_one hG (d - 1) (by omega) p2 (m.1 83 a3.toNatClampNeg) (m.1 84 a3.toNatClampNeg) m _ (zw_b1 h)) (fun r4 m5 q => ?_)
      obtain ⟨rfl, h⟩ := q
      refine zr_ior X dX11_nextTo_58 ?_
      refine zr_istore_n (lo' := [(3, .int (a2 ||| r4)), (0, .ref (S.heap.size + 68)), (1, .int p1), (2, .int p2), (4, .int a3)]) X dX11_nextTo_59 (by decide) rfl ?_
      refine zr_iinc (v := a3 + 1) (lo' := [(4, .int (a3 + 1)), (3, .int (a2 ||| r4)), (0, .ref (S.heap.size + 68)), (1, .int p1), (2, .int p2)]) X dX11_nextTo_60 4 rfl rfl (by decide) rfl ?_
      refine zr_goto (tgt := 5) X dX11_nextTo_63 (by decide) ?_
      have h := hl1 _ h
      exact zr_sub [2, 3, 4, 1, 0] rfl h
    have hJ60 : ∀ (a6 : Int32), zw (fM_nextTo_j60 a3 a6) P1 → zv_V S D cA p l e (zv_rm d 0 0) s mi args below meth c 5 (MQ below (zv_Q S D cA (zq_i SH0 (fun v m' => m = m' ∧ P v))) args s 0 0 (zv_fr S)) 0 0 60 [(0, .ref (S.heap.size + 68)), (1, .int p1), (2, .int p2), (3, .int a6), (4, .int a3)] [] SH0 m := by
      intro a6 h
      rw [fM_nextTo_j60] at h
      refine zr_iinc (v := a3 + 1) (lo' := [(4, .int (a3 + 1)), (0, .ref (S.heap.size + 68)), (1, .int p1), (2, .int p2), (3, .int a6)]) X dX11_nextTo_60 4 rfl rfl (by decide) rfl ?_
      refine zr_goto (tgt := 5) X dX11_nextTo_63 (by decide) ?_
      have h := hl1 _ h
      exact zr_sub [1, 2, 3, 4, 0] rfl h
    refine zr_icmp_eq (tgt := 38) X dX11_nextTo_19 (by decide) (fun q => ?_) (fun q => ?_)
    · rw [if_pos q] at h
      exact zr_sub [0, 1, 2, 3, 4] rfl (hJ38 h)
    · rw [if_neg q] at h
      refine zr_aload_n X dX11_nextTo_22 0 rfl ?_
      refine zr_getR X dX11_nextTo_23 zd_X11_33 rfl zo_68 zl_68_7 ?_
      refine zr_bipush (v := 8) X dX11_nextTo_26 (by decide) ?_
      refine zr_iload_n X dX11_nextTo_28 1 rfl ?_
      refine zr_imul X dX11_nextTo_29 ?_
      refine zr_iload X dX11_nextTo_30 4 rfl ?_
      refine zr_iadd X dX11_nextTo_32 ?_
      obtain ⟨g0, h⟩ := zg_e h
      refine zr_iald X dX11_nextTo_33 za_71 (zI_in g0) ?_
      refine zr_iconst (v := 1) X dX11_nextTo_34 (by decide) ?_
      refine zr_icmp_ne (tgt := 60) X dX11_nextTo_35 (by decide) (fun q => ?_) (fun q => ?_)
      · rw [if_neg q] at h
        exact zr_sub [0, 1, 2, 3, 4] rfl (hJ60 a2 h)
      · rw [if_pos q] at h
        exact zr_sub [0, 1, 2, 3, 4] rfl (hJ38 h)

set_option maxRecDepth 100000 in
set_option maxHeartbeats 4000000 in
theorem x_fM_leaps {l : Launch} {S : State} {D : va_G} {cA : Nat → ClassId} {tb sx : Nat → Nat} (hG : zv_G S D cA tb sx) (d : Nat) (hd : 4 ≤ d) (p1 : Int32) (m : zv_M) (P : Int32 → Prop) (h : zw (fM_leaps p1 m) P) : zv_Met l S D cA d 0 0 yX11_leaps cX11_leaps 4 (some .int) [.ref (S.heap.size + 68), .int p1] SH0 m (zq_i SH0 (fun v m' => m = m' ∧ P v)) := by
  refine zv_met false hG pf_X11_leaps (fun z => by cases z) (Nat.le_of_ble_eq_true rfl) [(0, .ref (S.heap.size + 68)), (1, .int p1)] rfl (fun p e s mi args below meth c X => ?_)
  rw [fM_leaps] at h
  refine zr_iconst (v := 0) X dX11_leaps_0 (by decide) ?_
  refine zr_istore_n (lo' := [(2, .int 0), (0, .ref (S.heap.size + 68)), (1, .int p1)]) X dX11_leaps_1 (by decide) rfl ?_
  refine zr_iconst (v := 4) X dX11_leaps_2 (by decide) ?_
  refine zr_istore_n (lo' := [(3, .int 4), (2, .int 0), (0, .ref (S.heap.size + 68)), (1, .int p1)]) X dX11_leaps_3 (by decide) rfl ?_
  refine zr_sub [2, 3, 1, 0] rfl ?_
  refine zl_w2 (fun a2 a3 => zv_V S D cA p l e (zv_rm d 0 0) s mi args below meth c 4 (MQ below (zv_Q S D cA (zq_i SH0 (fun v m' => m = m' ∧ P v))) args s 0 0 (zv_fr S)) 0 0 4 [(0, .ref (S.heap.size + 68)), (1, .int p1), (2, .int a2), (3, .int a3)] [] SH0 m) (fM_leaps_l4 p1 m) _ (fun P1 hl1 hr1 a2 a3 h => ?_) zFU 0 4 (zw_b1 h)
  rw [fM_leaps_l4] at h
  refine zr_iload_n X dX11_leaps_4 3 rfl ?_
  refine zr_bipush (v := 8) X dX11_leaps_5 (by decide) ?_
  refine zr_icmp_ge (tgt := 58) X dX11_leaps_7 (by decide) (fun q => ?_) (fun q => ?_)
  · rw [if_neg q] at h
    refine zr_iload_n X dX11_leaps_58 2 rfl ?_
    have h := hr1 _ h
    exact zr_iret X dX11_leaps_59 rfl ⟨Nat.le_refl _, Nat.le_refl _⟩ ⟨rfl, _, rfl, rfl, h⟩
  · rw [if_pos q] at h
    refine zr_iload_n X dX11_leaps_10 2 rfl ?_
    refine zr_aload_n X dX11_leaps_11 0 rfl ?_
    refine zr_iload_n X dX11_leaps_12 1 rfl ?_
    refine zr_aload_n X dX11_leaps_13 0 rfl ?_
    refine zr_getR X dX11_leaps_14 zd_X11_94 rfl zo_68 zl_68_27 ?_
    refine zr_iload_n X dX11_leaps_17 3 rfl ?_
    obtain ⟨g0, h⟩ := zg_e h
    refine zr_iald X dX11_leaps_18 za_83 (zI_in g0) ?_
    refine zr_iconst (v := 2) X dX11_leaps_19 (by decide) ?_
    refine zr_aload_n X dX11_leaps_20 0 rfl ?_
    refine zr_getR X dX11_leaps_21 zd_X11_97 rfl zo_68 zl_68_28 ?_
    refine zr_iload_n X dX11_leaps_24 3 rfl ?_
    obtain ⟨g0, h⟩ := zg_e h
    refine zr_iald X dX11_leaps_25 za_84 (zI_in g0) ?_
    refine zr_imul X dX11_leaps_26 ?_
    refine zr_callV_i (As := [.int p1, .int (m.1 83 a3.toNatClampNeg), .int (2 * (m.1 84 a3.toNatClampNeg))]) (st := [.int a2]) (d := d - 1) X dX11_leaps_27 wm_X11_329 my_X11_one mv_X11_one zo_68 rfl (Nat.le_of_ble_eq_true rfl) (zRm (by omega)) ⟨Nat.le_refl _, Nat.le_refl _⟩ (x_fM_one hG (d - 1) (by omega) p1 (m.1 83 a3.toNatClampNeg) (2 * (m.1 84 a3.toNatClampNeg)) m _ (zw_b1 h)) (fun r4 m5 q => ?_)
    obtain ⟨rfl, h⟩ := q
    refine zr_aload_n X dX11_leaps_30 0 rfl ?_
    refine zr_iload_n X dX11_leaps_31 1 rfl ?_
    refine zr_iconst (v := 2) X dX11_leaps_32 (by decide) ?_
    refine zr_aload_n X dX11_leaps_33 0 rfl ?_
    refine zr_getR X dX11_leaps_34 zd_X11_94 rfl zo_68 zl_68_27 ?_
    refine zr_iload_n X dX11_leaps_37 3 rfl ?_
    obtain ⟨g0, h⟩ := zg_e h
    refine zr_iald X dX11_leaps_38 za_83 (zI_in g0) ?_
    refine zr_imul X dX11_leaps_39 ?_
    refine zr_aload_n X dX11_leaps_40 0 rfl ?_
    refine zr_getR X dX11_leaps_41 zd_X11_97 rfl zo_68 zl_68_28 ?_
    refine zr_iload_n X dX11_leaps_44 3 rfl ?_
    obtain ⟨g0, h⟩ := zg_e h
    refine zr_iald X dX11_leaps_45 za_84 (zI_in g0) ?_
    refine zr_callV_i (As := [.int p1, .int (2 * (m.1 83 a3.toNatClampNeg)), .int (m.1 84 a3.toNatClampNeg)]) (st := [.int r4, .int a2]) (d := d - 1) X dX11_leaps_46 wm_X11_329 my_X11_one mv_X11_one zo_68 rfl (Nat.le_of_ble_eq_true rfl) (zRm (by omega)) ⟨Nat.le_refl _, Nat.le_refl _⟩ (x_fM_one hG (d - 1) (by omega) p1 (2 * (m.1 83 a3.toNatClampNeg)) (m.1 84 a3.toNatClampNeg) m _ (zw_b1 h)) (fun r6 m7 q => ?_)
    obtain ⟨rfl, h⟩ := q
    refine zr_ior X dX11_leaps_49 ?_
    refine zr_ior X dX11_leaps_50 ?_
    refine zr_istore_n (lo' := [(2, .int (a2 ||| (r4 ||| r6))), (0, .ref (S.heap.size + 68)), (1, .int p1), (3, .int a3)]) X dX11_leaps_51 (by decide) rfl ?_
    refine zr_iinc (v := a3 + 1) (lo' := [(3, .int (a3 + 1)), (2, .int (a2 ||| (r4 ||| r6))), (0, .ref (S.heap.size + 68)), (1, .int p1)]) X dX11_leaps_52 3 rfl rfl (by decide) rfl ?_
    refine zr_goto (tgt := 4) X dX11_leaps_55 (by decide) ?_
    have h := hl1 _ h
    exact zr_sub [2, 3, 1, 0] rfl h

set_option maxRecDepth 100000 in
set_option maxHeartbeats 4000000 in
theorem x_fM_seesOf {l : Launch} {S : State} {D : va_G} {cA : Nat → ClassId} {tb sx : Nat → Nat} (hG : zv_G S D cA tb sx) (d : Nat) (hd : 5 ≤ d) (p1 : Int32) (p2 : Int32) (m : zv_M) (P : Int32 → Prop) (h : zw (fM_seesOf p1 p2 m) P) : zv_Met l S D cA d 0 0 yX11_seesOf cX11_seesOf 3 (some .int) [.ref (S.heap.size + 68), .int p1, .int p2] SH0 m (zq_i SH0 (fun v m' => m = m' ∧ P v)) := by
  refine zv_met false hG pf_X11_seesOf (fun z => by cases z) (Nat.le_of_ble_eq_true rfl) [(0, .ref (S.heap.size + 68)), (1, .int p1), (2, .int p2)] rfl (fun p e s mi args below meth c X => ?_)
  rw [fM_seesOf] at h
  refine zr_aload_n X dX11_seesOf_0 0 rfl ?_
  refine zr_getR X dX11_seesOf_1 zd_X11_26 rfl zo_68 zl_68_5 ?_
  refine zr_iload_n X dX11_seesOf_4 1 rfl ?_
  obtain ⟨g0, h⟩ := zg_e h
  refine zr_iald X dX11_seesOf_5 za_69 (zI_in g0) ?_
  by_cases e0 : m.1 69 p1.toNatClampNeg = 1
  · rw [if_pos e0] at h
    refine zr_tableIn (tgt := 44) X dX11_seesOf_6 1 (by rw [e0]; decide) (by decide) (by decide) rfl (by decide) ?_
    refine zr_aload_n X dX11_seesOf_44 0 rfl ?_
    refine zr_iload_n X dX11_seesOf_45 2 rfl ?_
    refine zr_iconst (v := 0) X dX11_seesOf_46 (by decide) ?_
    refine zr_iconst (v := 4) X dX11_seesOf_47 (by decide) ?_
    refine zr_callV_i (As := [.int p2, .int 0, .int 4]) (st := []) (d := d - 1) X dX11_seesOf_48 wm_X11_332 my_X11_lines mv_X11_lines zo_68 rfl (Nat.le_of_ble_eq_true rfl) (zRm (by omega)) ⟨Nat.le_refl _, Nat.le_refl _⟩ (x_fM_lines hG (d - 1) (by omega) p2 0 4 m _ (zw_b1 h)) (fun r1 m2 q => ?_)
    obtain ⟨rfl, h⟩ := q
    exact zr_iret X dX11_seesOf_51 rfl ⟨Nat.le_refl _, Nat.le_refl _⟩ ⟨rfl, _, rfl, rfl, h⟩
  rw [if_neg e0] at h
  by_cases e1 : m.1 69 p1.toNatClampNeg = 2
  · rw [if_pos e1] at h
    refine zr_tableIn (tgt := 52) X dX11_seesOf_6 2 (by rw [e1]; decide) (by decide) (by decide) rfl (by decide) ?_
    refine zr_aload_n X dX11_seesOf_52 0 rfl ?_
    refine zr_iload_n X dX11_seesOf_53 2 rfl ?_
    refine zr_iconst (v := 4) X dX11_seesOf_54 (by decide) ?_
    refine zr_bipush (v := 8) X dX11_seesOf_55 (by decide) ?_
    refine zr_callV_i (As := [.int p2, .int 4, .int 8]) (st := []) (d := d - 1) X dX11_seesOf_57 wm_X11_332 my_X11_lines mv_X11_lines zo_68 rfl (Nat.le_of_ble_eq_true rfl) (zRm (by omega)) ⟨Nat.le_refl _, Nat.le_refl _⟩ (x_fM_lines hG (d - 1) (by omega) p2 4 8 m _ (zw_b1 h)) (fun r3 m4 q => ?_)
    obtain ⟨rfl, h⟩ := q
    exact zr_iret X dX11_seesOf_60 rfl ⟨Nat.le_refl _, Nat.le_refl _⟩ ⟨rfl, _, rfl, rfl, h⟩
  rw [if_neg e1] at h
  by_cases e2 : m.1 69 p1.toNatClampNeg = 3
  · rw [if_pos e2] at h
    refine zr_tableIn (tgt := 61) X dX11_seesOf_6 3 (by rw [e2]; decide) (by decide) (by decide) rfl (by decide) ?_
    refine zr_aload_n X dX11_seesOf_61 0 rfl ?_
    refine zr_iload_n X dX11_seesOf_62 1 rfl ?_
    refine zr_iload_n X dX11_seesOf_63 2 rfl ?_
    refine zr_callV_i (As := [.int p1, .int p2]) (st := []) (d := d - 1) X dX11_seesOf_64 wm_X11_335 my_X11_nextTo mv_X11_nextTo zo_68 rfl (Nat.le_of_ble_eq_true rfl) (zRm (by omega)) ⟨Nat.le_refl _, Nat.le_refl _⟩ (x_fM_nextTo hG (d - 1) (by omega) p1 p2 m _ (zw_b1 h)) (fun r5 m6 q => ?_)
    obtain ⟨rfl, h⟩ := q
    exact zr_iret X dX11_seesOf_67 rfl ⟨Nat.le_refl _, Nat.le_refl _⟩ ⟨rfl, _, rfl, rfl, h⟩
  rw [if_neg e2] at h
  by_cases e3 : m.1 69 p1.toNatClampNeg = 4
  · rw [if_pos e3] at h
    refine zr_tableIn (tgt := 68) X dX11_seesOf_6 4 (by rw [e3]; decide) (by decide) (by decide) rfl (by decide) ?_
    refine zr_aload_n X dX11_seesOf_68 0 rfl ?_
    refine zr_iload_n X dX11_seesOf_69 2 rfl ?_
    refine zr_iconst (v := 0) X dX11_seesOf_70 (by decide) ?_
    refine zr_bipush (v := 8) X dX11_seesOf_71 (by decide) ?_
    refine zr_callV_i (As := [.int p2, .int 0, .int 8]) (st := []) (d := d - 1) X dX11_seesOf_73 wm_X11_332 my_X11_lines mv_X11_lines zo_68 rfl (Nat.le_of_ble_eq_true rfl) (zRm (by omega)) ⟨Nat.le_refl _, Nat.le_refl _⟩ (x_fM_lines hG (d - 1) (by omega) p2 0 8 m _ (zw_b1 h)) (fun r7 m8 q => ?_)
    obtain ⟨rfl, h⟩ := q
    exact zr_iret X dX11_seesOf_76 rfl ⟨Nat.le_refl _, Nat.le_refl _⟩ ⟨rfl, _, rfl, rfl, h⟩
  rw [if_neg e3] at h
  by_cases e4 : m.1 69 p1.toNatClampNeg = 5
  · rw [if_pos e4] at h
    refine zr_tableIn (tgt := 77) X dX11_seesOf_6 5 (by rw [e4]; decide) (by decide) (by decide) rfl (by decide) ?_
    refine zr_aload_n X dX11_seesOf_77 0 rfl ?_
    refine zr_getR X dX11_seesOf_78 zd_X11_30 rfl zo_68 zl_68_6 ?_
    refine zr_iload_n X dX11_seesOf_81 1 rfl ?_
    obtain ⟨g0, h⟩ := zg_e h
    refine zr_iald X dX11_seesOf_82 za_70 (zI_in g0) ?_
    refine zr_iconst (v := 5) X dX11_seesOf_83 (by decide) ?_
    refine zr_icmp_ge (tgt := 98) X dX11_seesOf_84 (by decide) (fun q => ?_) (fun q => ?_)
    · rw [if_neg q] at h
      refine zr_aload_n X dX11_seesOf_98 0 rfl ?_
      refine zr_iload_n X dX11_seesOf_99 2 rfl ?_
      refine zr_callV_i (As := [.int p2]) (st := []) (d := d - 1) X dX11_seesOf_100 wm_X11_338 my_X11_leaps mv_X11_leaps zo_68 rfl (Nat.le_of_ble_eq_true rfl) (zRm (by omega)) ⟨Nat.le_refl _, Nat.le_refl _⟩ (x_fM_leaps hG (d - 1) (by omega) p2 m _ (zw_b1 h)) (fun r9 m10 q => ?_)
      obtain ⟨rfl, h⟩ := q
      exact zr_iret X dX11_seesOf_103 rfl ⟨Nat.le_refl _, Nat.le_refl _⟩ ⟨rfl, _, rfl, rfl, h⟩
    · rw [if_pos q] at h
      refine zr_aload_n X dX11_seesOf_87 0 rfl ?_
      refine zr_iload_n X dX11_seesOf_88 2 rfl ?_
      refine zr_iconst (v := 4) X dX11_seesOf_89 (by decide) ?_
      refine zr_bipush (v := 8) X dX11_seesOf_90 (by decide) ?_
      refine zr_callV_i (As := [.int p2, .int 4, .int 8]) (st := []) (d := d - 1) X dX11_seesOf_92 wm_X11_332 my_X11_lines mv_X11_lines zo_68 rfl (Nat.le_of_ble_eq_true rfl) (zRm (by omega)) ⟨Nat.le_refl _, Nat.le_refl _⟩ (x_fM_lines hG (d - 1) (by omega) p2 4 8 m _ (zw_b1 h)) (fun r11 m12 q => ?_)
      obtain ⟨rfl, h⟩ := q
      refine zr_goto (tgt := 103) X dX11_seesOf_95 (by decide) ?_
      exact zr_iret X dX11_seesOf_103 rfl ⟨Nat.le_refl _, Nat.le_refl _⟩ ⟨rfl, _, rfl, rfl, h⟩
  rw [if_neg e4] at h
  by_cases e5 : m.1 69 p1.toNatClampNeg = 6
  · rw [if_pos e5] at h
    refine zr_tableIn (tgt := 61) X dX11_seesOf_6 6 (by rw [e5]; decide) (by decide) (by decide) rfl (by decide) ?_
    refine zr_aload_n X dX11_seesOf_61 0 rfl ?_
    refine zr_iload_n X dX11_seesOf_62 1 rfl ?_
    refine zr_iload_n X dX11_seesOf_63 2 rfl ?_
    refine zr_callV_i (As := [.int p1, .int p2]) (st := []) (d := d - 1) X dX11_seesOf_64 wm_X11_335 my_X11_nextTo mv_X11_nextTo zo_68 rfl (Nat.le_of_ble_eq_true rfl) (zRm (by omega)) ⟨Nat.le_refl _, Nat.le_refl _⟩ (x_fM_nextTo hG (d - 1) (by omega) p1 p2 m _ (zw_b1 h)) (fun r13 m14 q => ?_)
    obtain ⟨rfl, h⟩ := q
    exact zr_iret X dX11_seesOf_67 rfl ⟨Nat.le_refl _, Nat.le_refl _⟩ ⟨rfl, _, rfl, rfl, h⟩
  rw [if_neg e5] at h
  refine zr_tableOut (tgt := 104) X dX11_seesOf_6 (by have ze0 := lv_neT e0 (by decide : (1 : Int32).toInt = 1); have ze1 := lv_neT e1 (by decide : (2 : Int32).toInt = 2); have ze2 := lv_neT e2 (by decide : (3 : Int32).toInt = 3); have ze3 := lv_neT e3 (by decide : (4 : Int32).toInt = 4); have ze4 := lv_neT e4 (by decide : (5 : Int32).toInt = 5); have ze5 := lv_neT e5 (by decide : (6 : Int32).toInt = 6); omega) (by decide) ?_
  refine zr_iconst (v := 0) X dX11_seesOf_104 (by decide) ?_
  exact zr_iret X dX11_seesOf_105 rfl ⟨Nat.le_refl _, Nat.le_refl _⟩ ⟨rfl, _, rfl, rfl, h⟩

set_option maxRecDepth 100000 in
set_option maxHeartbeats 4000000 in
theorem x_fM_sees {l : Launch} {S : State} {D : va_G} {cA : Nat → ClassId} {tb sx : Nat → Nat} (hG : zv_G S D cA tb sx) (d : Nat) (hd : 6 ≤ d) (p1 : Int32) (p2 : Int32) (m : zv_M) (P : Int32 → Prop) (h : zw (fM_sees p1 p2 m) P) : zv_Met l S D cA d 0 0 yX11_sees cX11_sees 3 (some .int) [.ref (S.heap.size + 68), .int p1, .int p2] SH0 m (zq_i SH0 (fun v m' => m = m' ∧ P v)) := by
  refine zv_met false hG pf_X11_sees (fun z => by cases z) (Nat.le_of_ble_eq_true rfl) [(0, .ref (S.heap.size + 68)), (1, .int p1), (2, .int p2)] rfl (fun p e s mi args below meth c X => ?_)
  rw [fM_sees] at h
  refine zr_aload_n X dX11_sees_0 0 rfl ?_
  refine zr_iload_n X dX11_sees_1 1 rfl ?_
  refine zr_callV_i (As := [.int p1]) (st := []) (d := d - 1) X dX11_sees_2 wm_X11_234 my_X11_isPlan mv_X11_isPlan zo_68 rfl (Nat.le_of_ble_eq_true rfl) (zRm (by omega)) ⟨Nat.le_refl _, Nat.le_refl _⟩ (x_fM_isPlan hG (d - 1) (by omega) p1 m _ (zw_b1 h)) (fun r1 m2 q => ?_)
  obtain ⟨rfl, h⟩ := q
  refine zr_if_eq (tgt := 25) X dX11_sees_5 (by decide) (fun q => ?_) (fun q => ?_)
  · rw [if_pos q] at h
    refine zr_iconst (v := (-1)) X dX11_sees_25 (by decide) ?_
    exact zr_iret X dX11_sees_26 rfl ⟨Nat.le_refl _, Nat.le_refl _⟩ ⟨rfl, _, rfl, rfl, h⟩
  · rw [if_neg q] at h
    refine zr_aload_n X dX11_sees_8 0 rfl ?_
    refine zr_iload_n X dX11_sees_9 2 rfl ?_
    refine zr_callV_i (As := [.int p2]) (st := []) (d := d - 1) X dX11_sees_10 wm_X11_341 my_X11_isSquare mv_X11_isSquare zo_68 rfl (Nat.le_of_ble_eq_true rfl) (zRm (by omega)) ⟨Nat.le_refl _, Nat.le_refl _⟩ (x_fM_isSquare hG (d - 1) (by omega) p2 m _ (zw_b1 h)) (fun r3 m4 q => ?_)
    obtain ⟨rfl, h⟩ := q
    refine zr_if_eq (tgt := 25) X dX11_sees_13 (by decide) (fun q => ?_) (fun q => ?_)
    · rw [if_pos q] at h
      refine zr_iconst (v := (-1)) X dX11_sees_25 (by decide) ?_
      exact zr_iret X dX11_sees_26 rfl ⟨Nat.le_refl _, Nat.le_refl _⟩ ⟨rfl, _, rfl, rfl, h⟩
    · rw [if_neg q] at h
      refine zr_aload_n X dX11_sees_16 0 rfl ?_
      refine zr_iload_n X dX11_sees_17 1 rfl ?_
      refine zr_iload_n X dX11_sees_18 2 rfl ?_
      refine zr_callV_i (As := [.int p1, .int p2]) (st := []) (d := d - 1) X dX11_sees_19 wm_X11_344 my_X11_seesOf mv_X11_seesOf zo_68 rfl (Nat.le_of_ble_eq_true rfl) (zRm (by omega)) ⟨Nat.le_refl _, Nat.le_refl _⟩ (x_fM_seesOf hG (d - 1) (by omega) p1 p2 m _ (zw_b1 h)) (fun r5 m6 q => ?_)
      obtain ⟨rfl, h⟩ := q
      refine zr_goto (tgt := 26) X dX11_sees_22 (by decide) ?_
      exact zr_iret X dX11_sees_26 rfl ⟨Nat.le_refl _, Nat.le_refl _⟩ ⟨rfl, _, rfl, rfl, h⟩

set_option maxRecDepth 100000 in
set_option maxHeartbeats 4000000 in
theorem x_fM_seersOf {l : Launch} {S : State} {D : va_G} {cA : Nat → ClassId} {tb sx : Nat → Nat} (hG : zv_G S D cA tb sx) (d : Nat) (hd : 6 ≤ d) (p1 : Int32) (m : zv_M) (P : Int32 → Prop) (h : zw (fM_seersOf p1 m) P) : zv_Met l S D cA d 0 0 yX11_seersOf cX11_seersOf 4 (some .int) [.ref (S.heap.size + 68), .int p1] SH0 m (zq_i SH0 (fun v m' => m = m' ∧ P v)) := by
  refine zv_met false hG pf_X11_seersOf (fun z => by cases z) (Nat.le_of_ble_eq_true rfl) [(0, .ref (S.heap.size + 68)), (1, .int p1)] rfl (fun p e s mi args below meth c X => ?_)
  rw [fM_seersOf] at h
  refine zr_iconst (v := 0) X dX11_seersOf_0 (by decide) ?_
  refine zr_istore_n (lo' := [(2, .int 0), (0, .ref (S.heap.size + 68)), (1, .int p1)]) X dX11_seersOf_1 (by decide) rfl ?_
  refine zr_iconst (v := 0) X dX11_seersOf_2 (by decide) ?_
  refine zr_istore_n (lo' := [(3, .int 0), (2, .int 0), (0, .ref (S.heap.size + 68)), (1, .int p1)]) X dX11_seersOf_3 (by decide) rfl ?_
  refine zr_sub [2, 3, 1, 0] rfl ?_
  refine zl_w2 (fun a2 a3 => zv_V S D cA p l e (zv_rm d 0 0) s mi args below meth c 4 (MQ below (zv_Q S D cA (zq_i SH0 (fun v m' => m = m' ∧ P v))) args s 0 0 (zv_fr S)) 0 0 4 [(0, .ref (S.heap.size + 68)), (1, .int p1), (2, .int a2), (3, .int a3)] [] SH0 m) (fM_seersOf_l4 p1 m) _ (fun P1 hl1 hr1 a2 a3 h => ?_) zFU 0 0 (zw_b1 h)
  rw [fM_seersOf_l4] at h
  refine zr_iload_n X dX11_seersOf_4 3 rfl ?_
  refine zr_aload_n X dX11_seersOf_5 0 rfl ?_
  refine zr_getI X dX11_seersOf_6 zd_X11_13 rfl zo_68 (by rw [zk_11 zo_68]; decide) ?_
  refine zr_aload_n X dX11_seersOf_9 0 rfl ?_
  refine zr_getI X dX11_seersOf_10 zd_X11_13 rfl zo_68 (by rw [zk_11 zo_68]; decide) ?_
  refine zr_imul X dX11_seersOf_13 ?_
  refine zr_icmp_ge (tgt := 61) X dX11_seersOf_14 (by decide) (fun q => ?_) (fun q => ?_)
  · rw [if_neg q] at h
    refine zr_iload_n X dX11_seersOf_61 2 rfl ?_
    have h := hr1 _ h
    exact zr_iret X dX11_seersOf_62 rfl ⟨Nat.le_refl _, Nat.le_refl _⟩ ⟨rfl, _, rfl, rfl, h⟩
  · rw [if_pos q] at h
    refine zr_iload_n X dX11_seersOf_17 2 rfl ?_
    refine zr_aload_n X dX11_seersOf_18 0 rfl ?_
    refine zr_getR X dX11_seersOf_19 zd_X11_36 rfl zo_68 zl_68_8 ?_
    refine zr_iload_n X dX11_seersOf_22 3 rfl ?_
    obtain ⟨g0, h⟩ := zg_e h
    refine zr_iald X dX11_seersOf_23 za_72 (zI_in g0) ?_
    have hJ52 : zw (fM_seersOf_j52 a2 a3) P1 → zv_V S D cA p l e (zv_rm d 0 0) s mi args below meth c 4 (MQ below (zv_Q S D cA (zq_i SH0 (fun v m' => m = m' ∧ P v))) args s 0 0 (zv_fr S)) 0 0 52 [(0, .ref (S.heap.size + 68)), (1, .int p1), (3, .int a3)] [.int a2] SH0 m := by
      intro h
      rw [fM_seersOf_j52] at h
      refine zr_iconst (v := 0) X dX11_seersOf_52 (by decide) ?_
      refine zr_ior X dX11_seersOf_53 ?_
      refine zr_istore_n (lo' := [(2, .int (a2 ||| 0)), (0, .ref (S.heap.size + 68)), (1, .int p1), (3, .int a3)]) X dX11_seersOf_54 (by decide) rfl ?_
      refine zr_iinc (v := a3 + 1) (lo' := [(3, .int (a3 + 1)), (2, .int (a2 ||| 0)), (0, .ref (S.heap.size + 68)), (1, .int p1)]) X dX11_seersOf_55 3 rfl rfl (by decide) rfl ?_
      refine zr_goto (tgt := 4) X dX11_seersOf_58 (by decide) ?_
      have h := hl1 _ h
      exact zr_sub [2, 3, 1, 0] rfl h
    have hJ53 : ∀ (v4 : Int32), zw (fM_seersOf_j53 a2 a3 v4) P1 → zv_V S D cA p l e (zv_rm d 0 0) s mi args below meth c 4 (MQ below (zv_Q S D cA (zq_i SH0 (fun v m' => m = m' ∧ P v))) args s 0 0 (zv_fr S)) 0 0 53 [(0, .ref (S.heap.size + 68)), (1, .int p1), (3, .int a3)] [.int v4, .int a2] SH0 m := by
      intro v4 h
      rw [fM_seersOf_j53] at h
      refine zr_ior X dX11_seersOf_53 ?_
      refine zr_istore_n (lo' := [(2, .int (a2 ||| v4)), (0, .ref (S.heap.size + 68)), (1, .int p1), (3, .int a3)]) X dX11_seersOf_54 (by decide) rfl ?_
      refine zr_iinc (v := a3 + 1) (lo' := [(3, .int (a3 + 1)), (2, .int (a2 ||| v4)), (0, .ref (S.heap.size + 68)), (1, .int p1)]) X dX11_seersOf_55 3 rfl rfl (by decide) rfl ?_
      refine zr_goto (tgt := 4) X dX11_seersOf_58 (by decide) ?_
      have h := hl1 _ h
      exact zr_sub [2, 3, 1, 0] rfl h
    refine zr_if_lt (tgt := 52) X dX11_seersOf_24 (by decide) (fun q => ?_) (fun q => ?_)
    · rw [if_pos q] at h
      exact zr_sub [0, 1, 3] rfl (hJ52 h)
    · rw [if_neg q] at h
      refine zr_aload_n X dX11_seersOf_27 0 rfl ?_
      refine zr_aload_n X dX11_seersOf_28 0 rfl ?_
      refine zr_aload_n X dX11_seersOf_29 0 rfl ?_
      refine zr_getR X dX11_seersOf_30 zd_X11_36 rfl zo_68 zl_68_8 ?_
      refine zr_iload_n X dX11_seersOf_33 3 rfl ?_
      obtain ⟨g0, h⟩ := zg_e h
      refine zr_iald X dX11_seersOf_34 za_72 (zI_in g0) ?_
      refine zr_iload_n X dX11_seersOf_35 3 rfl ?_
      refine zr_callV_i (As := [.int (m.1 72 a3.toNatClampNeg), .int a3]) (st := [.ref (S.heap.size + 68), .int a2]) (d := d - 1) X dX11_seersOf_36 wm_X11_344 my_X11_seesOf mv_X11_seesOf zo_68 rfl (Nat.le_of_ble_eq_true rfl) (zRm (by omega)) ⟨Nat.le_refl _, Nat.le_refl _⟩ (x_fM_seesOf hG (d - 1) (by omega) (m.1 72 a3.toNatClampNeg) a3 m _ (zw_b1 h)) (fun r5 m6 q => ?_)
      obtain ⟨rfl, h⟩ := q
      refine zr_iload_n X dX11_seersOf_39 1 rfl ?_
      refine zr_callV_i (As := [.int r5, .int p1]) (st := [.int a2]) (d := d - 1) X dX11_seersOf_40 wm_X11_323 my_X11_has mv_X11_has zo_68 rfl (Nat.le_of_ble_eq_true rfl) (zRm (by omega)) ⟨Nat.le_refl _, Nat.le_refl _⟩ (x_fM_has hG (d - 1) (by omega) r5 p1 m _ (zw_b1 h)) (fun r7 m8 q => ?_)
      obtain ⟨rfl, h⟩ := q
      refine zr_if_eq (tgt := 52) X dX11_seersOf_43 (by decide) (fun q => ?_) (fun q => ?_)
      · rw [if_pos q] at h
        exact zr_sub [0, 1, 3] rfl (hJ52 h)
      · rw [if_neg q] at h
        refine zr_iconst (v := 1) X dX11_seersOf_46 (by decide) ?_
        refine zr_iload_n X dX11_seersOf_47 3 rfl ?_
        refine zr_ishl X dX11_seersOf_48 ?_
        refine zr_goto (tgt := 53) X dX11_seersOf_49 (by decide) ?_
        exact zr_sub [0, 1, 3] rfl (hJ53 (1 <<< (a3 &&& 31)) h)

set_option maxRecDepth 100000 in
set_option maxHeartbeats 4000000 in
theorem x_fM_isFit {l : Launch} {S : State} {D : va_G} {cA : Nat → ClassId} {tb sx : Nat → Nat} (hG : zv_G S D cA tb sx) (d : Nat) (hd : 7 ≤ d) (p1 : Int32) (p2 : Int32) (m : zv_M) (P : Int32 → Prop) (h : zw (fM_isFit p1 p2 m) P) : zv_Met l S D cA d 0 0 yX11_isFit cX11_isFit 3 (some .boolean) [.ref (S.heap.size + 68), .int p1, .int p2] SH0 m (zq_i SH0 (fun v m' => m = m' ∧ P v)) := by
  refine zv_met false hG pf_X11_isFit (fun z => by cases z) (Nat.le_of_ble_eq_true rfl) [(0, .ref (S.heap.size + 68)), (1, .int p1), (2, .int p2)] rfl (fun p e s mi args below meth c X => ?_)
  rw [fM_isFit] at h
  refine zr_aload_n X dX11_isFit_0 0 rfl ?_
  refine zr_iload_n X dX11_isFit_1 2 rfl ?_
  refine zr_callV_i (As := [.int p2]) (st := []) (d := d - 1) X dX11_isFit_2 wm_X11_347 my_X11_seersOf mv_X11_seersOf zo_68 rfl (Nat.le_of_ble_eq_true rfl) (zRm (by omega)) ⟨Nat.le_refl _, Nat.le_refl _⟩ (x_fM_seersOf hG (d - 1) (by omega) p2 m _ (zw_b1 h)) (fun r1 m2 q => ?_)
  obtain ⟨rfl, h⟩ := q
  refine zr_if_ne (tgt := 26) X dX11_isFit_5 (by decide) (fun q => ?_) (fun q => ?_)
  · rw [if_neg q] at h
    refine zr_iconst (v := 0) X dX11_isFit_26 (by decide) ?_
    exact zr_iret X dX11_isFit_27 rfl ⟨Nat.le_refl _, Nat.le_refl _⟩ ⟨rfl, _, rfl, rfl, h⟩
  · rw [if_pos q] at h
    refine zr_aload_n X dX11_isFit_8 0 rfl ?_
    refine zr_iload_n X dX11_isFit_9 1 rfl ?_
    refine zr_iload_n X dX11_isFit_10 2 rfl ?_
    refine zr_callV_i (As := [.int p1, .int p2]) (st := []) (d := d - 1) X dX11_isFit_11 wm_X11_344 my_X11_seesOf mv_X11_seesOf zo_68 rfl (Nat.le_of_ble_eq_true rfl) (zRm (by omega)) ⟨Nat.le_refl _, Nat.le_refl _⟩ (x_fM_seesOf hG (d - 1) (by omega) p1 p2 m _ (zw_b1 h)) (fun r3 m4 q => ?_)
    obtain ⟨rfl, h⟩ := q
    refine zr_aload_n X dX11_isFit_14 0 rfl ?_
    refine zr_callV_i (As := []) (st := [.int r3]) (d := d - 1) X dX11_isFit_15 wm_X11_238 my_X11_men mv_X11_men zo_68 rfl (Nat.le_of_ble_eq_true rfl) (zRm (by omega)) ⟨Nat.le_refl _, Nat.le_refl _⟩ (x_fM_men hG (d - 1) (by omega) m _ (zw_b1 h)) (fun r5 m6 q => ?_)
    obtain ⟨rfl, h⟩ := q
    refine zr_iand X dX11_isFit_18 ?_
    refine zr_if_ne (tgt := 26) X dX11_isFit_19 (by decide) (fun q => ?_) (fun q => ?_)
    · rw [if_neg q] at h
      refine zr_iconst (v := 0) X dX11_isFit_26 (by decide) ?_
      exact zr_iret X dX11_isFit_27 rfl ⟨Nat.le_refl _, Nat.le_refl _⟩ ⟨rfl, _, rfl, rfl, h⟩
    · rw [if_pos q] at h
      refine zr_iconst (v := 1) X dX11_isFit_22 (by decide) ?_
      refine zr_goto (tgt := 27) X dX11_isFit_23 (by decide) ?_
      exact zr_iret X dX11_isFit_27 rfl ⟨Nat.le_refl _, Nat.le_refl _⟩ ⟨rfl, _, rfl, rfl, h⟩

set_option maxRecDepth 100000 in
set_option maxHeartbeats 4000000 in
theorem x_fM_mayBe {l : Launch} {S : State} {D : va_G} {cA : Nat → ClassId} {tb sx : Nat → Nat} (hG : zv_G S D cA tb sx) (d : Nat) (hd : 2 ≤ d) (p1 : Int32) (m : zv_M) (P : Int32 → Prop) (h : zw (fM_mayBe p1 m) P) : zv_Met l S D cA d 0 0 yX11_mayBe cX11_mayBe 2 (some .boolean) [.ref (S.heap.size + 68), .int p1] SH0 m (zq_i SH0 (fun v m' => m = m' ∧ P v)) := by
  refine zv_met false hG pf_X11_mayBe (fun z => by cases z) (Nat.le_of_ble_eq_true rfl) [(0, .ref (S.heap.size + 68)), (1, .int p1)] rfl (fun p e s mi args below meth c X => ?_)
  rw [fM_mayBe] at h
  refine zr_aload_n X dX11_mayBe_0 0 rfl ?_
  refine zr_getR X dX11_mayBe_1 zd_X11_36 rfl zo_68 zl_68_8 ?_
  refine zr_iload_n X dX11_mayBe_4 1 rfl ?_
  obtain ⟨g0, h⟩ := zg_e h
  refine zr_iald X dX11_mayBe_5 za_72 (zI_in g0) ?_
  refine zr_if_ge (tgt := 25) X dX11_mayBe_6 (by decide) (fun q => ?_) (fun q => ?_)
  · rw [if_neg q] at h
    refine zr_iconst (v := 0) X dX11_mayBe_25 (by decide) ?_
    exact zr_iret X dX11_mayBe_26 rfl ⟨Nat.le_refl _, Nat.le_refl _⟩ ⟨rfl, _, rfl, rfl, h⟩
  · rw [if_pos q] at h
    refine zr_aload_n X dX11_mayBe_9 0 rfl ?_
    refine zr_aload_n X dX11_mayBe_10 0 rfl ?_
    refine zr_getI X dX11_mayBe_11 zd_X11_19 rfl zo_68 (by rw [zk_11 zo_68]; decide) ?_
    refine zr_iload_n X dX11_mayBe_14 1 rfl ?_
    refine zr_callV_i (As := [.int (m.1 68 3), .int p1]) (st := []) (d := d - 1) X dX11_mayBe_15 wm_X11_323 my_X11_has mv_X11_has zo_68 rfl (Nat.le_of_ble_eq_true rfl) (zRm (by omega)) ⟨Nat.le_refl _, Nat.le_refl _⟩ (x_fM_has hG (d - 1) (by omega) (m.1 68 3) p1 m _ (zw_b1 h)) (fun r1 m2 q => ?_)
    obtain ⟨rfl, h⟩ := q
    refine zr_if_ne (tgt := 25) X dX11_mayBe_18 (by decide) (fun q => ?_) (fun q => ?_)
    · rw [if_neg q] at h
      refine zr_iconst (v := 0) X dX11_mayBe_25 (by decide) ?_
      exact zr_iret X dX11_mayBe_26 rfl ⟨Nat.le_refl _, Nat.le_refl _⟩ ⟨rfl, _, rfl, rfl, h⟩
    · rw [if_pos q] at h
      refine zr_iconst (v := 1) X dX11_mayBe_21 (by decide) ?_
      refine zr_goto (tgt := 26) X dX11_mayBe_22 (by decide) ?_
      exact zr_iret X dX11_mayBe_26 rfl ⟨Nat.le_refl _, Nat.le_refl _⟩ ⟨rfl, _, rfl, rfl, h⟩

set_option maxRecDepth 100000 in
set_option maxHeartbeats 4000000 in
theorem x_fM_quarrels {l : Launch} {S : State} {D : va_G} {cA : Nat → ClassId} {tb sx : Nat → Nat} (hG : zv_G S D cA tb sx) (d : Nat) (hd : 7 ≤ d) (p1 : Int32) (m : zv_M) (P : Int32 → Prop) (h : zw (fM_quarrels p1 m) P) : zv_Met l S D cA d 0 0 yX11_quarrels cX11_quarrels 2 (some .int) [.ref (S.heap.size + 68), .int p1] SH0 m (zq_i SH0 (fun v m' => m = m' ∧ P v)) := by
  refine zv_met false hG pf_X11_quarrels (fun z => by cases z) (Nat.le_of_ble_eq_true rfl) [(0, .ref (S.heap.size + 68)), (1, .int p1)] rfl (fun p e s mi args below meth c X => ?_)
  rw [fM_quarrels] at h
  refine zr_aload_n X dX11_quarrels_0 0 rfl ?_
  refine zr_aload_n X dX11_quarrels_1 0 rfl ?_
  refine zr_getR X dX11_quarrels_2 zd_X11_36 rfl zo_68 zl_68_8 ?_
  refine zr_iload_n X dX11_quarrels_5 1 rfl ?_
  obtain ⟨g0, h⟩ := zg_e h
  refine zr_iald X dX11_quarrels_6 za_72 (zI_in g0) ?_
  refine zr_iload_n X dX11_quarrels_7 1 rfl ?_
  refine zr_callV_i (As := [.int (m.1 72 p1.toNatClampNeg), .int p1]) (st := []) (d := d - 1) X dX11_quarrels_8 wm_X11_344 my_X11_seesOf mv_X11_seesOf zo_68 rfl (Nat.le_of_ble_eq_true rfl) (zRm (by omega)) ⟨Nat.le_refl _, Nat.le_refl _⟩ (x_fM_seesOf hG (d - 1) (by omega) (m.1 72 p1.toNatClampNeg) p1 m _ (zw_b1 h)) (fun r1 m2 q => ?_)
  obtain ⟨rfl, h⟩ := q
  refine zr_aload_n X dX11_quarrels_11 0 rfl ?_
  refine zr_iload_n X dX11_quarrels_12 1 rfl ?_
  refine zr_callV_i (As := [.int p1]) (st := [.int r1]) (d := d - 1) X dX11_quarrels_13 wm_X11_347 my_X11_seersOf mv_X11_seersOf zo_68 rfl (Nat.le_of_ble_eq_true rfl) (zRm (by omega)) ⟨Nat.le_refl _, Nat.le_refl _⟩ (x_fM_seersOf hG (d - 1) (by omega) p1 m _ (zw_b1 h)) (fun r3 m4 q => ?_)
  obtain ⟨rfl, h⟩ := q
  refine zr_ior X dX11_quarrels_16 ?_
  refine zr_aload_n X dX11_quarrels_17 0 rfl ?_
  refine zr_callV_i (As := []) (st := [.int (r1 ||| r3)]) (d := d - 1) X dX11_quarrels_18 wm_X11_238 my_X11_men mv_X11_men zo_68 rfl (Nat.le_of_ble_eq_true rfl) (zRm (by omega)) ⟨Nat.le_refl _, Nat.le_refl _⟩ (x_fM_men hG (d - 1) (by omega) m _ (zw_b1 h)) (fun r5 m6 q => ?_)
  obtain ⟨rfl, h⟩ := q
  refine zr_iand X dX11_quarrels_21 ?_
  refine zr_iconst (v := 1) X dX11_quarrels_22 (by decide) ?_
  refine zr_iload_n X dX11_quarrels_23 1 rfl ?_
  refine zr_ishl X dX11_quarrels_24 ?_
  refine zr_iconst (v := (-1)) X dX11_quarrels_25 (by decide) ?_
  refine zr_ixor X dX11_quarrels_26 ?_
  refine zr_iand X dX11_quarrels_27 ?_
  exact zr_iret X dX11_quarrels_28 rfl ⟨Nat.le_refl _, Nat.le_refl _⟩ ⟨rfl, _, rfl, rfl, h⟩

set_option maxRecDepth 100000 in
set_option maxHeartbeats 4000000 in
theorem x_fM_isPeace {l : Launch} {S : State} {D : va_G} {cA : Nat → ClassId} {tb sx : Nat → Nat} (hG : zv_G S D cA tb sx) (d : Nat) (hd : 8 ≤ d) (m : zv_M) (P : Int32 → Prop) (h : zw (fM_isPeace m) P) : zv_Met l S D cA d 0 0 yX11_isPeace cX11_isPeace 2 (some .boolean) [.ref (S.heap.size + 68)] SH0 m (zq_i SH0 (fun v m' => m = m' ∧ P v)) := by
  refine zv_met false hG pf_X11_isPeace (fun z => by cases z) (Nat.le_of_ble_eq_true rfl) [(0, .ref (S.heap.size + 68))] rfl (fun p e s mi args below meth c X => ?_)
  rw [fM_isPeace] at h
  refine zr_iconst (v := 0) X dX11_isPeace_0 (by decide) ?_
  refine zr_istore_n (lo' := [(1, .int 0), (0, .ref (S.heap.size + 68))]) X dX11_isPeace_1 (by decide) rfl ?_
  refine zr_sub [1, 0] rfl ?_
  refine zl_w1 (fun a2 => zv_V S D cA p l e (zv_rm d 0 0) s mi args below meth c 2 (MQ below (zv_Q S D cA (zq_i SH0 (fun v m' => m = m' ∧ P v))) args s 0 0 (zv_fr S)) 0 0 2 [(0, .ref (S.heap.size + 68)), (1, .int a2)] [] SH0 m) (fM_isPeace_l2 m) _ (fun P1 hl1 hr1 a2 h => ?_) zFU 0 (zw_b1 h)
  rw [fM_isPeace_l2] at h
  refine zr_iload_n X dX11_isPeace_2 1 rfl ?_
  refine zr_aload_n X dX11_isPeace_3 0 rfl ?_
  refine zr_getI X dX11_isPeace_4 zd_X11_13 rfl zo_68 (by rw [zk_11 zo_68]; decide) ?_
  refine zr_aload_n X dX11_isPeace_7 0 rfl ?_
  refine zr_getI X dX11_isPeace_8 zd_X11_13 rfl zo_68 (by rw [zk_11 zo_68]; decide) ?_
  refine zr_imul X dX11_isPeace_11 ?_
  refine zr_icmp_ge (tgt := 40) X dX11_isPeace_12 (by decide) (fun q => ?_) (fun q => ?_)
  · rw [if_neg q] at h
    refine zr_iconst (v := 1) X dX11_isPeace_40 (by decide) ?_
    have h := hr1 _ h
    exact zr_iret X dX11_isPeace_41 rfl ⟨Nat.le_refl _, Nat.le_refl _⟩ ⟨rfl, _, rfl, rfl, h⟩
  · rw [if_pos q] at h
    refine zr_aload_n X dX11_isPeace_15 0 rfl ?_
    refine zr_getR X dX11_isPeace_16 zd_X11_36 rfl zo_68 zl_68_8 ?_
    refine zr_iload_n X dX11_isPeace_19 1 rfl ?_
    obtain ⟨g0, h⟩ := zg_e h
    refine zr_iald X dX11_isPeace_20 za_72 (zI_in g0) ?_
    have hJ34 : zw (fM_isPeace_j34 a2) P1 → zv_V S D cA p l e (zv_rm d 0 0) s mi args below meth c 2 (MQ below (zv_Q S D cA (zq_i SH0 (fun v m' => m = m' ∧ P v))) args s 0 0 (zv_fr S)) 0 0 34 [(0, .ref (S.heap.size + 68)), (1, .int a2)] [] SH0 m := by
      intro h
      rw [fM_isPeace_j34] at h
      refine zr_iinc (v := a2 + 1) (lo' := [(1, .int (a2 + 1)), (0, .ref (S.heap.size + 68))]) X dX11_isPeace_34 1 rfl rfl (by decide) rfl ?_
      refine zr_goto (tgt := 2) X dX11_isPeace_37 (by decide) ?_
      have h := hl1 _ h
      exact zr_sub [1, 0] rfl h
    refine zr_if_lt (tgt := 34) X dX11_isPeace_21 (by decide) (fun q => ?_) (fun q => ?_)
    · rw [if_pos q] at h
      exact zr_sub [0, 1] rfl (hJ34 h)
    · rw [if_neg q] at h
      refine zr_aload_n X dX11_isPeace_24 0 rfl ?_
      refine zr_iload_n X dX11_isPeace_25 1 rfl ?_
      refine zr_callV_i (As := [.int a2]) (st := []) (d := d - 1) X dX11_isPeace_26 wm_X11_350 my_X11_quarrels mv_X11_quarrels zo_68 rfl (Nat.le_of_ble_eq_true rfl) (zRm (by omega)) ⟨Nat.le_refl _, Nat.le_refl _⟩ (x_fM_quarrels hG (d - 1) (by omega) a2 m _ (zw_b1 h)) (fun r3 m4 q => ?_)
      obtain ⟨rfl, h⟩ := q
      refine zr_if_eq (tgt := 34) X dX11_isPeace_29 (by decide) (fun q => ?_) (fun q => ?_)
      · rw [if_pos q] at h
        exact zr_sub [0, 1] rfl (hJ34 h)
      · rw [if_neg q] at h
        refine zr_iconst (v := 0) X dX11_isPeace_32 (by decide) ?_
        have h := hr1 _ h
        exact zr_iret X dX11_isPeace_33 rfl ⟨Nat.le_refl _, Nat.le_refl _⟩ ⟨rfl, _, rfl, rfl, h⟩

set_option maxRecDepth 100000 in
set_option maxHeartbeats 4000000 in
theorem x_fM_told {l : Launch} {S : State} {D : va_G} {cA : Nat → ClassId} {tb sx : Nat → Nat} (hG : zv_G S D cA tb sx) (d : Nat) (hd : 9 ≤ d) (p1 : Int32) (m : zv_M) (P : Int32 → Prop) (h : zw (fM_told p1 m) P) : zv_Met l S D cA d 0 0 yX11_told cX11_told 2 (some .int) [.ref (S.heap.size + 68), .int p1] SH0 m (zq_i SH0 (fun v m' => m = m' ∧ P v)) := by
  refine zv_met false hG pf_X11_told (fun z => by cases z) (Nat.le_of_ble_eq_true rfl) [(0, .ref (S.heap.size + 68)), (1, .int p1)] rfl (fun p e s mi args below meth c X => ?_)
  rw [fM_told] at h
  refine zr_iload_n X dX11_told_0 1 rfl ?_
  by_cases e0 : p1 = 0
  · rw [if_pos e0] at h
    refine zr_tableIn (tgt := 44) X dX11_told_1 0 (by rw [e0]; decide) (by decide) (by decide) rfl (by decide) ?_
    refine zr_aload_n X dX11_told_44 0 rfl ?_
    refine zr_getI X dX11_told_45 zd_X11_13 rfl zo_68 (by rw [zk_11 zo_68]; decide) ?_
    exact zr_iret X dX11_told_48 rfl ⟨Nat.le_refl _, Nat.le_refl _⟩ ⟨rfl, _, rfl, rfl, h⟩
  rw [if_neg e0] at h
  by_cases e1 : p1 = 1
  · rw [if_pos e1] at h
    refine zr_tableIn (tgt := 49) X dX11_told_1 1 (by rw [e1]; decide) (by decide) (by decide) rfl (by decide) ?_
    refine zr_aload_n X dX11_told_49 0 rfl ?_
    refine zr_getI X dX11_told_50 zd_X11_22 rfl zo_68 (by rw [zk_11 zo_68]; decide) ?_
    refine zr_if_eq (tgt := 60) X dX11_told_53 (by decide) (fun q => ?_) (fun q => ?_)
    · rw [if_pos q] at h
      refine zr_iconst (v := 0) X dX11_told_60 (by decide) ?_
      exact zr_iret X dX11_told_61 rfl ⟨Nat.le_refl _, Nat.le_refl _⟩ ⟨rfl, _, rfl, rfl, h⟩
    · rw [if_neg q] at h
      refine zr_iconst (v := 1) X dX11_told_56 (by decide) ?_
      refine zr_goto (tgt := 61) X dX11_told_57 (by decide) ?_
      exact zr_iret X dX11_told_61 rfl ⟨Nat.le_refl _, Nat.le_refl _⟩ ⟨rfl, _, rfl, rfl, h⟩
  rw [if_neg e1] at h
  by_cases e2 : p1 = 2
  · rw [if_pos e2] at h
    refine zr_tableIn (tgt := 62) X dX11_told_1 2 (by rw [e2]; decide) (by decide) (by decide) rfl (by decide) ?_
    refine zr_aload_n X dX11_told_62 0 rfl ?_
    refine zr_aload_n X dX11_told_63 0 rfl ?_
    refine zr_callV_i (As := []) (st := [.ref (S.heap.size + 68)]) (d := d - 1) X dX11_told_64 wm_X11_238 my_X11_men mv_X11_men zo_68 rfl (Nat.le_of_ble_eq_true rfl) (zRm (by omega)) ⟨Nat.le_refl _, Nat.le_refl _⟩ (x_fM_men hG (d - 1) (by omega) m _ (zw_b1 h)) (fun r1 m2 q => ?_)
    obtain ⟨rfl, h⟩ := q
    refine zr_callV_i (As := [.int r1]) (st := []) (d := d - 1) X dX11_told_67 wm_X11_242 my_X11_ones mv_X11_ones zo_68 rfl (Nat.le_of_ble_eq_true rfl) (zRm (by omega)) ⟨Nat.le_refl _, Nat.le_refl _⟩ (x_fM_ones hG (d - 1) (by omega) r1 m _ (zw_b1 h)) (fun r3 m4 q => ?_)
    obtain ⟨rfl, h⟩ := q
    exact zr_iret X dX11_told_70 rfl ⟨Nat.le_refl _, Nat.le_refl _⟩ ⟨rfl, _, rfl, rfl, h⟩
  rw [if_neg e2] at h
  by_cases e3 : p1 = 3
  · rw [if_pos e3] at h
    refine zr_tableIn (tgt := 71) X dX11_told_1 3 (by rw [e3]; decide) (by decide) (by decide) rfl (by decide) ?_
    refine zr_aload_n X dX11_told_71 0 rfl ?_
    refine zr_getI X dX11_told_72 zd_X11_16 rfl zo_68 (by rw [zk_11 zo_68]; decide) ?_
    exact zr_iret X dX11_told_75 rfl ⟨Nat.le_refl _, Nat.le_refl _⟩ ⟨rfl, _, rfl, rfl, h⟩
  rw [if_neg e3] at h
  by_cases e4 : p1 = 4
  · rw [if_pos e4] at h
    refine zr_tableIn (tgt := 76) X dX11_told_1 4 (by rw [e4]; decide) (by decide) (by decide) rfl (by decide) ?_
    refine zr_aload_n X dX11_told_76 0 rfl ?_
    refine zr_getI X dX11_told_77 zd_X11_19 rfl zo_68 (by rw [zk_11 zo_68]; decide) ?_
    exact zr_iret X dX11_told_80 rfl ⟨Nat.le_refl _, Nat.le_refl _⟩ ⟨rfl, _, rfl, rfl, h⟩
  rw [if_neg e4] at h
  by_cases e5 : p1 = 5
  · rw [if_pos e5] at h
    refine zr_tableIn (tgt := 81) X dX11_told_1 5 (by rw [e5]; decide) (by decide) (by decide) rfl (by decide) ?_
    refine zr_aload_n X dX11_told_81 0 rfl ?_
    refine zr_callV_i (As := []) (st := []) (d := d - 1) X dX11_told_82 wm_X11_238 my_X11_men mv_X11_men zo_68 rfl (Nat.le_of_ble_eq_true rfl) (zRm (by omega)) ⟨Nat.le_refl _, Nat.le_refl _⟩ (x_fM_men hG (d - 1) (by omega) m _ (zw_b1 h)) (fun r5 m6 q => ?_)
    obtain ⟨rfl, h⟩ := q
    exact zr_iret X dX11_told_85 rfl ⟨Nat.le_refl _, Nat.le_refl _⟩ ⟨rfl, _, rfl, rfl, h⟩
  rw [if_neg e5] at h
  by_cases e6 : p1 = 6
  · rw [if_pos e6] at h
    refine zr_tableIn (tgt := 86) X dX11_told_1 6 (by rw [e6]; decide) (by decide) (by decide) rfl (by decide) ?_
    refine zr_aload_n X dX11_told_86 0 rfl ?_
    refine zr_callV_i (As := []) (st := []) (d := d - 1) X dX11_told_87 wm_X11_353 my_X11_isPeace mv_X11_isPeace zo_68 rfl (Nat.le_of_ble_eq_true rfl) (zRm (by omega)) ⟨Nat.le_refl _, Nat.le_refl _⟩ (x_fM_isPeace hG (d - 1) (by omega) m _ (zw_b1 h)) (fun r7 m8 q => ?_)
    obtain ⟨rfl, h⟩ := q
    refine zr_if_eq (tgt := 97) X dX11_told_90 (by decide) (fun q => ?_) (fun q => ?_)
    · rw [if_pos q] at h
      refine zr_iconst (v := 0) X dX11_told_97 (by decide) ?_
      exact zr_iret X dX11_told_98 rfl ⟨Nat.le_refl _, Nat.le_refl _⟩ ⟨rfl, _, rfl, rfl, h⟩
    · rw [if_neg q] at h
      refine zr_iconst (v := 1) X dX11_told_93 (by decide) ?_
      refine zr_goto (tgt := 98) X dX11_told_94 (by decide) ?_
      exact zr_iret X dX11_told_98 rfl ⟨Nat.le_refl _, Nat.le_refl _⟩ ⟨rfl, _, rfl, rfl, h⟩
  rw [if_neg e6] at h
  refine zr_tableOut (tgt := 99) X dX11_told_1 (by have ze0 := lv_neT e0 (by decide : (0 : Int32).toInt = 0); have ze1 := lv_neT e1 (by decide : (1 : Int32).toInt = 1); have ze2 := lv_neT e2 (by decide : (2 : Int32).toInt = 2); have ze3 := lv_neT e3 (by decide : (3 : Int32).toInt = 3); have ze4 := lv_neT e4 (by decide : (4 : Int32).toInt = 4); have ze5 := lv_neT e5 (by decide : (5 : Int32).toInt = 5); have ze6 := lv_neT e6 (by decide : (6 : Int32).toInt = 6); omega) (by decide) ?_
  refine zr_iconst (v := (-1)) X dX11_told_99 (by decide) ?_
  exact zr_iret X dX11_told_100 rfl ⟨Nat.le_refl _, Nat.le_refl _⟩ ⟨rfl, _, rfl, rfl, h⟩

set_option maxRecDepth 100000 in
set_option maxHeartbeats 4000000 in
theorem x_fM_set {l : Launch} {S : State} {D : va_G} {cA : Nat → ClassId} {tb sx : Nat → Nat} (hG : zv_G S D cA tb sx) (d : Nat) (hd : 8 ≤ d) (p1 : Int32) (p2 : Int32) (m : zv_M) (P : Int32 → zv_M → Prop) (h : zw2 (fM_set p1 p2 m) P) : zv_Met l S D cA d 0 0 yX11_set cX11_set 4 (some .int) [.ref (S.heap.size + 68), .int p1, .int p2] SH0 m (zq_i SH0 P) := by
  refine zv_met false hG pf_X11_set (fun z => by cases z) (Nat.le_of_ble_eq_true rfl) [(0, .ref (S.heap.size + 68)), (1, .int p1), (2, .int p2)] rfl (fun p e s mi args below meth c X => ?_)
  rw [fM_set] at h
  refine zr_aload_n X dX11_set_0 0 rfl ?_
  refine zr_iload_n X dX11_set_1 1 rfl ?_
  refine zr_callV_i (As := [.int p1]) (st := []) (d := d - 1) X dX11_set_2 wm_X11_234 my_X11_isPlan mv_X11_isPlan zo_68 rfl (Nat.le_of_ble_eq_true rfl) (zRm (by omega)) ⟨Nat.le_refl _, Nat.le_refl _⟩ (x_fM_isPlan hG (d - 1) (by omega) p1 m _ (zw_b12 h)) (fun r1 m2 q => ?_)
  obtain ⟨rfl, h⟩ := q
  refine zr_if_eq (tgt := 16) X dX11_set_5 (by decide) (fun q => ?_) (fun q => ?_)
  · rw [if_pos q] at h
    refine zr_iconst (v := (-1)) X dX11_set_16 (by decide) ?_
    exact zr_iret X dX11_set_17 rfl ⟨Nat.le_refl _, Nat.le_refl _⟩ ⟨rfl, _, rfl, h⟩
  · rw [if_neg q] at h
    refine zr_aload_n X dX11_set_8 0 rfl ?_
    refine zr_iload_n X dX11_set_9 2 rfl ?_
    refine zr_callV_i (As := [.int p2]) (st := []) (d := d - 1) X dX11_set_10 wm_X11_341 my_X11_isSquare mv_X11_isSquare zo_68 rfl (Nat.le_of_ble_eq_true rfl) (zRm (by omega)) ⟨Nat.le_refl _, Nat.le_refl _⟩ (x_fM_isSquare hG (d - 1) (by omega) p2 m _ (zw_b12 h)) (fun r3 m4 q => ?_)
    obtain ⟨rfl, h⟩ := q
    refine zr_if_ne (tgt := 18) X dX11_set_13 (by decide) (fun q => ?_) (fun q => ?_)
    · rw [if_neg q] at h
      refine zr_aload_n X dX11_set_18 0 rfl ?_
      refine zr_iload_n X dX11_set_19 2 rfl ?_
      refine zr_callV_i (As := [.int p2]) (st := []) (d := d - 1) X dX11_set_20 wm_X11_356 my_X11_mayBe mv_X11_mayBe zo_68 rfl (Nat.le_of_ble_eq_true rfl) (zRm (by omega)) ⟨Nat.le_refl _, Nat.le_refl _⟩ (x_fM_mayBe hG (d - 1) (by omega) p2 m _ (zw_b12 h)) (fun r5 m6 q => ?_)
      obtain ⟨rfl, h⟩ := q
      refine zr_if_ne (tgt := 29) X dX11_set_23 (by decide) (fun q => ?_) (fun q => ?_)
      · rw [if_neg q] at h
        refine zr_aload_n X dX11_set_29 0 rfl ?_
        refine zr_iload_n X dX11_set_30 1 rfl ?_
        refine zr_iload_n X dX11_set_31 2 rfl ?_
        refine zr_callV_i (As := [.int p1, .int p2]) (st := []) (d := d - 1) X dX11_set_32 wm_X11_359 my_X11_isFit mv_X11_isFit zo_68 rfl (Nat.le_of_ble_eq_true rfl) (zRm (by omega)) ⟨Nat.le_refl _, Nat.le_refl _⟩ (x_fM_isFit hG (d - 1) (by omega) p1 p2 m _ (zw_b12 h)) (fun r7 m8 q => ?_)
        obtain ⟨rfl, h⟩ := q
        refine zr_if_eq (tgt := 42) X dX11_set_35 (by decide) (fun q => ?_) (fun q => ?_)
        · rw [if_pos q] at h
          refine zr_iconst (v := 0) X dX11_set_42 (by decide) ?_
          refine zr_istore_n (lo' := [(3, .int 0), (0, .ref (S.heap.size + 68)), (1, .int p1), (2, .int p2)]) X dX11_set_43 (by decide) rfl ?_
          refine zr_aload_n X dX11_set_44 1 rfl ?_
          refine zr_getR X dX11_set_45 zd_X11_36 rfl zo_68 zl_68_8 ?_
          refine zr_iload_n X dX11_set_48 3 rfl ?_
          refine zr_iload_n X dX11_set_49 2 rfl ?_
          obtain ⟨g0, h⟩ := zg_e2 h
          refine zr_iast X dX11_set_50 za_72 (zI_in g0) ?_
          refine zr_iload_n X dX11_set_51 0 rfl ?_
          exact zr_iret X dX11_set_52 rfl ⟨Nat.le_refl _, Nat.le_refl _⟩ ⟨rfl, _, rfl, h⟩
        · rw [if_neg q] at h
          refine zr_iconst (v := 1) X dX11_set_38 (by decide) ?_
          refine zr_goto (tgt := 43) X dX11_set_39 (by decide) ?_
          refine zr_istore_n (lo' := [(3, .int 1), (0, .ref (S.heap.size + 68)), (1, .int p1), (2, .int p2)]) X dX11_set_43 (by decide) rfl ?_
          refine zr_aload_n X dX11_set_44 1 rfl ?_
          refine zr_getR X dX11_set_45 zd_X11_36 rfl zo_68 zl_68_8 ?_
          refine zr_iload_n X dX11_set_48 3 rfl ?_
          refine zr_iload_n X dX11_set_49 2 rfl ?_
          obtain ⟨g0, h⟩ := zg_e2 h
          refine zr_iast X dX11_set_50 za_72 (zI_in g0) ?_
          refine zr_iload_n X dX11_set_51 0 rfl ?_
          exact zr_iret X dX11_set_52 rfl ⟨Nat.le_refl _, Nat.le_refl _⟩ ⟨rfl, _, rfl, h⟩
      · rw [if_pos q] at h
        refine zr_bipush (v := (-3)) X dX11_set_26 (by decide) ?_
        exact zr_iret X dX11_set_28 rfl ⟨Nat.le_refl _, Nat.le_refl _⟩ ⟨rfl, _, rfl, h⟩
    · rw [if_pos q] at h
      refine zr_iconst (v := (-1)) X dX11_set_16 (by decide) ?_
      exact zr_iret X dX11_set_17 rfl ⟨Nat.le_refl _, Nat.le_refl _⟩ ⟨rfl, _, rfl, h⟩

set_option maxRecDepth 100000 in
set_option maxHeartbeats 4000000 in
theorem x_fM_take {l : Launch} {S : State} {D : va_G} {cA : Nat → ClassId} {tb sx : Nat → Nat} (hG : zv_G S D cA tb sx) (d : Nat) (hd : 3 ≤ d) (p1 : Int32) (m : zv_M) (P : Int32 → zv_M → Prop) (h : zw2 (fM_take p1 m) P) : zv_Met l S D cA d 0 0 yX11_take cX11_take 3 (some .int) [.ref (S.heap.size + 68), .int p1] SH0 m (zq_i SH0 P) := by
  refine zv_met false hG pf_X11_take (fun z => by cases z) (Nat.le_of_ble_eq_true rfl) [(0, .ref (S.heap.size + 68)), (1, .int p1)] rfl (fun p e s mi args below meth c X => ?_)
  rw [fM_take] at h
  refine zr_aload_n X dX11_take_0 0 rfl ?_
  refine zr_iload_n X dX11_take_1 1 rfl ?_
  refine zr_callV_i (As := [.int p1]) (st := []) (d := d - 1) X dX11_take_2 wm_X11_341 my_X11_isSquare mv_X11_isSquare zo_68 rfl (Nat.le_of_ble_eq_true rfl) (zRm (by omega)) ⟨Nat.le_refl _, Nat.le_refl _⟩ (x_fM_isSquare hG (d - 1) (by omega) p1 m _ (zw_b12 h)) (fun r1 m2 q => ?_)
  obtain ⟨rfl, h⟩ := q
  refine zr_if_ne (tgt := 10) X dX11_take_5 (by decide) (fun q => ?_) (fun q => ?_)
  · rw [if_neg q] at h
    refine zr_aload_n X dX11_take_10 0 rfl ?_
    refine zr_getR X dX11_take_11 zd_X11_36 rfl zo_68 zl_68_8 ?_
    refine zr_iload_n X dX11_take_14 1 rfl ?_
    obtain ⟨g0, h⟩ := zg_e2 h
    refine zr_iald X dX11_take_15 za_72 (zI_in g0) ?_
    refine zr_if_ge (tgt := 22) X dX11_take_16 (by decide) (fun q => ?_) (fun q => ?_)
    · rw [if_neg q] at h
      refine zr_aload_n X dX11_take_22 0 rfl ?_
      refine zr_getR X dX11_take_23 zd_X11_36 rfl zo_68 zl_68_8 ?_
      refine zr_iload_n X dX11_take_26 1 rfl ?_
      obtain ⟨g0, h⟩ := zg_e2 h
      refine zr_iald X dX11_take_27 za_72 (zI_in g0) ?_
      refine zr_istore_n (lo' := [(2, .int (m.1 72 p1.toNatClampNeg)), (0, .ref (S.heap.size + 68)), (1, .int p1)]) X dX11_take_28 (by decide) rfl ?_
      refine zr_aload_n X dX11_take_29 1 rfl ?_
      refine zr_getR X dX11_take_30 zd_X11_36 rfl zo_68 zl_68_8 ?_
      refine zr_iload_n X dX11_take_33 2 rfl ?_
      refine zr_iconst (v := (-1)) X dX11_take_34 (by decide) ?_
      obtain ⟨g0, h⟩ := zg_e2 h
      refine zr_iast X dX11_take_35 za_72 (zI_in g0) ?_
      refine zr_iload_n X dX11_take_36 0 rfl ?_
      exact zr_iret X dX11_take_37 rfl ⟨Nat.le_refl _, Nat.le_refl _⟩ ⟨rfl, _, rfl, h⟩
    · rw [if_pos q] at h
      refine zr_bipush (v := (-3)) X dX11_take_19 (by decide) ?_
      exact zr_iret X dX11_take_21 rfl ⟨Nat.le_refl _, Nat.le_refl _⟩ ⟨rfl, _, rfl, h⟩
  · rw [if_pos q] at h
    refine zr_iconst (v := (-1)) X dX11_take_8 (by decide) ?_
    exact zr_iret X dX11_take_9 rfl ⟨Nat.le_refl _, Nat.le_refl _⟩ ⟨rfl, _, rfl, h⟩

