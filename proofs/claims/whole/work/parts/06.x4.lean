set_option maxRecDepth 100000 in
set_option maxHeartbeats 4000000 in
theorem x_fM_at {l : Launch} {S : State} {D : va_G} {cA : Nat → ClassId} {tb sx : Nat → Nat} (hG : zv_G S D cA tb sx) (d : Nat) (hd : 7 ≤ d) (p1 : Int32) (p2 : Int32) (m : zv_M) (P : Int32 → Prop) (h : zw (fM_at p1 p2 m) P) : zv_Met l S D cA d 0 0 yX11_at cX11_at 3 (some .int) [.ref (S.heap.size + 68), .int p1, .int p2] SH0 m (zq_i SH0 (fun v m' => m = m' ∧ P v)) := by
  refine zv_met false hG pf_X11_at (fun z => by cases z) (Nat.le_of_ble_eq_true rfl) [(0, .ref (S.heap.size + 68)), (1, .int p1), (2, .int p2)] rfl (fun p e s mi args below meth c X => ?_)
  rw [fM_at] at h
  refine zr_aload_n X dX11_at_0 0 rfl ?_
  refine zr_iload_n X dX11_at_1 1 rfl ?_
  refine zr_callV_i (As := [.int p1]) (st := []) (d := d - 1) X dX11_at_2 wm_X11_341 my_X11_isSquare mv_X11_isSquare zo_68 rfl (Nat.le_of_ble_eq_true rfl) (zRm (by omega)) ⟨Nat.le_refl _, Nat.le_refl _⟩ (x_fM_isSquare hG (d - 1) (by omega) p1 m _ (zw_b1 h)) (fun r1 m2 q => ?_)
  obtain ⟨rfl, h⟩ := q
  refine zr_if_eq (tgt := 18) X dX11_at_5 (by decide) (fun q => ?_) (fun q => ?_)
  · rw [if_pos q] at h
    refine zr_iconst (v := (-1)) X dX11_at_18 (by decide) ?_
    exact zr_iret X dX11_at_19 rfl ⟨Nat.le_refl _, Nat.le_refl _⟩ ⟨rfl, _, rfl, rfl, h⟩
  · rw [if_neg q] at h
    refine zr_aload_n X dX11_at_8 0 rfl ?_
    refine zr_iload_n X dX11_at_9 2 rfl ?_
    refine zr_iconst (v := 0) X dX11_at_10 (by decide) ?_
    refine zr_iconst (v := 2) X dX11_at_11 (by decide) ?_
    refine zr_callV_i (As := [.int p2, .int 0, .int 2]) (st := []) (d := d - 1) X dX11_at_12 wm_X11_230 my_X11_in mv_X11_in zo_68 rfl (Nat.le_of_ble_eq_true rfl) (zRm (by omega)) ⟨Nat.le_refl _, Nat.le_refl _⟩ (x_fM_in hG (d - 1) (by omega) p2 0 2 m _ (zw_b1 h)) (fun r3 m4 q => ?_)
    obtain ⟨rfl, h⟩ := q
    refine zr_if_ne (tgt := 20) X dX11_at_15 (by decide) (fun q => ?_) (fun q => ?_)
    · rw [if_neg q] at h
      refine zr_iload_n X dX11_at_20 2 rfl ?_
      refine zr_iconst (v := 1) X dX11_at_21 (by decide) ?_
      refine zr_icmp_ne (tgt := 35) X dX11_at_22 (by decide) (fun q => ?_) (fun q => ?_)
      · rw [if_neg q] at h
        refine zr_aload_n X dX11_at_35 0 rfl ?_
        refine zr_getR X dX11_at_36 zd_X11_36 rfl zo_68 zl_68_8 ?_
        refine zr_iload_n X dX11_at_39 1 rfl ?_
        obtain ⟨g0, h⟩ := zg_e h
        refine zr_iald X dX11_at_40 za_72 (zI_in g0) ?_
        refine zr_if_ge (tgt := 49) X dX11_at_41 (by decide) (fun q => ?_) (fun q => ?_)
        · rw [if_neg q] at h
          refine zr_iload_n X dX11_at_49 2 rfl ?_
          refine zr_if_ne (tgt := 62) X dX11_at_50 (by decide) (fun q => ?_) (fun q => ?_)
          · rw [if_neg q] at h
            refine zr_aload_n X dX11_at_62 0 rfl ?_
            refine zr_aload_n X dX11_at_63 0 rfl ?_
            refine zr_getR X dX11_at_64 zd_X11_36 rfl zo_68 zl_68_8 ?_
            refine zr_iload_n X dX11_at_67 1 rfl ?_
            obtain ⟨g0, h⟩ := zg_e h
            refine zr_iald X dX11_at_68 za_72 (zI_in g0) ?_
            refine zr_iload_n X dX11_at_69 1 rfl ?_
            refine zr_callV_i (As := [.int (m.1 72 p1.toNatClampNeg), .int p1]) (st := []) (d := d - 1) X dX11_at_70 wm_X11_344 my_X11_seesOf mv_X11_seesOf zo_68 rfl (Nat.le_of_ble_eq_true rfl) (zRm (by omega)) ⟨Nat.le_refl _, Nat.le_refl _⟩ (x_fM_seesOf hG (d - 1) (by omega) (m.1 72 p1.toNatClampNeg) p1 m _ (zw_b1 h)) (fun r5 m6 q => ?_)
            obtain ⟨rfl, h⟩ := q
            exact zr_iret X dX11_at_73 rfl ⟨Nat.le_refl _, Nat.le_refl _⟩ ⟨rfl, _, rfl, rfl, h⟩
          · rw [if_pos q] at h
            refine zr_aload_n X dX11_at_53 0 rfl ?_
            refine zr_getR X dX11_at_54 zd_X11_36 rfl zo_68 zl_68_8 ?_
            refine zr_iload_n X dX11_at_57 1 rfl ?_
            obtain ⟨g0, h⟩ := zg_e h
            refine zr_iald X dX11_at_58 za_72 (zI_in g0) ?_
            refine zr_goto (tgt := 73) X dX11_at_59 (by decide) ?_
            exact zr_iret X dX11_at_73 rfl ⟨Nat.le_refl _, Nat.le_refl _⟩ ⟨rfl, _, rfl, rfl, h⟩
        · rw [if_pos q] at h
          refine zr_bipush (v := (-5)) X dX11_at_44 (by decide) ?_
          refine zr_goto (tgt := 73) X dX11_at_46 (by decide) ?_
          exact zr_iret X dX11_at_73 rfl ⟨Nat.le_refl _, Nat.le_refl _⟩ ⟨rfl, _, rfl, rfl, h⟩
      · rw [if_pos q] at h
        refine zr_aload_n X dX11_at_25 0 rfl ?_
        refine zr_aload_n X dX11_at_26 0 rfl ?_
        refine zr_iload_n X dX11_at_27 1 rfl ?_
        refine zr_callV_i (As := [.int p1]) (st := [.ref (S.heap.size + 68)]) (d := d - 1) X dX11_at_28 wm_X11_347 my_X11_seersOf mv_X11_seersOf zo_68 rfl (Nat.le_of_ble_eq_true rfl) (zRm (by omega)) ⟨Nat.le_refl _, Nat.le_refl _⟩ (x_fM_seersOf hG (d - 1) (by omega) p1 m _ (zw_b1 h)) (fun r7 m8 q => ?_)
        obtain ⟨rfl, h⟩ := q
        refine zr_callV_i (As := [.int r7]) (st := []) (d := d - 1) X dX11_at_31 wm_X11_242 my_X11_ones mv_X11_ones zo_68 rfl (Nat.le_of_ble_eq_true rfl) (zRm (by omega)) ⟨Nat.le_refl _, Nat.le_refl _⟩ (x_fM_ones hG (d - 1) (by omega) r7 m _ (zw_b1 h)) (fun r9 m10 q => ?_)
        obtain ⟨rfl, h⟩ := q
        exact zr_iret X dX11_at_34 rfl ⟨Nat.le_refl _, Nat.le_refl _⟩ ⟨rfl, _, rfl, rfl, h⟩
    · rw [if_pos q] at h
      refine zr_iconst (v := (-1)) X dX11_at_18 (by decide) ?_
      exact zr_iret X dX11_at_19 rfl ⟨Nat.le_refl _, Nat.le_refl _⟩ ⟨rfl, _, rfl, rfl, h⟩

set_option maxRecDepth 100000 in
set_option maxHeartbeats 4000000 in
theorem x_fM_worst {l : Launch} {S : State} {D : va_G} {cA : Nat → ClassId} {tb sx : Nat → Nat} (hG : zv_G S D cA tb sx) (d : Nat) (hd : 8 ≤ d) (m : zv_M) (P : Int32 → Prop) (h : zw (fM_worst m) P) : zv_Met l S D cA d 0 0 yX11_worst cX11_worst 5 (some .int) [.ref (S.heap.size + 68)] SH0 m (zq_i SH0 (fun v m' => m = m' ∧ P v)) := by
  refine zv_met false hG pf_X11_worst (fun z => by cases z) (Nat.le_of_ble_eq_true rfl) [(0, .ref (S.heap.size + 68))] rfl (fun p e s mi args below meth c X => ?_)
  rw [fM_worst] at h
  refine zr_bipush (v := (-5)) X dX11_worst_0 (by decide) ?_
  refine zr_istore_n (lo' := [(1, .int (-5)), (0, .ref (S.heap.size + 68))]) X dX11_worst_2 (by decide) rfl ?_
  refine zr_iconst (v := 0) X dX11_worst_3 (by decide) ?_
  refine zr_istore_n (lo' := [(2, .int 0), (1, .int (-5)), (0, .ref (S.heap.size + 68))]) X dX11_worst_4 (by decide) rfl ?_
  refine zr_iconst (v := 0) X dX11_worst_5 (by decide) ?_
  refine zr_istore_n (lo' := [(3, .int 0), (2, .int 0), (1, .int (-5)), (0, .ref (S.heap.size + 68))]) X dX11_worst_6 (by decide) rfl ?_
  refine zr_sub [3, 2, 1, 0] rfl ?_
  refine zl_w3 (fun a2 a3 a4 => zv_V S D cA p l e (zv_rm d 0 0) s mi args below meth c 5 (MQ below (zv_Q S D cA (zq_i SH0 (fun v m' => m = m' ∧ P v))) args s 0 0 (zv_fr S)) 0 0 7 [(0, .ref (S.heap.size + 68)), (1, .int a2), (2, .int a3), (3, .int a4)] [] SH0 m) (fM_worst_l7 m) _ (fun P1 hl1 hr1 a2 a3 a4 h => ?_) zFU (-5) 0 0 (zw_b1 h)
  rw [fM_worst_l7] at h
  refine zr_iload_n X dX11_worst_7 3 rfl ?_
  refine zr_aload_n X dX11_worst_8 0 rfl ?_
  refine zr_getI X dX11_worst_9 zd_X11_13 rfl zo_68 (by rw [zk_11 zo_68]; decide) ?_
  refine zr_aload_n X dX11_worst_12 0 rfl ?_
  refine zr_getI X dX11_worst_13 zd_X11_13 rfl zo_68 (by rw [zk_11 zo_68]; decide) ?_
  refine zr_imul X dX11_worst_16 ?_
  refine zr_icmp_ge (tgt := 64) X dX11_worst_17 (by decide) (fun q => ?_) (fun q => ?_)
  · rw [if_neg q] at h
    refine zr_iload_n X dX11_worst_64 1 rfl ?_
    have h := hr1 _ h
    exact zr_iret X dX11_worst_65 rfl ⟨Nat.le_refl _, Nat.le_refl _⟩ ⟨rfl, _, rfl, rfl, h⟩
  · rw [if_pos q] at h
    refine zr_aload_n X dX11_worst_20 0 rfl ?_
    refine zr_getR X dX11_worst_21 zd_X11_36 rfl zo_68 zl_68_8 ?_
    refine zr_iload_n X dX11_worst_24 3 rfl ?_
    obtain ⟨g0, h⟩ := zg_e h
    refine zr_iald X dX11_worst_25 za_72 (zI_in g0) ?_
    have hJ42 : ∀ (v5 : Int32), zw (fM_worst_j42 a2 a3 a4 v5) P1 → zv_V S D cA p l e (zv_rm d 0 0) s mi args below meth c 5 (MQ below (zv_Q S D cA (zq_i SH0 (fun v m' => m = m' ∧ P v))) args s 0 0 (zv_fr S)) 0 0 42 [(0, .ref (S.heap.size + 68)), (1, .int a2), (2, .int a3), (3, .int a4)] [.int v5] SH0 m := by
      intro v5 h
      rw [fM_worst_j42] at h
      refine zr_istore (lo' := [(4, .int v5), (0, .ref (S.heap.size + 68)), (1, .int a2), (2, .int a3), (3, .int a4)]) X dX11_worst_42 (by decide) rfl ?_
      refine zr_iload X dX11_worst_44 0 rfl ?_
      refine zr_iload_n X dX11_worst_46 3 rfl ?_
      have hJ58 : ∀ (a6 : Int32) (a7 : Int32), zw (fM_worst_j58 a4 a6 a7) P1 → zv_V S D cA p l e (zv_rm d 0 0) s mi args below meth c 5 (MQ below (zv_Q S D cA (zq_i SH0 (fun v m' => m = m' ∧ P v))) args s 0 0 (zv_fr S)) 0 0 58 [(0, .ref (S.heap.size + 68)), (1, .int a6), (2, .int a7), (3, .int a4)] [] SH0 m := by
        intro a6 a7 h
        rw [fM_worst_j58] at h
        refine zr_iinc (v := a4 + 1) (lo' := [(3, .int (a4 + 1)), (0, .ref (S.heap.size + 68)), (1, .int a6), (2, .int a7)]) X dX11_worst_58 3 rfl rfl (by decide) rfl ?_
        refine zr_goto (tgt := 7) X dX11_worst_61 (by decide) ?_
        have h := hl1 _ h
        exact zr_sub [1, 2, 3, 0] rfl h
      refine zr_icmp_gt (tgt := 53) X dX11_worst_47 (by decide) (fun q => ?_) (fun q => ?_)
      · rw [if_pos q] at h
        refine zr_iload_n X dX11_worst_53 4 rfl ?_
        refine zr_istore_n (lo' := [(1, .int a4), (4, .int v5), (0, .ref (S.heap.size + 68)), (2, .int a3), (3, .int a4)]) X dX11_worst_54 (by decide) rfl ?_
        refine zr_iload X dX11_worst_55 1 rfl ?_
        refine zr_istore_n (lo' := [(2, .int v5), (1, .int a4), (4, .int v5), (0, .ref (S.heap.size + 68)), (3, .int a4)]) X dX11_worst_57 (by decide) rfl ?_
        exact zr_sub [3, 1, 0, 4] rfl (hJ58 a4 v5 h)
      · rw [if_neg q] at h
        refine zr_goto (tgt := 58) X dX11_worst_50 (by decide) ?_
        exact zr_sub [1, 2, 3, 4] rfl (hJ58 a2 a3 h)
    refine zr_if_ge (tgt := 33) X dX11_worst_26 (by decide) (fun q => ?_) (fun q => ?_)
    · rw [if_neg q] at h
      refine zr_aload_n X dX11_worst_33 0 rfl ?_
      refine zr_aload_n X dX11_worst_34 0 rfl ?_
      refine zr_iload_n X dX11_worst_35 3 rfl ?_
      refine zr_callV_i (As := [.int a4]) (st := [.ref (S.heap.size + 68)]) (d := d - 1) X dX11_worst_36 wm_X11_350 my_X11_quarrels mv_X11_quarrels zo_68 rfl (Nat.le_of_ble_eq_true rfl) (zRm (by omega)) ⟨Nat.le_refl _, Nat.le_refl _⟩ (x_fM_quarrels hG (d - 1) (by omega) a4 m _ (zw_b1 h)) (fun r8 m9 q => ?_)
      obtain ⟨rfl, h⟩ := q
      refine zr_callV_i (As := [.int r8]) (st := []) (d := d - 1) X dX11_worst_39 wm_X11_242 my_X11_ones mv_X11_ones zo_68 rfl (Nat.le_of_ble_eq_true rfl) (zRm (by omega)) ⟨Nat.le_refl _, Nat.le_refl _⟩ (x_fM_ones hG (d - 1) (by omega) r8 m _ (zw_b1 h)) (fun r10 m11 q => ?_)
      obtain ⟨rfl, h⟩ := q
      exact zr_sub [0, 1, 2, 3] rfl (hJ42 r10 h)
    · rw [if_pos q] at h
      refine zr_iconst (v := 0) X dX11_worst_29 (by decide) ?_
      refine zr_goto (tgt := 42) X dX11_worst_30 (by decide) ?_
      exact zr_sub [0, 1, 2, 3] rfl (hJ42 0 h)

set_option maxRecDepth 100000 in
set_option maxHeartbeats 4000000 in
theorem x_fM_layBad {l : Launch} {S : State} {D : va_G} {cA : Nat → ClassId} {tb sx : Nat → Nat} (hG : zv_G S D cA tb sx) (d : Nat) (hd : 6 ≤ d) (p1 : Int32) (m : zv_M) (P : zv_M → Prop) (h : zw (fM_layBad p1 m) P) : zv_Met l S D cA d 0 0 yX11_layBad cX11_layBad 5 none [.ref (S.heap.size + 68), .int p1] SH0 m (zq_v SH0 P) := by
  refine zv_met false hG pf_X11_layBad (fun z => by cases z) (Nat.le_of_ble_eq_true rfl) [(0, .ref (S.heap.size + 68)), (1, .int p1)] rfl (fun p e s mi args below meth c X => ?_)
  rw [fM_layBad] at h
  refine zr_iconst (v := 0) X dX11_layBad_0 (by decide) ?_
  refine zr_istore_n (lo' := [(2, .int 0), (0, .ref (S.heap.size + 68)), (1, .int p1)]) X dX11_layBad_1 (by decide) rfl ?_
  refine zr_sub [1, 2, 0] rfl ?_
  have hR1 : ∀ (m4 : zv_M), zw (zb1 (whileN zFU (fM_layBad_l23 p1) (0, m4)) (fun r => some r) : Option (zv_M)) P → zv_V S D cA p l e (zv_rm d 0 0) s mi args below meth c 5 (MQ below (zv_Q S D cA (zq_v SH0 P)) args s 0 0 (zv_fr S)) 0 0 21 [(0, .ref (S.heap.size + 68)), (1, .int p1)] [] SH0 m4 := by
    intro m4 h
    refine zr_iconst (v := 0) X dX11_layBad_21 (by decide) ?_
    refine zr_istore_n (lo' := [(2, .int 0), (0, .ref (S.heap.size + 68)), (1, .int p1)]) X dX11_layBad_22 (by decide) rfl ?_
    refine zr_sub [1, 2, 0] rfl ?_
    refine zl_w2 (fun a6 m7 => zv_V S D cA p l e (zv_rm d 0 0) s mi args below meth c 5 (MQ below (zv_Q S D cA (zq_v SH0 P)) args s 0 0 (zv_fr S)) 0 0 23 [(0, .ref (S.heap.size + 68)), (1, .int p1), (2, .int a6)] [] SH0 m7) (fM_layBad_l23 p1) _ (fun P5 hl5 hr5 a6 m7 h => ?_) zFU 0 m4 (zw_b1 h)
    rw [fM_layBad_l23] at h
    refine zr_iload_n X dX11_layBad_23 2 rfl ?_
    refine zr_aload_n X dX11_layBad_24 0 rfl ?_
    refine zr_getI X dX11_layBad_25 zd_X11_13 rfl zo_68 (by rw [zk_11 zo_68]; decide) ?_
    refine zr_aload_n X dX11_layBad_28 0 rfl ?_
    refine zr_getI X dX11_layBad_29 zd_X11_13 rfl zo_68 (by rw [zk_11 zo_68]; decide) ?_
    refine zr_imul X dX11_layBad_32 ?_
    refine zr_icmp_ge (tgt := 109) X dX11_layBad_33 (by decide) (fun q => ?_) (fun q => ?_)
    · rw [if_neg q] at h
      have h := hr5 _ h
      exact zr_vret X dX11_layBad_109 ⟨Nat.le_refl _, Nat.le_refl _⟩ ⟨rfl, rfl, h⟩
    · rw [if_pos q] at h
      refine zr_aload_n X dX11_layBad_36 0 rfl ?_
      refine zr_iload_n X dX11_layBad_37 1 rfl ?_
      refine zr_iload_n X dX11_layBad_38 2 rfl ?_
      refine zr_callV_i (As := [.int p1, .int a6]) (st := []) (d := d - 1) X dX11_layBad_39 wm_X11_344 my_X11_seesOf mv_X11_seesOf zo_68 rfl (Nat.le_of_ble_eq_true rfl) (zRm (by omega)) ⟨Nat.le_refl _, Nat.le_refl _⟩ (x_fM_seesOf hG (d - 1) (by omega) p1 a6 m7 _ (zw_b1 h)) (fun r8 m9 q => ?_)
      obtain ⟨rfl, h⟩ := q
      refine zr_istore_n (lo' := [(3, .int r8), (0, .ref (S.heap.size + 68)), (1, .int p1), (2, .int a6)]) X dX11_layBad_42 (by decide) rfl ?_
      refine zr_aload_n X dX11_layBad_43 1 rfl ?_
      refine zr_getR X dX11_layBad_44 zd_X11_100 rfl zo_68 zl_68_29 ?_
      refine zr_iload_n X dX11_layBad_47 3 rfl ?_
      refine zr_dup2 X dX11_layBad_48 rfl rfl ?_
      obtain ⟨g0, h⟩ := zg_e h
      refine zr_iald X dX11_layBad_49 za_85 (zI_in g0) ?_
      refine zr_iload_n X dX11_layBad_50 0 rfl ?_
      refine zr_ior X dX11_layBad_51 ?_
      obtain ⟨g0, h⟩ := zg_e h
      refine zr_iast X dX11_layBad_52 za_85 (zI_in g0) ?_
      refine zr_iconst (v := 0) X dX11_layBad_53 (by decide) ?_
      refine zr_istore (lo' := [(4, .int 0), (3, .int r8), (0, .ref (S.heap.size + 68)), (1, .int p1), (2, .int a6)]) X dX11_layBad_54 (by decide) rfl ?_
      refine zr_sub [2, 3, 4, 1, 0] rfl ?_
      have hR10 : ∀ (m13 : zv_M), zw (some (.inl (a6 + 1, m13)) : Option ((Int32 × zv_M) ⊕ (zv_M))) P5 → zv_V S D cA p l e (zv_rm d 0 0) s mi args below meth c 5 (MQ below (zv_Q S D cA (zq_v SH0 P)) args s 0 0 (zv_fr S)) 0 0 103 [(0, .ref (S.heap.size + 68)), (1, .int p1), (2, .int a6)] [] SH0 m13 := by
        intro m13 h
        refine zr_iinc (v := a6 + 1) (lo' := [(2, .int (a6 + 1)), (0, .ref (S.heap.size + 68)), (1, .int p1)]) X dX11_layBad_103 2 rfl rfl (by decide) rfl ?_
        refine zr_goto (tgt := 23) X dX11_layBad_106 (by decide) ?_
        have h := hl5 _ h
        exact zr_sub [1, 2, 0] rfl h
      refine zl_w2 (fun a11 m12 => zv_V S D cA p l e (zv_rm d 0 0) s mi args below meth c 5 (MQ below (zv_Q S D cA (zq_v SH0 P)) args s 0 0 (zv_fr S)) 0 0 56 [(0, .ref (S.heap.size + 68)), (1, .int p1), (2, .int a6), (3, .int r8), (4, .int a11)] [] SH0 m12) (fM_layBad_l56 a6 r8) _ (fun P10 hl10 hr10 a11 m12 h => ?_) zFU 0 (wI m7 85 a6.toNatClampNeg ((m7.1 85 a6.toNatClampNeg) ||| r8)) (zw_b1 h)
      rw [fM_layBad_l56] at h
      refine zr_iload X dX11_layBad_56 4 rfl ?_
      refine zr_aload_n X dX11_layBad_58 0 rfl ?_
      refine zr_getI X dX11_layBad_59 zd_X11_13 rfl zo_68 (by rw [zk_11 zo_68]; decide) ?_
      refine zr_aload_n X dX11_layBad_62 0 rfl ?_
      refine zr_getI X dX11_layBad_63 zd_X11_13 rfl zo_68 (by rw [zk_11 zo_68]; decide) ?_
      refine zr_imul X dX11_layBad_66 ?_
      refine zr_icmp_ge (tgt := 103) X dX11_layBad_67 (by decide) (fun q => ?_) (fun q => ?_)
      · rw [if_neg q] at h
        have h := hr10 _ h
        exact zr_sub [0, 1, 2] rfl (hR10 m12 h)
      · rw [if_pos q] at h
        refine zr_aload_n X dX11_layBad_70 0 rfl ?_
        refine zr_getR X dX11_layBad_71 zd_X11_100 rfl zo_68 zl_68_29 ?_
        refine zr_iload X dX11_layBad_74 4 rfl ?_
        refine zr_dup2 X dX11_layBad_76 rfl rfl ?_
        obtain ⟨g0, h⟩ := zg_e h
        refine zr_iald X dX11_layBad_77 za_85 (zI_in g0) ?_
        refine zr_aload_n X dX11_layBad_78 0 rfl ?_
        refine zr_iload_n X dX11_layBad_79 3 rfl ?_
        refine zr_iload X dX11_layBad_80 4 rfl ?_
        refine zr_callV_i (As := [.int r8, .int a11]) (st := [.int (m12.1 85 a11.toNatClampNeg), .int a11, .ref (S.heap.size + 85)]) (d := d - 1) X dX11_layBad_82 wm_X11_323 my_X11_has mv_X11_has zo_68 rfl (Nat.le_of_ble_eq_true rfl) (zRm (by omega)) ⟨Nat.le_refl _, Nat.le_refl _⟩ (x_fM_has hG (d - 1) (by omega) r8 a11 m12 _ (zw_b1 h)) (fun r14 m15 q => ?_)
        obtain ⟨rfl, h⟩ := q
        have hJ95 : ∀ (v16 : Int32), zw (fM_layBad_j95 a11 m12 v16) P10 → zv_V S D cA p l e (zv_rm d 0 0) s mi args below meth c 5 (MQ below (zv_Q S D cA (zq_v SH0 P)) args s 0 0 (zv_fr S)) 0 0 95 [(0, .ref (S.heap.size + 68)), (1, .int p1), (2, .int a6), (3, .int r8), (4, .int a11)] [.int v16, .int (m12.1 85 a11.toNatClampNeg), .int a11, .ref (S.heap.size + 85)] SH0 m12 := by
          intro v16 h
          rw [fM_layBad_j95] at h
          refine zr_ior X dX11_layBad_95 ?_
          obtain ⟨g0, h⟩ := zg_e h
          refine zr_iast X dX11_layBad_96 za_85 (zI_in g0) ?_
          refine zr_iinc (v := a11 + 1) (lo' := [(4, .int (a11 + 1)), (0, .ref (S.heap.size + 68)), (1, .int p1), (2, .int a6), (3, .int r8)]) X dX11_layBad_97 4 rfl rfl (by decide) rfl ?_
          refine zr_goto (tgt := 56) X dX11_layBad_100 (by decide) ?_
          have h := hl10 _ h
          exact zr_sub [1, 2, 3, 4, 0] rfl h
        refine zr_if_eq (tgt := 94) X dX11_layBad_85 (by decide) (fun q => ?_) (fun q => ?_)
        · rw [if_pos q] at h
          refine zr_iconst (v := 0) X dX11_layBad_94 (by decide) ?_
          exact zr_sub [0, 1, 2, 3, 4] rfl (hJ95 0 h)
        · rw [if_neg q] at h
          refine zr_iconst (v := 1) X dX11_layBad_88 (by decide) ?_
          refine zr_iload_n X dX11_layBad_89 2 rfl ?_
          refine zr_ishl X dX11_layBad_90 ?_
          refine zr_goto (tgt := 95) X dX11_layBad_91 (by decide) ?_
          exact zr_sub [0, 1, 2, 3, 4] rfl (hJ95 (1 <<< (a6 &&& 31)) h)
  refine zl_w2 (fun a2 m3 => zv_V S D cA p l e (zv_rm d 0 0) s mi args below meth c 5 (MQ below (zv_Q S D cA (zq_v SH0 P)) args s 0 0 (zv_fr S)) 0 0 2 [(0, .ref (S.heap.size + 68)), (1, .int p1), (2, .int a2)] [] SH0 m3) fM_layBad_l2 _ (fun P1 hl1 hr1 a2 m3 h => ?_) zFU 0 m (zw_b1 h)
  rw [fM_layBad_l2] at h
  refine zr_iload_n X dX11_layBad_2 2 rfl ?_
  refine zr_bipush (v := 25) X dX11_layBad_3 (by decide) ?_
  refine zr_icmp_ge (tgt := 21) X dX11_layBad_5 (by decide) (fun q => ?_) (fun q => ?_)
  · rw [if_neg q] at h
    have h := hr1 _ h
    exact zr_sub [0, 1] rfl (hR1 m3 h)
  · rw [if_pos q] at h
    refine zr_aload_n X dX11_layBad_8 0 rfl ?_
    refine zr_getR X dX11_layBad_9 zd_X11_100 rfl zo_68 zl_68_29 ?_
    refine zr_iload_n X dX11_layBad_12 2 rfl ?_
    refine zr_iconst (v := 0) X dX11_layBad_13 (by decide) ?_
    obtain ⟨g0, h⟩ := zg_e h
    refine zr_iast X dX11_layBad_14 za_85 (zI_in g0) ?_
    refine zr_iinc (v := a2 + 1) (lo' := [(2, .int (a2 + 1)), (0, .ref (S.heap.size + 68)), (1, .int p1)]) X dX11_layBad_15 2 rfl rfl (by decide) rfl ?_
    refine zr_goto (tgt := 2) X dX11_layBad_18 (by decide) ?_
    have h := hl1 _ h
    exact zr_sub [1, 2, 0] rfl h

set_option maxRecDepth 100000 in
set_option maxHeartbeats 4000000 in
theorem x_fM_isWay {l : Launch} {S : State} {D : va_G} {cA : Nat → ClassId} {tb sx : Nat → Nat} (hG : zv_G S D cA tb sx) (d : Nat) (hd : 2 ≤ d) (m : zv_M) (P : Int32 → Prop) (h : zw (fM_isWay m) P) : zv_Met l S D cA d 0 0 yX11_isWay cX11_isWay 4 (some .boolean) [.ref (S.heap.size + 68)] SH0 m (zq_i SH0 (fun v m' => m = m' ∧ P v)) := by
  refine zv_met false hG pf_X11_isWay (fun z => by cases z) (Nat.le_of_ble_eq_true rfl) [(0, .ref (S.heap.size + 68))] rfl (fun p e s mi args below meth c X => ?_)
  rw [fM_isWay] at h
  refine zr_iconst (v := 0) X dX11_isWay_0 (by decide) ?_
  refine zr_istore_n (lo' := [(1, .int 0), (0, .ref (S.heap.size + 68))]) X dX11_isWay_1 (by decide) rfl ?_
  refine zr_iconst (v := 0) X dX11_isWay_2 (by decide) ?_
  refine zr_istore_n (lo' := [(2, .int 0), (1, .int 0), (0, .ref (S.heap.size + 68))]) X dX11_isWay_3 (by decide) rfl ?_
  refine zr_sub [2, 1, 0] rfl ?_
  refine zl_w2 (fun a2 a3 => zv_V S D cA p l e (zv_rm d 0 0) s mi args below meth c 4 (MQ below (zv_Q S D cA (zq_i SH0 (fun v m' => m = m' ∧ P v))) args s 0 0 (zv_fr S)) 0 0 4 [(0, .ref (S.heap.size + 68)), (1, .int a2), (2, .int a3)] [] SH0 m) (fM_isWay_l4 m) _ (fun P1 hl1 hr1 a2 a3 h => ?_) zFU 0 0 (zw_b1 h)
  rw [fM_isWay_l4] at h
  refine zr_iload_n X dX11_isWay_4 2 rfl ?_
  refine zr_aload_n X dX11_isWay_5 0 rfl ?_
  refine zr_getI X dX11_isWay_6 zd_X11_13 rfl zo_68 (by rw [zk_11 zo_68]; decide) ?_
  refine zr_icmp_ge (tgt := 63) X dX11_isWay_9 (by decide) (fun q => ?_) (fun q => ?_)
  · rw [if_neg q] at h
    refine zr_iconst (v := 1) X dX11_isWay_63 (by decide) ?_
    have h := hr1 _ h
    exact zr_iret X dX11_isWay_64 rfl ⟨Nat.le_refl _, Nat.le_refl _⟩ ⟨rfl, _, rfl, rfl, h⟩
  · rw [if_pos q] at h
    refine zr_aload_n X dX11_isWay_12 0 rfl ?_
    refine zr_getI X dX11_isWay_13 zd_X11_13 rfl zo_68 (by rw [zk_11 zo_68]; decide) ?_
    refine zr_iload_n X dX11_isWay_16 2 rfl ?_
    refine zr_imul X dX11_isWay_17 ?_
    refine zr_aload_n X dX11_isWay_18 0 rfl ?_
    refine zr_getR X dX11_isWay_19 zd_X11_103 rfl zo_68 zl_68_30 ?_
    refine zr_iload_n X dX11_isWay_22 2 rfl ?_
    obtain ⟨g0, h⟩ := zg_e h
    refine zr_iald X dX11_isWay_23 za_86 (zI_in g0) ?_
    refine zr_iadd X dX11_isWay_24 ?_
    refine zr_istore_n (lo' := [(3, .int (((m.1 68 1) * a3) + (m.1 86 a3.toNatClampNeg))), (0, .ref (S.heap.size + 68)), (1, .int a2), (2, .int a3)]) X dX11_isWay_25 (by decide) rfl ?_
    refine zr_aload_n X dX11_isWay_26 1 rfl ?_
    refine zr_aload_n X dX11_isWay_27 1 rfl ?_
    refine zr_getI X dX11_isWay_28 zd_X11_19 rfl zo_68 (by rw [zk_11 zo_68]; decide) ?_
    refine zr_iload_n X dX11_isWay_31 0 rfl ?_
    refine zr_callV_i (As := [.int (m.1 68 3), .int (((m.1 68 1) * a3) + (m.1 86 a3.toNatClampNeg))]) (st := []) (d := d - 1) X dX11_isWay_32 wm_X11_323 my_X11_has mv_X11_has zo_68 rfl (Nat.le_of_ble_eq_true rfl) (zRm (by omega)) ⟨Nat.le_refl _, Nat.le_refl _⟩ (x_fM_has hG (d - 1) (by omega) (m.1 68 3) (((m.1 68 1) * a3) + (m.1 86 a3.toNatClampNeg)) m _ (zw_b1 h)) (fun r4 m5 q => ?_)
    obtain ⟨rfl, h⟩ := q
    refine zr_if_ne (tgt := 49) X dX11_isWay_35 (by decide) (fun q => ?_) (fun q => ?_)
    · rw [if_neg q] at h
      refine zr_iconst (v := 0) X dX11_isWay_49 (by decide) ?_
      have h := hr1 _ h
      exact zr_iret X dX11_isWay_50 rfl ⟨Nat.le_refl _, Nat.le_refl _⟩ ⟨rfl, _, rfl, rfl, h⟩
    · rw [if_pos q] at h
      refine zr_aload_n X dX11_isWay_38 1 rfl ?_
      refine zr_getR X dX11_isWay_39 zd_X11_100 rfl zo_68 zl_68_29 ?_
      refine zr_iload_n X dX11_isWay_42 0 rfl ?_
      obtain ⟨g0, h⟩ := zg_e h
      refine zr_iald X dX11_isWay_43 za_85 (zI_in g0) ?_
      refine zr_iload_n X dX11_isWay_44 2 rfl ?_
      refine zr_iand X dX11_isWay_45 ?_
      refine zr_if_eq (tgt := 51) X dX11_isWay_46 (by decide) (fun q => ?_) (fun q => ?_)
      · rw [if_pos q] at h
        refine zr_iload_n X dX11_isWay_51 2 rfl ?_
        refine zr_iconst (v := 1) X dX11_isWay_52 (by decide) ?_
        refine zr_iload_n X dX11_isWay_53 0 rfl ?_
        refine zr_ishl X dX11_isWay_54 ?_
        refine zr_ior X dX11_isWay_55 ?_
        refine zr_topi (fun a6 ea6 => ?_)
        rw [zlet, ← ea6] at h
        refine zr_istore_n (lo' := [(1, .int a6), (3, .int (((m.1 68 1) * a3) + (m.1 86 a3.toNatClampNeg))), (0, .ref (S.heap.size + 68)), (2, .int a3)]) X dX11_isWay_56 (by decide) rfl ?_
        refine zr_iinc (v := a3 + 1) (lo' := [(2, .int (a3 + 1)), (1, .int a6), (3, .int (((m.1 68 1) * a3) + (m.1 86 a3.toNatClampNeg))), (0, .ref (S.heap.size + 68))]) X dX11_isWay_57 3 rfl rfl (by decide) rfl ?_
        refine zr_goto (tgt := 4) X dX11_isWay_60 (by decide) ?_
        have h := hl1 _ h
        exact zr_sub [3, 1, 0] rfl h
      · rw [if_neg q] at h
        refine zr_iconst (v := 0) X dX11_isWay_49 (by decide) ?_
        have h := hr1 _ h
        exact zr_iret X dX11_isWay_50 rfl ⟨Nat.le_refl _, Nat.le_refl _⟩ ⟨rfl, _, rfl, rfl, h⟩

set_option maxRecDepth 100000 in
set_option maxHeartbeats 4000000 in
theorem x_fM_nextRow {l : Launch} {S : State} {D : va_G} {cA : Nat → ClassId} {tb sx : Nat → Nat} (hG : zv_G S D cA tb sx) (d : Nat) (hd : 1 ≤ d) (m : zv_M) (P : Int32 → zv_M → Prop) (h : zw2 (fM_nextRow m) P) : zv_Met l S D cA d 0 0 yX11_nextRow cX11_nextRow 2 (some .boolean) [.ref (S.heap.size + 68)] SH0 m (zq_i SH0 P) := by
  refine zv_met false hG pf_X11_nextRow (fun z => by cases z) (Nat.le_of_ble_eq_true rfl) [(0, .ref (S.heap.size + 68))] rfl (fun p e s mi args below meth c X => ?_)
  rw [fM_nextRow] at h
  refine zr_aload_n X dX11_nextRow_0 0 rfl ?_
  refine zr_getI X dX11_nextRow_1 zd_X11_13 rfl zo_68 (by rw [zk_11 zo_68]; decide) ?_
  refine zr_iconst (v := 1) X dX11_nextRow_4 (by decide) ?_
  refine zr_isub X dX11_nextRow_5 ?_
  refine zr_istore_n (lo' := [(1, .int ((m.1 68 1) - 1)), (0, .ref (S.heap.size + 68))]) X dX11_nextRow_6 (by decide) rfl ?_
  refine zr_sub [1, 0] rfl ?_
  refine zl_w2 (fun a2 m3 => zv_V S D cA p l e (zv_rm d 0 0) s mi args below meth c 2 (MQ below (zv_Q S D cA (zq_i SH0 P)) args s 0 0 (zv_fr S)) 0 0 7 [(0, .ref (S.heap.size + 68)), (1, .int a2)] [] SH0 m3) fM_nextRow_l7 _ (fun P1 hl1 hr1 a2 m3 h => ?_) zFU ((m.1 68 1) - 1) m (zw_b12 h)
  rw [fM_nextRow_l7] at h
  refine zr_iload_n X dX11_nextRow_7 1 rfl ?_
  refine zr_if_lt (tgt := 49) X dX11_nextRow_8 (by decide) (fun q => ?_) (fun q => ?_)
  · rw [if_pos q] at h
    refine zr_iconst (v := 0) X dX11_nextRow_49 (by decide) ?_
    have h := hr1 _ h
    exact zr_iret X dX11_nextRow_50 rfl ⟨Nat.le_refl _, Nat.le_refl _⟩ ⟨rfl, _, rfl, h⟩
  · rw [if_neg q] at h
    refine zr_aload_n X dX11_nextRow_11 0 rfl ?_
    refine zr_getR X dX11_nextRow_12 zd_X11_103 rfl zo_68 zl_68_30 ?_
    refine zr_iload_n X dX11_nextRow_15 1 rfl ?_
    refine zr_dup2 X dX11_nextRow_16 rfl rfl ?_
    obtain ⟨g0, h⟩ := zg_e h
    refine zr_iald X dX11_nextRow_17 za_86 (zI_in g0) ?_
    refine zr_iconst (v := 1) X dX11_nextRow_18 (by decide) ?_
    refine zr_iadd X dX11_nextRow_19 ?_
    obtain ⟨g0, h⟩ := zg_e h
    refine zr_iast X dX11_nextRow_20 za_86 (zI_in g0) ?_
    refine zr_aload_n X dX11_nextRow_21 0 rfl ?_
    refine zr_getR X dX11_nextRow_22 zd_X11_103 rfl zo_68 zl_68_30 ?_
    refine zr_iload_n X dX11_nextRow_25 1 rfl ?_
    obtain ⟨g0, h⟩ := zg_e h
    refine zr_iald X dX11_nextRow_26 za_86 (zI_in g0) ?_
    refine zr_aload_n X dX11_nextRow_27 0 rfl ?_
    refine zr_getI X dX11_nextRow_28 zd_X11_13 rfl zo_68 (by rw [zk_11 zo_68]; decide) ?_
    refine zr_icmp_ge (tgt := 36) X dX11_nextRow_31 (by decide) (fun q => ?_) (fun q => ?_)
    · rw [if_neg q] at h
      refine zr_aload_n X dX11_nextRow_36 0 rfl ?_
      refine zr_getR X dX11_nextRow_37 zd_X11_103 rfl zo_68 zl_68_30 ?_
      refine zr_iload_n X dX11_nextRow_40 1 rfl ?_
      refine zr_iconst (v := 0) X dX11_nextRow_41 (by decide) ?_
      obtain ⟨g0, h⟩ := zg_e h
      refine zr_iast X dX11_nextRow_42 za_86 (zI_in g0) ?_
      refine zr_iinc (v := a2 - 1) (lo' := [(1, .int (a2 - 1)), (0, .ref (S.heap.size + 68))]) X dX11_nextRow_43 1 rfl (by rw [Int32.sub_eq_add_neg]; rfl) (by decide) rfl ?_
      refine zr_goto (tgt := 7) X dX11_nextRow_46 (by decide) ?_
      have h := hl1 _ h
      exact zr_sub [1, 0] rfl h
    · rw [if_pos q] at h
      refine zr_iconst (v := 1) X dX11_nextRow_34 (by decide) ?_
      have h := hr1 _ h
      exact zr_iret X dX11_nextRow_35 rfl ⟨Nat.le_refl _, Nat.le_refl _⟩ ⟨rfl, _, rfl, h⟩

set_option maxRecDepth 100000 in
set_option maxHeartbeats 4000000 in
theorem x_fM_ways {l : Launch} {S : State} {D : va_G} {cA : Nat → ClassId} {tb sx : Nat → Nat} (hG : zv_G S D cA tb sx) (d : Nat) (hd : 7 ≤ d) (p1 : Int32) (p2 : Int32) (m : zv_M) (P : Int32 → zv_M → Prop) (h : zw2 (fM_ways p1 p2 m) P) : zv_Met l S D cA d 0 0 yX11_ways cX11_ways 6 (some .int) [.ref (S.heap.size + 68), .int p1, .int p2] SH0 m (zq_i SH0 P) := by
  refine zv_met false hG pf_X11_ways (fun z => by cases z) (Nat.le_of_ble_eq_true rfl) [(0, .ref (S.heap.size + 68)), (1, .int p1), (2, .int p2)] rfl (fun p e s mi args below meth c X => ?_)
  rw [fM_ways] at h
  refine zr_aload_n X dX11_ways_0 0 rfl ?_
  refine zr_iload_n X dX11_ways_1 1 rfl ?_
  refine zr_callV_i (As := [.int p1]) (st := []) (d := d - 1) X dX11_ways_2 wm_X11_234 my_X11_isPlan mv_X11_isPlan zo_68 rfl (Nat.le_of_ble_eq_true rfl) (zRm (by omega)) ⟨Nat.le_refl _, Nat.le_refl _⟩ (x_fM_isPlan hG (d - 1) (by omega) p1 m _ (zw_b12 h)) (fun r1 m2 q => ?_)
  obtain ⟨rfl, h⟩ := q
  refine zr_if_eq (tgt := 23) X dX11_ways_5 (by decide) (fun q => ?_) (fun q => ?_)
  · rw [if_pos q] at h
    refine zr_iconst (v := (-1)) X dX11_ways_23 (by decide) ?_
    exact zr_iret X dX11_ways_24 rfl ⟨Nat.le_refl _, Nat.le_refl _⟩ ⟨rfl, _, rfl, h⟩
  · rw [if_neg q] at h
    refine zr_aload_n X dX11_ways_8 0 rfl ?_
    refine zr_iload_n X dX11_ways_9 2 rfl ?_
    refine zr_iconst (v := (-1)) X dX11_ways_10 (by decide) ?_
    refine zr_aload_n X dX11_ways_11 0 rfl ?_
    refine zr_getI X dX11_ways_12 zd_X11_13 rfl zo_68 (by rw [zk_11 zo_68]; decide) ?_
    refine zr_iconst (v := 1) X dX11_ways_15 (by decide) ?_
    refine zr_isub X dX11_ways_16 ?_
    refine zr_callV_i (As := [.int p2, .int (-1), .int ((m.1 68 1) - 1)]) (st := []) (d := d - 1) X dX11_ways_17 wm_X11_230 my_X11_in mv_X11_in zo_68 rfl (Nat.le_of_ble_eq_true rfl) (zRm (by omega)) ⟨Nat.le_refl _, Nat.le_refl _⟩ (x_fM_in hG (d - 1) (by omega) p2 (-1) ((m.1 68 1) - 1) m _ (zw_b12 h)) (fun r3 m4 q => ?_)
    obtain ⟨rfl, h⟩ := q
    refine zr_if_ne (tgt := 25) X dX11_ways_20 (by decide) (fun q => ?_) (fun q => ?_)
    · rw [if_neg q] at h
      refine zr_aload_n X dX11_ways_25 0 rfl ?_
      refine zr_iload_n X dX11_ways_26 1 rfl ?_
      refine zr_callV_v (As := [.int p1]) (st := []) (d := d - 1) X dX11_ways_27 wm_X11_362 my_X11_layBad mv_X11_layBad zo_68 rfl (Nat.le_of_ble_eq_true rfl) (zRm (by omega)) ⟨Nat.le_refl _, Nat.le_refl _⟩ (x_fM_layBad hG (d - 1) (by omega) p1 m _ (zw_b12 h)) (fun m5 q => ?_)
      replace h := q
      refine zr_iconst (v := 0) X dX11_ways_30 (by decide) ?_
      refine zr_istore_n (lo' := [(3, .int 0), (0, .ref (S.heap.size + 68)), (1, .int p1), (2, .int p2)]) X dX11_ways_31 (by decide) rfl ?_
      refine zr_iconst (v := 0) X dX11_ways_32 (by decide) ?_
      refine zr_istore (lo' := [(4, .int 0), (3, .int 0), (0, .ref (S.heap.size + 68)), (1, .int p1), (2, .int p2)]) X dX11_ways_33 (by decide) rfl ?_
      refine zr_sub [2, 4, 1, 0] rfl ?_
      have hR6 : ∀ (m9 : zv_M), zw2 (zb1 (whileN zFU fM_ways_l58 (0, 1, m9)) (fun x => match x with | (a14, m15) => if p2 < 0 then some (a14, m15) else if a14 = 0 then some ((-5), m15) else zg (zI p2 5) (some (m15.1 87 p2.toNatClampNeg, m15))) : Option (Int32 × zv_M)) P → zv_V S D cA p l e (zv_rm d 0 0) s mi args below meth c 6 (MQ below (zv_Q S D cA (zq_i SH0 P)) args s 0 0 (zv_fr S)) 0 0 55 [(0, .ref (S.heap.size + 68)), (2, .int p2), (3, .int 0)] [] SH0 m9 := by
        intro m9 h
        refine zr_iconst (v := 1) X dX11_ways_55 (by decide) ?_
        refine zr_istore (lo' := [(4, .int 1), (0, .ref (S.heap.size + 68)), (2, .int p2), (3, .int 0)]) X dX11_ways_56 (by decide) rfl ?_
        refine zr_sub [1, 2, 3, 0] rfl ?_
        have hR10 : ∀ (a14 : Int32) (m15 : zv_M), zw2 (if p2 < 0 then some (a14, m15) else if a14 = 0 then some ((-5), m15) else zg (zI p2 5) (some (m15.1 87 p2.toNatClampNeg, m15)) : Option (Int32 × zv_M)) P → zv_V S D cA p l e (zv_rm d 0 0) s mi args below meth c 6 (MQ below (zv_Q S D cA (zq_i SH0 P)) args s 0 0 (zv_fr S)) 0 0 115 [(0, .ref (S.heap.size + 68)), (2, .int p2), (3, .int a14)] [] SH0 m15 := by
          intro a14 m15 h
          refine zr_iload_n X dX11_ways_115 1 rfl ?_
          refine zr_if_ge (tgt := 123) X dX11_ways_116 (by decide) (fun q => ?_) (fun q => ?_)
          · rw [if_neg q] at h
            refine zr_iload_n X dX11_ways_123 2 rfl ?_
            refine zr_if_ne (tgt := 132) X dX11_ways_124 (by decide) (fun q => ?_) (fun q => ?_)
            · rw [if_neg q] at h
              refine zr_aload_n X dX11_ways_132 0 rfl ?_
              refine zr_getR X dX11_ways_133 zd_X11_106 rfl zo_68 zl_68_31 ?_
              refine zr_iload_n X dX11_ways_136 1 rfl ?_
              obtain ⟨g0, h⟩ := zg_e2 h
              refine zr_iald X dX11_ways_137 za_87 (zI_in g0) ?_
              exact zr_iret X dX11_ways_138 rfl ⟨Nat.le_refl _, Nat.le_refl _⟩ ⟨rfl, _, rfl, h⟩
            · rw [if_pos q] at h
              refine zr_bipush (v := (-5)) X dX11_ways_127 (by decide) ?_
              refine zr_goto (tgt := 138) X dX11_ways_129 (by decide) ?_
              exact zr_iret X dX11_ways_138 rfl ⟨Nat.le_refl _, Nat.le_refl _⟩ ⟨rfl, _, rfl, h⟩
          · rw [if_pos q] at h
            refine zr_iload_n X dX11_ways_119 2 rfl ?_
            refine zr_goto (tgt := 138) X dX11_ways_120 (by decide) ?_
            exact zr_iret X dX11_ways_138 rfl ⟨Nat.le_refl _, Nat.le_refl _⟩ ⟨rfl, _, rfl, h⟩
        refine zl_w3 (fun a11 a12 m13 => zv_V S D cA p l e (zv_rm d 0 0) s mi args below meth c 6 (MQ below (zv_Q S D cA (zq_i SH0 P)) args s 0 0 (zv_fr S)) 0 0 58 [(0, .ref (S.heap.size + 68)), (2, .int p2), (3, .int a11), (4, .int a12)] [] SH0 m13) fM_ways_l58 _ (fun P10 hl10 hr10 a11 a12 m13 h => ?_) zFU 0 1 m9 (zw_b12 h)
        rw [fM_ways_l58] at h
        refine zr_iload X dX11_ways_58 3 rfl ?_
        refine zr_if_eq (tgt := 115) X dX11_ways_60 (by decide) (fun q => ?_) (fun q => ?_)
        · rw [if_pos q] at h
          have h := hr10 _ h
          exact zr_sub [0, 1, 2] rfl (hR10 a11 m13 h)
        · rw [if_neg q] at h
          refine zr_aload_n X dX11_ways_63 0 rfl ?_
          refine zr_callV_i (As := []) (st := []) (d := d - 1) X dX11_ways_64 wm_X11_365 my_X11_isWay mv_X11_isWay zo_68 rfl (Nat.le_of_ble_eq_true rfl) (zRm (by omega)) ⟨Nat.le_refl _, Nat.le_refl _⟩ (x_fM_isWay hG (d - 1) (by omega) m13 _ (zw_b1 h)) (fun r16 m17 q => ?_)
          obtain ⟨rfl, h⟩ := q
          have hJ106 : ∀ (a18 : Int32) (m19 : zv_M), zw (fM_ways_j106 a18 m19) P10 → zv_V S D cA p l e (zv_rm d 0 0) s mi args below meth c 6 (MQ below (zv_Q S D cA (zq_i SH0 P)) args s 0 0 (zv_fr S)) 0 0 106 [(0, .ref (S.heap.size + 68)), (2, .int p2), (3, .int a18)] [] SH0 m19 := by
            intro a18 m19 h
            rw [fM_ways_j106] at h
            refine zr_aload_n X dX11_ways_106 0 rfl ?_
            refine zr_callV_i (As := []) (st := []) (d := d - 1) X dX11_ways_107 wm_X11_368 my_X11_nextRow mv_X11_nextRow zo_68 rfl (Nat.le_of_ble_eq_true rfl) (zRm (by omega)) ⟨Nat.le_refl _, Nat.le_refl _⟩ (x_fM_nextRow hG (d - 1) (by omega) m19 _ (zw_b2 h)) (fun r20 m21 q => ?_)
            replace h := q
            refine zr_istore (lo' := [(4, .int r20), (0, .ref (S.heap.size + 68)), (2, .int p2), (3, .int a18)]) X dX11_ways_110 (by decide) rfl ?_
            refine zr_goto (tgt := 58) X dX11_ways_112 (by decide) ?_
            have h := hl10 _ h
            exact zr_sub [1, 2, 3, 0] rfl h
          refine zr_if_eq (tgt := 106) X dX11_ways_67 (by decide) (fun q => ?_) (fun q => ?_)
          · rw [if_pos q] at h
            exact zr_sub [0, 1, 2] rfl (hJ106 a11 m13 h)
          · rw [if_neg q] at h
            refine zr_iconst (v := 0) X dX11_ways_70 (by decide) ?_
            refine zr_istore (lo' := [(5, .int 0), (0, .ref (S.heap.size + 68)), (2, .int p2), (3, .int a11), (4, .int a12)]) X dX11_ways_71 (by decide) rfl ?_
            refine zr_sub [1, 2, 3, 0] rfl ?_
            have hR22 : ∀ (m25 : zv_M), zw (fM_ways_j106 (a11 + 1) m25 : Option ((Int32 × Int32 × zv_M) ⊕ (Int32 × zv_M))) P10 → zv_V S D cA p l e (zv_rm d 0 0) s mi args below meth c 6 (MQ below (zv_Q S D cA (zq_i SH0 P)) args s 0 0 (zv_fr S)) 0 0 103 [(0, .ref (S.heap.size + 68)), (2, .int p2), (3, .int a11)] [] SH0 m25 := by
              intro m25 h
              refine zr_iinc (v := a11 + 1) (lo' := [(3, .int (a11 + 1)), (0, .ref (S.heap.size + 68)), (2, .int p2)]) X dX11_ways_103 2 rfl rfl (by decide) rfl ?_
              exact zr_sub [1, 2, 0] rfl (hJ106 (a11 + 1) m25 h)
            refine zl_w2 (fun a23 m24 => zv_V S D cA p l e (zv_rm d 0 0) s mi args below meth c 6 (MQ below (zv_Q S D cA (zq_i SH0 P)) args s 0 0 (zv_fr S)) 0 0 73 [(0, .ref (S.heap.size + 68)), (2, .int p2), (3, .int a11), (5, .int a23)] [] SH0 m24) (fM_ways_l73 a11) _ (fun P22 hl22 hr22 a23 m24 h => ?_) zFU 0 m13 (zw_b1 h)
            rw [fM_ways_l73] at h
            refine zr_iload X dX11_ways_73 3 rfl ?_
            refine zr_iconst (v := 5) X dX11_ways_75 (by decide) ?_
            refine zr_icmp_ge (tgt := 103) X dX11_ways_76 (by decide) (fun q => ?_) (fun q => ?_)
            · rw [if_neg q] at h
              have h := hr22 _ h
              exact zr_sub [0, 1, 2] rfl (hR22 m24 h)
            · rw [if_pos q] at h
              refine zr_iload_n X dX11_ways_79 2 rfl ?_
              refine zr_if_ne (tgt := 103) X dX11_ways_80 (by decide) (fun q => ?_) (fun q => ?_)
              · rw [if_neg q] at h
                have h := hr22 _ h
                exact zr_sub [0, 1, 2] rfl (hR22 m24 h)
              · rw [if_pos q] at h
                refine zr_aload_n X dX11_ways_83 0 rfl ?_
                refine zr_getR X dX11_ways_84 zd_X11_106 rfl zo_68 zl_68_31 ?_
                refine zr_iload X dX11_ways_87 3 rfl ?_
                refine zr_aload_n X dX11_ways_89 0 rfl ?_
                refine zr_getR X dX11_ways_90 zd_X11_103 rfl zo_68 zl_68_30 ?_
                refine zr_iload X dX11_ways_93 3 rfl ?_
                obtain ⟨g0, h⟩ := zg_e h
                refine zr_iald X dX11_ways_95 za_86 (zI_in g0) ?_
                obtain ⟨g0, h⟩ := zg_e h
                refine zr_iast X dX11_ways_96 za_87 (zI_in g0) ?_
                refine zr_iinc (v := a23 + 1) (lo' := [(5, .int (a23 + 1)), (0, .ref (S.heap.size + 68)), (2, .int p2), (3, .int a11)]) X dX11_ways_97 3 rfl rfl (by decide) rfl ?_
                refine zr_goto (tgt := 73) X dX11_ways_100 (by decide) ?_
                have h := hl22 _ h
                exact zr_sub [1, 2, 3, 0] rfl h
      refine zl_w2 (fun a7 m8 => zv_V S D cA p l e (zv_rm d 0 0) s mi args below meth c 6 (MQ below (zv_Q S D cA (zq_i SH0 P)) args s 0 0 (zv_fr S)) 0 0 35 [(0, .ref (S.heap.size + 68)), (2, .int p2), (3, .int 0), (4, .int a7)] [] SH0 m8) fM_ways_l35 _ (fun P6 hl6 hr6 a7 m8 h => ?_) zFU 0 m5 (zw_b12 h)
      rw [fM_ways_l35] at h
      refine zr_iload X dX11_ways_35 3 rfl ?_
      refine zr_iconst (v := 5) X dX11_ways_37 (by decide) ?_
      refine zr_icmp_ge (tgt := 55) X dX11_ways_38 (by decide) (fun q => ?_) (fun q => ?_)
      · rw [if_neg q] at h
        have h := hr6 _ h
        exact zr_sub [0, 1, 2] rfl (hR6 m8 h)
      · rw [if_pos q] at h
        refine zr_aload_n X dX11_ways_41 0 rfl ?_
        refine zr_getR X dX11_ways_42 zd_X11_103 rfl zo_68 zl_68_30 ?_
        refine zr_iload X dX11_ways_45 3 rfl ?_
        refine zr_iconst (v := 0) X dX11_ways_47 (by decide) ?_
        obtain ⟨g0, h⟩ := zg_e h
        refine zr_iast X dX11_ways_48 za_86 (zI_in g0) ?_
        refine zr_iinc (v := a7 + 1) (lo' := [(4, .int (a7 + 1)), (0, .ref (S.heap.size + 68)), (2, .int p2), (3, .int 0)]) X dX11_ways_49 3 rfl rfl (by decide) rfl ?_
        refine zr_goto (tgt := 35) X dX11_ways_52 (by decide) ?_
        have h := hl6 _ h
        exact zr_sub [1, 2, 3, 0] rfl h
    · rw [if_pos q] at h
      refine zr_iconst (v := (-1)) X dX11_ways_23 (by decide) ?_
      exact zr_iret X dX11_ways_24 rfl ⟨Nat.le_refl _, Nat.le_refl _⟩ ⟨rfl, _, rfl, h⟩

set_option maxRecDepth 100000 in
set_option maxHeartbeats 4000000 in
theorem x_fM_layMen {l : Launch} {S : State} {D : va_G} {cA : Nat → ClassId} {tb sx : Nat → Nat} (hG : zv_G S D cA tb sx) (d : Nat) (hd : 1 ≤ d) (m : zv_M) (P : Int32 → zv_M → Prop) (h : zw2 (fM_layMen m) P) : zv_Met l S D cA d 0 0 yX11_layMen cX11_layMen 4 (some .boolean) [.ref (S.heap.size + 68)] SH0 m (zq_i SH0 P) := by
  refine zv_met false hG pf_X11_layMen (fun z => by cases z) (Nat.le_of_ble_eq_true rfl) [(0, .ref (S.heap.size + 68))] rfl (fun p e s mi args below meth c X => ?_)
  rw [fM_layMen] at h
  refine zr_iconst (v := 0) X dX11_layMen_0 (by decide) ?_
  refine zr_istore_n (lo' := [(1, .int 0), (0, .ref (S.heap.size + 68))]) X dX11_layMen_1 (by decide) rfl ?_
  refine zr_sub [1, 0] rfl ?_
  refine zl_w2 (fun a2 m3 => zv_V S D cA p l e (zv_rm d 0 0) s mi args below meth c 4 (MQ below (zv_Q S D cA (zq_i SH0 P)) args s 0 0 (zv_fr S)) 0 0 2 [(0, .ref (S.heap.size + 68)), (1, .int a2)] [] SH0 m3) fM_layMen_l2 _ (fun P1 hl1 hr1 a2 m3 h => ?_) zFU 0 m (zw_b12 h)
  rw [fM_layMen_l2] at h
  refine zr_iload_n X dX11_layMen_2 1 rfl ?_
  refine zr_aload_n X dX11_layMen_3 0 rfl ?_
  refine zr_getI X dX11_layMen_4 zd_X11_13 rfl zo_68 (by rw [zk_11 zo_68]; decide) ?_
  refine zr_icmp_ge (tgt := 70) X dX11_layMen_7 (by decide) (fun q => ?_) (fun q => ?_)
  · rw [if_neg q] at h
    refine zr_iconst (v := 1) X dX11_layMen_70 (by decide) ?_
    have h := hr1 _ h
    exact zr_iret X dX11_layMen_71 rfl ⟨Nat.le_refl _, Nat.le_refl _⟩ ⟨rfl, _, rfl, h⟩
  · rw [if_pos q] at h
    refine zr_iconst (v := 0) X dX11_layMen_10 (by decide) ?_
    refine zr_istore_n (lo' := [(2, .int 0), (0, .ref (S.heap.size + 68)), (1, .int a2)]) X dX11_layMen_11 (by decide) rfl ?_
    refine zr_iconst (v := 0) X dX11_layMen_12 (by decide) ?_
    refine zr_istore_n (lo' := [(3, .int 0), (2, .int 0), (0, .ref (S.heap.size + 68)), (1, .int a2)]) X dX11_layMen_13 (by decide) rfl ?_
    refine zr_sub [2, 3, 1, 0] rfl ?_
    have hR4 : ∀ (a8 : Int32) (m9 : zv_M), zw (if a8 = 1 then some (.inl (a2 + 1, m9)) else some (.inr (0, m9)) : Option ((Int32 × zv_M) ⊕ (Int32 × zv_M))) P1 → zv_V S D cA p l e (zv_rm d 0 0) s mi args below meth c 4 (MQ below (zv_Q S D cA (zq_i SH0 P)) args s 0 0 (zv_fr S)) 0 0 57 [(0, .ref (S.heap.size + 68)), (1, .int a2), (2, .int a8)] [] SH0 m9 := by
      intro a8 m9 h
      refine zr_iload_n X dX11_layMen_57 2 rfl ?_
      refine zr_iconst (v := 1) X dX11_layMen_58 (by decide) ?_
      refine zr_icmp_eq (tgt := 64) X dX11_layMen_59 (by decide) (fun q => ?_) (fun q => ?_)
      · rw [if_pos q] at h
        refine zr_iinc (v := a2 + 1) (lo' := [(1, .int (a2 + 1)), (0, .ref (S.heap.size + 68)), (2, .int a8)]) X dX11_layMen_64 1 rfl rfl (by decide) rfl ?_
        refine zr_goto (tgt := 2) X dX11_layMen_67 (by decide) ?_
        have h := hl1 _ h
        exact zr_sub [1, 0] rfl h
      · rw [if_neg q] at h
        refine zr_iconst (v := 0) X dX11_layMen_62 (by decide) ?_
        have h := hr1 _ h
        exact zr_iret X dX11_layMen_63 rfl ⟨Nat.le_refl _, Nat.le_refl _⟩ ⟨rfl, _, rfl, h⟩
    refine zl_w3 (fun a5 a6 m7 => zv_V S D cA p l e (zv_rm d 0 0) s mi args below meth c 4 (MQ below (zv_Q S D cA (zq_i SH0 P)) args s 0 0 (zv_fr S)) 0 0 14 [(0, .ref (S.heap.size + 68)), (1, .int a2), (2, .int a5), (3, .int a6)] [] SH0 m7) (fM_layMen_l14 a2) _ (fun P4 hl4 hr4 a5 a6 m7 h => ?_) zFU 0 0 m3 (zw_b1 h)
    rw [fM_layMen_l14] at h
    refine zr_iload_n X dX11_layMen_14 3 rfl ?_
    refine zr_aload_n X dX11_layMen_15 0 rfl ?_
    refine zr_getI X dX11_layMen_16 zd_X11_13 rfl zo_68 (by rw [zk_11 zo_68]; decide) ?_
    refine zr_icmp_ge (tgt := 57) X dX11_layMen_19 (by decide) (fun q => ?_) (fun q => ?_)
    · rw [if_neg q] at h
      have h := hr4 _ h
      exact zr_sub [0, 1, 2] rfl (hR4 a5 m7 h)
    · rw [if_pos q] at h
      refine zr_aload_n X dX11_layMen_22 0 rfl ?_
      refine zr_getR X dX11_layMen_23 zd_X11_36 rfl zo_68 zl_68_8 ?_
      refine zr_aload_n X dX11_layMen_26 0 rfl ?_
      refine zr_getI X dX11_layMen_27 zd_X11_13 rfl zo_68 (by rw [zk_11 zo_68]; decide) ?_
      refine zr_iload_n X dX11_layMen_30 1 rfl ?_
      refine zr_imul X dX11_layMen_31 ?_
      refine zr_iload_n X dX11_layMen_32 3 rfl ?_
      refine zr_iadd X dX11_layMen_33 ?_
      obtain ⟨g0, h⟩ := zg_e h
      refine zr_iald X dX11_layMen_34 za_72 (zI_in g0) ?_
      have hJ51 : ∀ (a10 : Int32) (m11 : zv_M), zw (fM_layMen_j51 a6 a10 m11) P4 → zv_V S D cA p l e (zv_rm d 0 0) s mi args below meth c 4 (MQ below (zv_Q S D cA (zq_i SH0 P)) args s 0 0 (zv_fr S)) 0 0 51 [(0, .ref (S.heap.size + 68)), (1, .int a2), (2, .int a10), (3, .int a6)] [] SH0 m11 := by
        intro a10 m11 h
        rw [fM_layMen_j51] at h
        refine zr_iinc (v := a6 + 1) (lo' := [(3, .int (a6 + 1)), (0, .ref (S.heap.size + 68)), (1, .int a2), (2, .int a10)]) X dX11_layMen_51 3 rfl rfl (by decide) rfl ?_
        refine zr_goto (tgt := 14) X dX11_layMen_54 (by decide) ?_
        have h := hl4 _ h
        exact zr_sub [1, 2, 3, 0] rfl h
      refine zr_if_ge (tgt := 41) X dX11_layMen_35 (by decide) (fun q => ?_) (fun q => ?_)
      · rw [if_neg q] at h
        refine zr_aload_n X dX11_layMen_41 0 rfl ?_
        refine zr_getR X dX11_layMen_42 zd_X11_103 rfl zo_68 zl_68_30 ?_
        refine zr_iload_n X dX11_layMen_45 1 rfl ?_
        refine zr_iload_n X dX11_layMen_46 3 rfl ?_
        obtain ⟨g0, h⟩ := zg_e h
        refine zr_iast X dX11_layMen_47 za_86 (zI_in g0) ?_
        refine zr_iinc (v := a5 + 1) (lo' := [(2, .int (a5 + 1)), (0, .ref (S.heap.size + 68)), (1, .int a2), (3, .int a6)]) X dX11_layMen_48 2 rfl rfl (by decide) rfl ?_
        exact zr_sub [1, 2, 0, 3] rfl (hJ51 (a5 + 1) (wI m7 86 a2.toNatClampNeg a6) h)
      · rw [if_pos q] at h
        refine zr_goto (tgt := 51) X dX11_layMen_38 (by decide) ?_
        exact zr_sub [0, 1, 2, 3] rfl (hJ51 a5 m7 h)

set_option maxRecDepth 100000 in
set_option maxHeartbeats 4000000 in
theorem x_fM_after {l : Launch} {S : State} {D : va_G} {cA : Nat → ClassId} {tb sx : Nat → Nat} (hG : zv_G S D cA tb sx) (d : Nat) (hd : 7 ≤ d) (p1 : Int32) (p2 : Int32) (m : zv_M) (P : Int32 → zv_M → Prop) (h : zw2 (fM_after p1 p2 m) P) : zv_Met l S D cA d 0 0 yX11_after cX11_after 3 (some .int) [.ref (S.heap.size + 68), .int p1, .int p2] SH0 m (zq_i SH0 P) := by
  refine zv_met false hG pf_X11_after (fun z => by cases z) (Nat.le_of_ble_eq_true rfl) [(0, .ref (S.heap.size + 68)), (1, .int p1), (2, .int p2)] rfl (fun p e s mi args below meth c X => ?_)
  rw [fM_after] at h
  refine zr_aload_n X dX11_after_0 0 rfl ?_
  refine zr_iload_n X dX11_after_1 1 rfl ?_
  refine zr_callV_i (As := [.int p1]) (st := []) (d := d - 1) X dX11_after_2 wm_X11_234 my_X11_isPlan mv_X11_isPlan zo_68 rfl (Nat.le_of_ble_eq_true rfl) (zRm (by omega)) ⟨Nat.le_refl _, Nat.le_refl _⟩ (x_fM_isPlan hG (d - 1) (by omega) p1 m _ (zw_b12 h)) (fun r1 m2 q => ?_)
  obtain ⟨rfl, h⟩ := q
  refine zr_if_eq (tgt := 23) X dX11_after_5 (by decide) (fun q => ?_) (fun q => ?_)
  · rw [if_pos q] at h
    refine zr_iconst (v := (-1)) X dX11_after_23 (by decide) ?_
    exact zr_iret X dX11_after_24 rfl ⟨Nat.le_refl _, Nat.le_refl _⟩ ⟨rfl, _, rfl, h⟩
  · rw [if_neg q] at h
    refine zr_aload_n X dX11_after_8 0 rfl ?_
    refine zr_iload_n X dX11_after_9 2 rfl ?_
    refine zr_iconst (v := 0) X dX11_after_10 (by decide) ?_
    refine zr_aload_n X dX11_after_11 0 rfl ?_
    refine zr_getI X dX11_after_12 zd_X11_13 rfl zo_68 (by rw [zk_11 zo_68]; decide) ?_
    refine zr_iconst (v := 1) X dX11_after_15 (by decide) ?_
    refine zr_isub X dX11_after_16 ?_
    refine zr_callV_i (As := [.int p2, .int 0, .int ((m.1 68 1) - 1)]) (st := []) (d := d - 1) X dX11_after_17 wm_X11_230 my_X11_in mv_X11_in zo_68 rfl (Nat.le_of_ble_eq_true rfl) (zRm (by omega)) ⟨Nat.le_refl _, Nat.le_refl _⟩ (x_fM_in hG (d - 1) (by omega) p2 0 ((m.1 68 1) - 1) m _ (zw_b12 h)) (fun r3 m4 q => ?_)
    obtain ⟨rfl, h⟩ := q
    refine zr_if_ne (tgt := 25) X dX11_after_20 (by decide) (fun q => ?_) (fun q => ?_)
    · rw [if_neg q] at h
      refine zr_aload_n X dX11_after_25 0 rfl ?_
      refine zr_callV_i (As := []) (st := []) (d := d - 1) X dX11_after_26 wm_X11_371 my_X11_layMen mv_X11_layMen zo_68 rfl (Nat.le_of_ble_eq_true rfl) (zRm (by omega)) ⟨Nat.le_refl _, Nat.le_refl _⟩ (x_fM_layMen hG (d - 1) (by omega) m _ (zw_b22 h)) (fun r5 m6 q => ?_)
      replace h := q
      refine zr_if_ne (tgt := 35) X dX11_after_29 (by decide) (fun q => ?_) (fun q => ?_)
      · rw [if_neg q] at h
        refine zr_aload_n X dX11_after_35 0 rfl ?_
        refine zr_iload_n X dX11_after_36 1 rfl ?_
        refine zr_callV_v (As := [.int p1]) (st := []) (d := d - 1) X dX11_after_37 wm_X11_362 my_X11_layBad mv_X11_layBad zo_68 rfl (Nat.le_of_ble_eq_true rfl) (zRm (by omega)) ⟨Nat.le_refl _, Nat.le_refl _⟩ (x_fM_layBad hG (d - 1) (by omega) p1 m6 _ (zw_b12 h)) (fun m7 q => ?_)
        replace h := q
        refine zr_sub [0, 2] rfl ?_
        refine zl_w1 (fun m9 => zv_V S D cA p l e (zv_rm d 0 0) s mi args below meth c 3 (MQ below (zv_Q S D cA (zq_i SH0 P)) args s 0 0 (zv_fr S)) 0 0 40 [(0, .ref (S.heap.size + 68)), (2, .int p2)] [] SH0 m9) (fM_after_l40 p2) _ (fun P8 hl8 hr8 m9 h => ?_) zFU m7 (zw_b12 h)
        rw [fM_after_l40] at h
        refine zr_aload_n X dX11_after_40 0 rfl ?_
        refine zr_callV_i (As := []) (st := []) (d := d - 1) X dX11_after_41 wm_X11_368 my_X11_nextRow mv_X11_nextRow zo_68 rfl (Nat.le_of_ble_eq_true rfl) (zRm (by omega)) ⟨Nat.le_refl _, Nat.le_refl _⟩ (x_fM_nextRow hG (d - 1) (by omega) m9 _ (zw_b2 h)) (fun r10 m11 q => ?_)
        replace h := q
        refine zr_if_eq (tgt := 61) X dX11_after_44 (by decide) (fun q => ?_) (fun q => ?_)
        · rw [if_pos q] at h
          refine zr_bipush (v := (-5)) X dX11_after_61 (by decide) ?_
          have h := hr8 _ h
          exact zr_iret X dX11_after_63 rfl ⟨Nat.le_refl _, Nat.le_refl _⟩ ⟨rfl, _, rfl, h⟩
        · rw [if_neg q] at h
          refine zr_aload_n X dX11_after_47 0 rfl ?_
          refine zr_callV_i (As := []) (st := []) (d := d - 1) X dX11_after_48 wm_X11_365 my_X11_isWay mv_X11_isWay zo_68 rfl (Nat.le_of_ble_eq_true rfl) (zRm (by omega)) ⟨Nat.le_refl _, Nat.le_refl _⟩ (x_fM_isWay hG (d - 1) (by omega) m11 _ (zw_b1 h)) (fun r12 m13 q => ?_)
          obtain ⟨rfl, h⟩ := q
          refine zr_if_eq (tgt := 40) X dX11_after_51 (by decide) (fun q => ?_) (fun q => ?_)
          · rw [if_pos q] at h
            have h := hl8 _ h
            exact zr_sub [0, 1] rfl h
          · rw [if_neg q] at h
            refine zr_aload_n X dX11_after_54 0 rfl ?_
            refine zr_getR X dX11_after_55 zd_X11_103 rfl zo_68 zl_68_30 ?_
            refine zr_iload_n X dX11_after_58 1 rfl ?_
            obtain ⟨g0, h⟩ := zg_e h
            refine zr_iald X dX11_after_59 za_86 (zI_in g0) ?_
            have h := hr8 _ h
            exact zr_iret X dX11_after_60 rfl ⟨Nat.le_refl _, Nat.le_refl _⟩ ⟨rfl, _, rfl, h⟩
      · rw [if_pos q] at h
        refine zr_bipush (v := (-9)) X dX11_after_32 (by decide) ?_
        exact zr_iret X dX11_after_34 rfl ⟨Nat.le_refl _, Nat.le_refl _⟩ ⟨rfl, _, rfl, h⟩
    · rw [if_pos q] at h
      refine zr_iconst (v := (-1)) X dX11_after_23 (by decide) ?_
      exact zr_iret X dX11_after_24 rfl ⟨Nat.le_refl _, Nat.le_refl _⟩ ⟨rfl, _, rfl, h⟩

set_option maxRecDepth 100000 in
set_option maxHeartbeats 4000000 in
theorem x_fM_lowest {l : Launch} {S : State} {D : va_G} {cA : Nat → ClassId} {tb sx : Nat → Nat} (hG : zv_G S D cA tb sx) (d : Nat) (hd : 2 ≤ d) (p1 : Int32) (m : zv_M) (P : Int32 → Prop) (h : zw (fM_lowest p1) P) : zv_Met l S D cA d 0 0 yX11_lowest cX11_lowest 3 (some .int) [.ref (S.heap.size + 68), .int p1] SH0 m (zq_i SH0 (fun v m' => m = m' ∧ P v)) := by
  refine zv_met false hG pf_X11_lowest (fun z => by cases z) (Nat.le_of_ble_eq_true rfl) [(0, .ref (S.heap.size + 68)), (1, .int p1)] rfl (fun p e s mi args below meth c X => ?_)
  rw [fM_lowest] at h
  refine zr_iconst (v := 0) X dX11_lowest_0 (by decide) ?_
  refine zr_istore_n (lo' := [(2, .int 0), (0, .ref (S.heap.size + 68)), (1, .int p1)]) X dX11_lowest_1 (by decide) rfl ?_
  refine zr_sub [1, 2, 0] rfl ?_
  refine zl_w1 (fun a2 => zv_V S D cA p l e (zv_rm d 0 0) s mi args below meth c 3 (MQ below (zv_Q S D cA (zq_i SH0 (fun v m' => m = m' ∧ P v))) args s 0 0 (zv_fr S)) 0 0 2 [(0, .ref (S.heap.size + 68)), (1, .int p1), (2, .int a2)] [] SH0 m) (fM_lowest_l2 p1) _ (fun P1 hl1 hr1 a2 h => ?_) zFU 0 (zw_b1 h)
  rw [fM_lowest_l2] at h
  refine zr_aload_n X dX11_lowest_2 0 rfl ?_
  refine zr_iload_n X dX11_lowest_3 1 rfl ?_
  refine zr_iload_n X dX11_lowest_4 2 rfl ?_
  refine zr_callV_i (As := [.int p1, .int a2]) (st := []) (d := d - 1) X dX11_lowest_5 wm_X11_323 my_X11_has mv_X11_has zo_68 rfl (Nat.le_of_ble_eq_true rfl) (zRm (by omega)) ⟨Nat.le_refl _, Nat.le_refl _⟩ (x_fM_has hG (d - 1) (by omega) p1 a2 m _ (zw_b1 h)) (fun r3 m4 q => ?_)
  obtain ⟨rfl, h⟩ := q
  refine zr_if_ne (tgt := 17) X dX11_lowest_8 (by decide) (fun q => ?_) (fun q => ?_)
  · rw [if_neg q] at h
    refine zr_iload_n X dX11_lowest_17 2 rfl ?_
    have h := hr1 _ h
    exact zr_iret X dX11_lowest_18 rfl ⟨Nat.le_refl _, Nat.le_refl _⟩ ⟨rfl, _, rfl, rfl, h⟩
  · rw [if_pos q] at h
    refine zr_iinc (v := a2 + 1) (lo' := [(2, .int (a2 + 1)), (0, .ref (S.heap.size + 68)), (1, .int p1)]) X dX11_lowest_11 2 rfl rfl (by decide) rfl ?_
    refine zr_goto (tgt := 2) X dX11_lowest_14 (by decide) ?_
    have h := hl1 _ h
    exact zr_sub [1, 2, 0] rfl h

set_option maxRecDepth 100000 in
set_option maxHeartbeats 4000000 in
theorem x_fM_most {l : Launch} {S : State} {D : va_G} {cA : Nat → ClassId} {tb sx : Nat → Nat} (hG : zv_G S D cA tb sx) (d : Nat) (hd : 7 ≤ d) (p1 : Int32) (m : zv_M) (P : Int32 → zv_M → Prop) (h : zw2 (fM_most p1 m) P) : zv_Met l S D cA d 0 0 yX11_most cX11_most 8 (some .int) [.ref (S.heap.size + 68), .int p1] SH0 m (zq_i SH0 P) := by
  refine zv_met false hG pf_X11_most (fun z => by cases z) (Nat.le_of_ble_eq_true rfl) [(0, .ref (S.heap.size + 68)), (1, .int p1)] rfl (fun p e s mi args below meth c X => ?_)
  rw [fM_most] at h
  refine zr_aload_n X dX11_most_0 0 rfl ?_
  refine zr_iload_n X dX11_most_1 1 rfl ?_
  refine zr_callV_i (As := [.int p1]) (st := []) (d := d - 1) X dX11_most_2 wm_X11_234 my_X11_isPlan mv_X11_isPlan zo_68 rfl (Nat.le_of_ble_eq_true rfl) (zRm (by omega)) ⟨Nat.le_refl _, Nat.le_refl _⟩ (x_fM_isPlan hG (d - 1) (by omega) p1 m _ (zw_b12 h)) (fun r1 m2 q => ?_)
  obtain ⟨rfl, h⟩ := q
  refine zr_if_ne (tgt := 10) X dX11_most_5 (by decide) (fun q => ?_) (fun q => ?_)
  · rw [if_neg q] at h
    refine zr_aload_n X dX11_most_10 0 rfl ?_
    refine zr_iload_n X dX11_most_11 1 rfl ?_
    refine zr_callV_v (As := [.int p1]) (st := []) (d := d - 1) X dX11_most_12 wm_X11_362 my_X11_layBad mv_X11_layBad zo_68 rfl (Nat.le_of_ble_eq_true rfl) (zRm (by omega)) ⟨Nat.le_refl _, Nat.le_refl _⟩ (x_fM_layBad hG (d - 1) (by omega) p1 m _ (zw_b12 h)) (fun m3 q => ?_)
    replace h := q
    refine zr_iconst (v := 0) X dX11_most_15 (by decide) ?_
    refine zr_istore_n (lo' := [(2, .int 0), (0, .ref (S.heap.size + 68)), (1, .int p1)]) X dX11_most_16 (by decide) rfl ?_
    refine zr_iconst (v := 1) X dX11_most_17 (by decide) ?_
    refine zr_istore_n (lo' := [(3, .int 1), (2, .int 0), (0, .ref (S.heap.size + 68)), (1, .int p1)]) X dX11_most_18 (by decide) rfl ?_
    refine zr_aload_n X dX11_most_19 2 rfl ?_
    refine zr_getR X dX11_most_20 zd_X11_109 rfl zo_68 zl_68_32 ?_
    refine zr_iconst (v := 0) X dX11_most_23 (by decide) ?_
    refine zr_iconst (v := 1) X dX11_most_24 (by decide) ?_
    refine zr_aload_n X dX11_most_25 2 rfl ?_
    refine zr_getI X dX11_most_26 zd_X11_13 rfl zo_68 (by rw [zk_11 zo_68]; decide) ?_
    refine zr_aload_n X dX11_most_29 2 rfl ?_
    refine zr_getI X dX11_most_30 zd_X11_13 rfl zo_68 (by rw [zk_11 zo_68]; decide) ?_
    refine zr_imul X dX11_most_33 ?_
    refine zr_ishl X dX11_most_34 ?_
    refine zr_iconst (v := 1) X dX11_most_35 (by decide) ?_
    refine zr_isub X dX11_most_36 ?_
    refine zr_aload_n X dX11_most_37 2 rfl ?_
    refine zr_getI X dX11_most_38 zd_X11_19 rfl zo_68 (by rw [zk_11 zo_68]; decide) ?_
    refine zr_iconst (v := (-1)) X dX11_most_41 (by decide) ?_
    refine zr_ixor X dX11_most_42 ?_
    refine zr_iand X dX11_most_43 ?_
    obtain ⟨g0, h⟩ := zg_e2 h
    refine zr_iast X dX11_most_44 za_88 (zI_in g0) ?_
    refine zr_aload_n X dX11_most_45 2 rfl ?_
    refine zr_getR X dX11_most_46 zd_X11_112 rfl zo_68 zl_68_33 ?_
    refine zr_iconst (v := 0) X dX11_most_49 (by decide) ?_
    refine zr_iconst (v := 0) X dX11_most_50 (by decide) ?_
    obtain ⟨g0, h⟩ := zg_e2 h
    refine zr_iast X dX11_most_51 za_89 (zI_in g0) ?_
    refine zr_sub [2, 1, 0] rfl ?_
    refine zl_w3 (fun a5 a6 m7 => zv_V S D cA p l e (zv_rm d 0 0) s mi args below meth c 8 (MQ below (zv_Q S D cA (zq_i SH0 P)) args s 0 0 (zv_fr S)) 0 0 52 [(0, .ref (S.heap.size + 68)), (2, .int a5), (3, .int a6)] [] SH0 m7) fM_most_l52 _ (fun P4 hl4 hr4 a5 a6 m7 h => ?_) zFU 0 1 (wI (wI m3 88 (0 : Int32).toNatClampNeg (((1 <<< (((m3.1 68 1) * (m3.1 68 1)) &&& 31)) - 1) &&& ((m3.1 68 3) ^^^ (-1)))) 89 (0 : Int32).toNatClampNeg 0) (zw_b12 h)
    rw [fM_most_l52] at h
    refine zr_iload_n X dX11_most_52 2 rfl ?_
    refine zr_if_le (tgt := 189) X dX11_most_53 (by decide) (fun q => ?_) (fun q => ?_)
    · rw [if_neg q] at h
      refine zr_iload_n X dX11_most_189 1 rfl ?_
      have h := hr4 _ h
      exact zr_iret X dX11_most_190 rfl ⟨Nat.le_refl _, Nat.le_refl _⟩ ⟨rfl, _, rfl, h⟩
    · rw [if_pos q] at h
      refine zr_iinc (v := a6 - 1) (lo' := [(3, .int (a6 - 1)), (0, .ref (S.heap.size + 68)), (2, .int a5)]) X dX11_most_56 2 rfl (by rw [Int32.sub_eq_add_neg]; rfl) (by decide) rfl ?_
      refine zr_aload_n X dX11_most_59 1 rfl ?_
      refine zr_getR X dX11_most_60 zd_X11_109 rfl zo_68 zl_68_32 ?_
      refine zr_iload_n X dX11_most_63 0 rfl ?_
      obtain ⟨g0, h⟩ := zg_e h
      refine zr_iald X dX11_most_64 za_88 (zI_in g0) ?_
      refine zr_istore (lo' := [(4, .int (m7.1 88 (a6 - 1).toNatClampNeg)), (3, .int (a6 - 1)), (0, .ref (S.heap.size + 68)), (2, .int a5)]) X dX11_most_65 (by decide) rfl ?_
      refine zr_aload_n X dX11_most_67 2 rfl ?_
      refine zr_getR X dX11_most_68 zd_X11_112 rfl zo_68 zl_68_33 ?_
      refine zr_iload_n X dX11_most_71 1 rfl ?_
      obtain ⟨g0, h⟩ := zg_e h
      refine zr_iald X dX11_most_72 za_89 (zI_in g0) ?_
      refine zr_istore (lo' := [(5, .int (m7.1 89 (a6 - 1).toNatClampNeg)), (4, .int (m7.1 88 (a6 - 1).toNatClampNeg)), (3, .int (a6 - 1)), (0, .ref (S.heap.size + 68)), (2, .int a5)]) X dX11_most_73 (by decide) rfl ?_
      refine zr_iload X dX11_most_75 0 rfl ?_
      refine zr_iload_n X dX11_most_77 4 rfl ?_
      have hJ87 : ∀ (v8 : Int32), zw (fM_most_j87 a6 m7 v8) P4 → zv_V S D cA p l e (zv_rm d 0 0) s mi args below meth c 8 (MQ below (zv_Q S D cA (zq_i SH0 P)) args s 0 0 (zv_fr S)) 0 0 87 [(0, .ref (S.heap.size + 68)), (3, .int (a6 - 1)), (4, .int (m7.1 88 (a6 - 1).toNatClampNeg)), (5, .int (m7.1 89 (a6 - 1).toNatClampNeg))] [.int v8] SH0 m7 := by
        intro v8 h
        rw [fM_most_j87] at h
        refine zr_istore_n (lo' := [(2, .int v8), (0, .ref (S.heap.size + 68)), (3, .int (a6 - 1)), (4, .int (m7.1 88 (a6 - 1).toNatClampNeg)), (5, .int (m7.1 89 (a6 - 1).toNatClampNeg))]) X dX11_most_87 (by decide) rfl ?_
        refine zr_iload X dX11_most_88 4 rfl ?_
        refine zr_aload_n X dX11_most_90 1 rfl ?_
        refine zr_iload X dX11_most_91 3 rfl ?_
        refine zr_callV_i (As := [.int (m7.1 88 (a6 - 1).toNatClampNeg)]) (st := [.int (m7.1 89 (a6 - 1).toNatClampNeg)]) (d := d - 1) X dX11_most_93 wm_X11_242 my_X11_ones mv_X11_ones zo_68 rfl (Nat.le_of_ble_eq_true rfl) (zRm (by omega)) ⟨Nat.le_refl _, Nat.le_refl _⟩ (x_fM_ones hG (d - 1) (by omega) (m7.1 88 (a6 - 1).toNatClampNeg) m7 _ (zw_b1 h)) (fun r9 m10 q => ?_)
        obtain ⟨rfl, h⟩ := q
        refine zr_iadd X dX11_most_96 ?_
        refine zr_iload_n X dX11_most_97 0 rfl ?_
        refine zr_icmp_gt (tgt := 104) X dX11_most_98 (by decide) (fun q => ?_) (fun q => ?_)
        · rw [if_pos q] at h
          refine zr_aload_n X dX11_most_104 1 rfl ?_
          refine zr_iload X dX11_most_105 3 rfl ?_
          refine zr_callV_i (As := [.int (m7.1 88 (a6 - 1).toNatClampNeg)]) (st := []) (d := d - 1) X dX11_most_107 wm_X11_374 my_X11_lowest mv_X11_lowest zo_68 rfl (Nat.le_of_ble_eq_true rfl) (zRm (by omega)) ⟨Nat.le_refl _, Nat.le_refl _⟩ (x_fM_lowest hG (d - 1) (by omega) (m7.1 88 (a6 - 1).toNatClampNeg) m7 _ (zw_b1 h)) (fun r11 m12 q => ?_)
          obtain ⟨rfl, h⟩ := q
          refine zr_istore (lo' := [(6, .int r11), (2, .int v8), (0, .ref (S.heap.size + 68)), (3, .int (a6 - 1)), (4, .int (m7.1 88 (a6 - 1).toNatClampNeg)), (5, .int (m7.1 89 (a6 - 1).toNatClampNeg))]) X dX11_most_110 (by decide) rfl ?_
          refine zr_iload X dX11_most_112 4 rfl ?_
          refine zr_iconst (v := 1) X dX11_most_114 (by decide) ?_
          refine zr_iload X dX11_most_115 0 rfl ?_
          refine zr_ishl X dX11_most_117 ?_
          refine zr_iconst (v := (-1)) X dX11_most_118 (by decide) ?_
          refine zr_ixor X dX11_most_119 ?_
          refine zr_iand X dX11_most_120 ?_
          refine zr_istore (lo' := [(7, .int ((m7.1 88 (a6 - 1).toNatClampNeg) &&& ((1 <<< (r11 &&& 31)) ^^^ (-1)))), (6, .int r11), (2, .int v8), (0, .ref (S.heap.size + 68)), (3, .int (a6 - 1)), (4, .int (m7.1 88 (a6 - 1).toNatClampNeg)), (5, .int (m7.1 89 (a6 - 1).toNatClampNeg))]) X dX11_most_121 (by decide) rfl ?_
          refine zr_aload_n X dX11_most_123 3 rfl ?_
          refine zr_getR X dX11_most_124 zd_X11_100 rfl zo_68 zl_68_29 ?_
          refine zr_iload X dX11_most_127 1 rfl ?_
          obtain ⟨g0, h⟩ := zg_e h
          refine zr_iald X dX11_most_129 za_85 (zI_in g0) ?_
          refine zr_iload X dX11_most_130 0 rfl ?_
          refine zr_iand X dX11_most_132 ?_
          have hJ155 : ∀ (a13 : Int32) (m14 : zv_M), zw (fM_most_j155 a6 m7 v8 r11 a13 m14) P4 → zv_V S D cA p l e (zv_rm d 0 0) s mi args below meth c 8 (MQ below (zv_Q S D cA (zq_i SH0 P)) args s 0 0 (zv_fr S)) 0 0 155 [(0, .ref (S.heap.size + 68)), (2, .int v8), (3, .int a13), (5, .int (m7.1 89 (a6 - 1).toNatClampNeg)), (6, .int r11), (7, .int ((m7.1 88 (a6 - 1).toNatClampNeg) &&& ((1 <<< (r11 &&& 31)) ^^^ (-1))))] [] SH0 m14 := by
            intro a13 m14 h
            rw [fM_most_j155] at h
            refine zr_aload_n X dX11_most_155 0 rfl ?_
            refine zr_getR X dX11_most_156 zd_X11_109 rfl zo_68 zl_68_32 ?_
            refine zr_iload_n X dX11_most_159 2 rfl ?_
            refine zr_iload X dX11_most_160 5 rfl ?_
            refine zr_aload_n X dX11_most_162 0 rfl ?_
            refine zr_getR X dX11_most_163 zd_X11_100 rfl zo_68 zl_68_29 ?_
            refine zr_iload X dX11_most_166 4 rfl ?_
            obtain ⟨g0, h⟩ := zg_e h
            refine zr_iald X dX11_most_168 za_85 (zI_in g0) ?_
            refine zr_iconst (v := (-1)) X dX11_most_169 (by decide) ?_
            refine zr_ixor X dX11_most_170 ?_
            refine zr_iand X dX11_most_171 ?_
            obtain ⟨g0, h⟩ := zg_e h
            refine zr_iast X dX11_most_172 za_88 (zI_in g0) ?_
            refine zr_aload_n X dX11_most_173 0 rfl ?_
            refine zr_getR X dX11_most_174 zd_X11_112 rfl zo_68 zl_68_33 ?_
            refine zr_iload_n X dX11_most_177 2 rfl ?_
            refine zr_iload X dX11_most_178 3 rfl ?_
            refine zr_iconst (v := 1) X dX11_most_180 (by decide) ?_
            refine zr_iadd X dX11_most_181 ?_
            obtain ⟨g0, h⟩ := zg_e h
            refine zr_iast X dX11_most_182 za_89 (zI_in g0) ?_
            refine zr_iinc (v := a13 + 1) (lo' := [(3, .int (a13 + 1)), (0, .ref (S.heap.size + 68)), (2, .int v8), (5, .int (m7.1 89 (a6 - 1).toNatClampNeg)), (6, .int r11), (7, .int ((m7.1 88 (a6 - 1).toNatClampNeg) &&& ((1 <<< (r11 &&& 31)) ^^^ (-1))))]) X dX11_most_183 2 rfl rfl (by decide) rfl ?_
            refine zr_goto (tgt := 52) X dX11_most_186 (by decide) ?_
            have h := hl4 _ h
            exact zr_sub [1, 2, 0] rfl h
          refine zr_if_eq (tgt := 155) X dX11_most_133 (by decide) (fun q => ?_) (fun q => ?_)
          · rw [if_pos q] at h
            exact zr_sub [3, 2, 4, 6, 1, 0] rfl (hJ155 (a6 - 1) m7 h)
          · rw [if_neg q] at h
            refine zr_aload_n X dX11_most_136 3 rfl ?_
            refine zr_getR X dX11_most_137 zd_X11_109 rfl zo_68 zl_68_32 ?_
            refine zr_iload_n X dX11_most_140 4 rfl ?_
            refine zr_iload X dX11_most_141 0 rfl ?_
            obtain ⟨g0, h⟩ := zg_e h
            refine zr_iast X dX11_most_143 za_88 (zI_in g0) ?_
            refine zr_aload_n X dX11_most_144 3 rfl ?_
            refine zr_getR X dX11_most_145 zd_X11_112 rfl zo_68 zl_68_33 ?_
            refine zr_iload_n X dX11_most_148 4 rfl ?_
            refine zr_iload X dX11_most_149 6 rfl ?_
            obtain ⟨g0, h⟩ := zg_e h
            refine zr_iast X dX11_most_151 za_89 (zI_in g0) ?_
            refine zr_iinc (v := (a6 - 1) + 1) (lo' := [(3, .int ((a6 - 1) + 1)), (7, .int ((m7.1 88 (a6 - 1).toNatClampNeg) &&& ((1 <<< (r11 &&& 31)) ^^^ (-1)))), (6, .int r11), (2, .int v8), (0, .ref (S.heap.size + 68)), (4, .int (m7.1 88 (a6 - 1).toNatClampNeg)), (5, .int (m7.1 89 (a6 - 1).toNatClampNeg))]) X dX11_most_152 4 rfl rfl (by decide) rfl ?_
            exact zr_sub [4, 3, 0, 6, 2, 1] rfl (hJ155 ((a6 - 1) + 1) (wI (wI m7 88 (a6 - 1).toNatClampNeg ((m7.1 88 (a6 - 1).toNatClampNeg) &&& ((1 <<< (r11 &&& 31)) ^^^ (-1)))) 89 (a6 - 1).toNatClampNeg (m7.1 89 (a6 - 1).toNatClampNeg)) h)
        · rw [if_neg q] at h
          refine zr_goto (tgt := 52) X dX11_most_101 (by decide) ?_
          have h := hl4 _ h
          exact zr_sub [1, 0, 2] rfl h
      refine zr_icmp_le (tgt := 86) X dX11_most_78 (by decide) (fun q => ?_) (fun q => ?_)
      · rw [if_neg q] at h
        refine zr_iload_n X dX11_most_86 4 rfl ?_
        exact zr_sub [3, 2, 1, 0] rfl (hJ87 a5 h)
      · rw [if_pos q] at h
        refine zr_iload X dX11_most_81 0 rfl ?_
        refine zr_goto (tgt := 87) X dX11_most_83 (by decide) ?_
        exact zr_sub [3, 2, 1, 0] rfl (hJ87 (m7.1 89 (a6 - 1).toNatClampNeg) h)
  · rw [if_pos q] at h
    refine zr_iconst (v := (-1)) X dX11_most_8 (by decide) ?_
    exact zr_iret X dX11_most_9 rfl ⟨Nat.le_refl _, Nat.le_refl _⟩ ⟨rfl, _, rfl, h⟩

set_option maxRecDepth 100000 in
set_option maxHeartbeats 4000000 in
theorem x_fM_tries {l : Launch} {S : State} {D : va_G} {cA : Nat → ClassId} {tb sx : Nat → Nat} (hG : zv_G S D cA tb sx) (d : Nat) (hd : 1 ≤ d) (p1 : Int32) (p2 : Int32) (p3 : Int32) (p4 : Int32) (m : zv_M) (P : zv_M → Prop) (h : zw (fM_tries p1 p2 p3 p4 m) P) : zv_Met l S D cA d 0 0 yX11_tries cX11_tries 5 none [.ref (S.heap.size + 68), .int p1, .int p2, .int p3, .int p4] SH0 m (zq_v SH0 P) := by
  refine zv_met false hG pf_X11_tries (fun z => by cases z) (Nat.le_of_ble_eq_true rfl) [(0, .ref (S.heap.size + 68)), (1, .int p1), (2, .int p2), (3, .int p3), (4, .int p4)] rfl (fun p e s mi args below meth c X => ?_)
  rw [fM_tries] at h
  refine zr_iload_n X dX11_tries_0 2 rfl ?_
  refine zr_iload X dX11_tries_1 4 rfl ?_
  refine zr_icmp_ne (tgt := 39) X dX11_tries_3 (by decide) (fun q => ?_) (fun q => ?_)
  · rw [if_neg q] at h
    exact zr_vret X dX11_tries_39 ⟨Nat.le_refl _, Nat.le_refl _⟩ ⟨rfl, rfl, h⟩
  · rw [if_pos q] at h
    refine zr_aload_n X dX11_tries_6 0 rfl ?_
    refine zr_getI X dX11_tries_7 zd_X11_118 rfl zo_68 (by rw [zk_11 zo_68]; decide) ?_
    refine zr_bipush (v := (-5)) X dX11_tries_10 (by decide) ?_
    refine zr_icmp_eq (tgt := 40) X dX11_tries_12 (by decide) (fun q => ?_) (fun q => ?_)
    · rw [if_pos q] at h
      refine zr_aload_n X dX11_tries_40 0 rfl ?_
      refine zr_iload_n X dX11_tries_41 3 rfl ?_
      refine zr_put X dX11_tries_42 zd_X11_118 rfl rfl rfl zo_68 (by rw [zk_11 zo_68]; decide) ?_
      refine zr_aload_n X dX11_tries_45 0 rfl ?_
      refine zr_iload_n X dX11_tries_46 1 rfl ?_
      refine zr_put X dX11_tries_47 zd_X11_121 rfl rfl rfl zo_68 (by rw [zk_11 zo_68]; decide) ?_
      exact zr_vret X dX11_tries_50 ⟨Nat.le_refl _, Nat.le_refl _⟩ ⟨rfl, rfl, h⟩
    · rw [if_neg q] at h
      refine zr_iload_n X dX11_tries_15 3 rfl ?_
      refine zr_aload_n X dX11_tries_16 0 rfl ?_
      refine zr_getI X dX11_tries_17 zd_X11_118 rfl zo_68 (by rw [zk_11 zo_68]; decide) ?_
      refine zr_icmp_gt (tgt := 39) X dX11_tries_20 (by decide) (fun q => ?_) (fun q => ?_)
      · rw [if_pos q] at h
        exact zr_vret X dX11_tries_39 ⟨Nat.le_refl _, Nat.le_refl _⟩ ⟨rfl, rfl, h⟩
      · rw [if_neg q] at h
        refine zr_iload_n X dX11_tries_23 3 rfl ?_
        refine zr_aload_n X dX11_tries_24 0 rfl ?_
        refine zr_getI X dX11_tries_25 zd_X11_118 rfl zo_68 (by rw [zk_11 zo_68]; decide) ?_
        refine zr_icmp_ne (tgt := 40) X dX11_tries_28 (by decide) (fun q => ?_) (fun q => ?_)
        · rw [if_neg q] at h
          refine zr_aload_n X dX11_tries_40 0 rfl ?_
          refine zr_iload_n X dX11_tries_41 3 rfl ?_
          refine zr_put X dX11_tries_42 zd_X11_118 rfl rfl rfl zo_68 (by rw [zk_11 zo_68]; decide) ?_
          refine zr_aload_n X dX11_tries_45 0 rfl ?_
          refine zr_iload_n X dX11_tries_46 1 rfl ?_
          refine zr_put X dX11_tries_47 zd_X11_121 rfl rfl rfl zo_68 (by rw [zk_11 zo_68]; decide) ?_
          exact zr_vret X dX11_tries_50 ⟨Nat.le_refl _, Nat.le_refl _⟩ ⟨rfl, rfl, h⟩
        · rw [if_pos q] at h
          refine zr_iload_n X dX11_tries_31 1 rfl ?_
          refine zr_aload_n X dX11_tries_32 0 rfl ?_
          refine zr_getI X dX11_tries_33 zd_X11_121 rfl zo_68 (by rw [zk_11 zo_68]; decide) ?_
          refine zr_icmp_lt (tgt := 40) X dX11_tries_36 (by decide) (fun q => ?_) (fun q => ?_)
          · rw [if_pos q] at h
            refine zr_aload_n X dX11_tries_40 0 rfl ?_
            refine zr_iload_n X dX11_tries_41 3 rfl ?_
            refine zr_put X dX11_tries_42 zd_X11_118 rfl rfl rfl zo_68 (by rw [zk_11 zo_68]; decide) ?_
            refine zr_aload_n X dX11_tries_45 0 rfl ?_
            refine zr_iload_n X dX11_tries_46 1 rfl ?_
            refine zr_put X dX11_tries_47 zd_X11_121 rfl rfl rfl zo_68 (by rw [zk_11 zo_68]; decide) ?_
            exact zr_vret X dX11_tries_50 ⟨Nat.le_refl _, Nat.le_refl _⟩ ⟨rfl, rfl, h⟩
          · rw [if_neg q] at h
            exact zr_vret X dX11_tries_39 ⟨Nat.le_refl _, Nat.le_refl _⟩ ⟨rfl, rfl, h⟩

set_option maxRecDepth 100000 in
set_option maxHeartbeats 4000000 in
theorem x_fM_mayHold {l : Launch} {S : State} {D : va_G} {cA : Nat → ClassId} {tb sx : Nat → Nat} (hG : zv_G S D cA tb sx) (d : Nat) (hd : 2 ≤ d) (p1 : Int32) (m : zv_M) (P : Int32 → Prop) (h : zw (fM_mayHold p1 m) P) : zv_Met l S D cA d 0 0 yX11_mayHold cX11_mayHold 2 (some .boolean) [.ref (S.heap.size + 68), .int p1] SH0 m (zq_i SH0 (fun v m' => m = m' ∧ P v)) := by
  refine zv_met false hG pf_X11_mayHold (fun z => by cases z) (Nat.le_of_ble_eq_true rfl) [(0, .ref (S.heap.size + 68)), (1, .int p1)] rfl (fun p e s mi args below meth c X => ?_)
  rw [fM_mayHold] at h
  refine zr_aload_n X dX11_mayHold_0 0 rfl ?_
  refine zr_aload_n X dX11_mayHold_1 0 rfl ?_
  refine zr_getI X dX11_mayHold_2 zd_X11_19 rfl zo_68 (by rw [zk_11 zo_68]; decide) ?_
  refine zr_iload_n X dX11_mayHold_5 1 rfl ?_
  refine zr_callV_i (As := [.int (m.1 68 3), .int p1]) (st := []) (d := d - 1) X dX11_mayHold_6 wm_X11_323 my_X11_has mv_X11_has zo_68 rfl (Nat.le_of_ble_eq_true rfl) (zRm (by omega)) ⟨Nat.le_refl _, Nat.le_refl _⟩ (x_fM_has hG (d - 1) (by omega) (m.1 68 3) p1 m _ (zw_b1 h)) (fun r1 m2 q => ?_)
  obtain ⟨rfl, h⟩ := q
  refine zr_if_ne (tgt := 16) X dX11_mayHold_9 (by decide) (fun q => ?_) (fun q => ?_)
  · rw [if_neg q] at h
    refine zr_iconst (v := 0) X dX11_mayHold_16 (by decide) ?_
    exact zr_iret X dX11_mayHold_17 rfl ⟨Nat.le_refl _, Nat.le_refl _⟩ ⟨rfl, _, rfl, rfl, h⟩
  · rw [if_pos q] at h
    refine zr_iconst (v := 1) X dX11_mayHold_12 (by decide) ?_
    refine zr_goto (tgt := 17) X dX11_mayHold_13 (by decide) ?_
    exact zr_iret X dX11_mayHold_17 rfl ⟨Nat.le_refl _, Nat.le_refl _⟩ ⟨rfl, _, rfl, rfl, h⟩

set_option maxRecDepth 100000 in
set_option maxHeartbeats 4000000 in
theorem x_fM_layHold {l : Launch} {S : State} {D : va_G} {cA : Nat → ClassId} {tb sx : Nat → Nat} (hG : zv_G S D cA tb sx) (d : Nat) (hd : 6 ≤ d) (p1 : Int32) (m : zv_M) (P : zv_M → Prop) (h : zw (fM_layHold p1 m) P) : zv_Met l S D cA d 0 0 yX11_layHold cX11_layHold 9 none [.ref (S.heap.size + 68), .int p1] SH0 m (zq_v SH0 P) := by
  refine zv_met false hG pf_X11_layHold (fun z => by cases z) (Nat.le_of_ble_eq_true rfl) [(0, .ref (S.heap.size + 68)), (1, .int p1)] rfl (fun p e s mi args below meth c X => ?_)
  rw [fM_layHold] at h
  refine zr_aload_n X dX11_layHold_0 0 rfl ?_
  refine zr_getI X dX11_layHold_1 zd_X11_13 rfl zo_68 (by rw [zk_11 zo_68]; decide) ?_
  refine zr_aload_n X dX11_layHold_4 0 rfl ?_
  refine zr_getI X dX11_layHold_5 zd_X11_13 rfl zo_68 (by rw [zk_11 zo_68]; decide) ?_
  refine zr_imul X dX11_layHold_8 ?_
  refine zr_istore_n (lo' := [(2, .int ((m.1 68 1) * (m.1 68 1))), (0, .ref (S.heap.size + 68)), (1, .int p1)]) X dX11_layHold_9 (by decide) rfl ?_
  refine zr_iconst (v := 1) X dX11_layHold_10 (by decide) ?_
  refine zr_iload_n X dX11_layHold_11 0 rfl ?_
  refine zr_ishl X dX11_layHold_12 ?_
  refine zr_iconst (v := 1) X dX11_layHold_13 (by decide) ?_
  refine zr_isub X dX11_layHold_14 ?_
  refine zr_aload_n X dX11_layHold_15 1 rfl ?_
  refine zr_getI X dX11_layHold_16 zd_X11_16 rfl zo_68 (by rw [zk_11 zo_68]; decide) ?_
  refine zr_iconst (v := (-1)) X dX11_layHold_19 (by decide) ?_
  refine zr_ixor X dX11_layHold_20 ?_
  refine zr_iand X dX11_layHold_21 ?_
  refine zr_topi (fun a1 ea1 => ?_)
  rw [zlet, ← ea1] at h
  refine zr_istore_n (lo' := [(3, .int a1), (2, .int ((m.1 68 1) * (m.1 68 1))), (0, .ref (S.heap.size + 68)), (1, .int p1)]) X dX11_layHold_22 (by decide) rfl ?_
  refine zr_iconst (v := 0) X dX11_layHold_23 (by decide) ?_
  refine zr_istore (lo' := [(4, .int 0), (3, .int a1), (2, .int ((m.1 68 1) * (m.1 68 1))), (0, .ref (S.heap.size + 68)), (1, .int p1)]) X dX11_layHold_24 (by decide) rfl ?_
  refine zr_sub [3, 4, 2, 1, 0] rfl ?_
  have hR2 : ∀ (m5 : zv_M), zw (zb1 (whileN zFU (fM_layHold_l74 m a1) (0, wI (wI m5 68 35 (-5)) 68 36 (-5))) (fun m9 => zb1 (whileN zFU (fM_layHold_l115 m a1) (0, m9)) (fun m13 => if m13.1 68 35 < 0 then fM_layHold_j210 m a1 m13 1 else fM_layHold_j210 m a1 m13 0)) : Option (zv_M)) P → zv_V S D cA p l e (zv_rm d 0 0) s mi args below meth c 9 (MQ below (zv_Q S D cA (zq_v SH0 P)) args s 0 0 (zv_fr S)) 0 0 59 [(0, .ref (S.heap.size + 68)), (2, .int ((m.1 68 1) * (m.1 68 1))), (3, .int a1)] [] SH0 m5 := by
    intro m5 h
    refine zr_aload_n X dX11_layHold_59 0 rfl ?_
    refine zr_bipush (v := (-5)) X dX11_layHold_60 (by decide) ?_
    refine zr_put X dX11_layHold_62 zd_X11_118 rfl rfl rfl zo_68 (by rw [zk_11 zo_68]; decide) ?_
    refine zr_aload_n X dX11_layHold_65 0 rfl ?_
    refine zr_bipush (v := (-5)) X dX11_layHold_66 (by decide) ?_
    refine zr_put X dX11_layHold_68 zd_X11_121 rfl rfl rfl zo_68 (by rw [zk_11 zo_68]; decide) ?_
    refine zr_iconst (v := 0) X dX11_layHold_71 (by decide) ?_
    refine zr_istore (lo' := [(4, .int 0), (0, .ref (S.heap.size + 68)), (2, .int ((m.1 68 1) * (m.1 68 1))), (3, .int a1)]) X dX11_layHold_72 (by decide) rfl ?_
    refine zr_sub [1, 2, 3, 0] rfl ?_
    have hR6 : ∀ (m9 : zv_M), zw (zb1 (whileN zFU (fM_layHold_l115 m a1) (0, m9)) (fun m13 => if m13.1 68 35 < 0 then fM_layHold_j210 m a1 m13 1 else fM_layHold_j210 m a1 m13 0) : Option (zv_M)) P → zv_V S D cA p l e (zv_rm d 0 0) s mi args below meth c 9 (MQ below (zv_Q S D cA (zq_v SH0 P)) args s 0 0 (zv_fr S)) 0 0 112 [(0, .ref (S.heap.size + 68)), (2, .int ((m.1 68 1) * (m.1 68 1))), (3, .int a1)] [] SH0 m9 := by
      intro m9 h
      refine zr_iconst (v := 0) X dX11_layHold_112 (by decide) ?_
      refine zr_istore (lo' := [(4, .int 0), (0, .ref (S.heap.size + 68)), (2, .int ((m.1 68 1) * (m.1 68 1))), (3, .int a1)]) X dX11_layHold_113 (by decide) rfl ?_
      refine zr_sub [1, 2, 3, 0] rfl ?_
      have hR10 : ∀ (m13 : zv_M), zw (if m13.1 68 35 < 0 then fM_layHold_j210 m a1 m13 1 else fM_layHold_j210 m a1 m13 0 : Option (zv_M)) P → zv_V S D cA p l e (zv_rm d 0 0) s mi args below meth c 9 (MQ below (zv_Q S D cA (zq_v SH0 P)) args s 0 0 (zv_fr S)) 0 0 198 [(0, .ref (S.heap.size + 68)), (2, .int ((m.1 68 1) * (m.1 68 1))), (3, .int a1)] [] SH0 m13 := by
        intro m13 h
        refine zr_aload_n X dX11_layHold_198 0 rfl ?_
        refine zr_getI X dX11_layHold_199 zd_X11_118 rfl zo_68 (by rw [zk_11 zo_68]; decide) ?_
        have hJ210 : ∀ (v14 : Int32), zw (fM_layHold_j210 m a1 m13 v14) P → zv_V S D cA p l e (zv_rm d 0 0) s mi args below meth c 9 (MQ below (zv_Q S D cA (zq_v SH0 P)) args s 0 0 (zv_fr S)) 0 0 210 [(0, .ref (S.heap.size + 68)), (2, .int ((m.1 68 1) * (m.1 68 1))), (3, .int a1)] [.int v14] SH0 m13 := by
          intro v14 h
          rw [fM_layHold_j210] at h
          refine zr_istore (lo' := [(4, .int v14), (0, .ref (S.heap.size + 68)), (2, .int ((m.1 68 1) * (m.1 68 1))), (3, .int a1)]) X dX11_layHold_210 (by decide) rfl ?_
          refine zr_iconst (v := 0) X dX11_layHold_212 (by decide) ?_
          refine zr_istore (lo' := [(5, .int 0), (4, .int v14), (0, .ref (S.heap.size + 68)), (2, .int ((m.1 68 1) * (m.1 68 1))), (3, .int a1)]) X dX11_layHold_213 (by decide) rfl ?_
          refine zr_sub [2, 3, 4, 1, 0] rfl ?_
          have hR15 : ∀ (m18 : zv_M), zw (if m18.1 68 35 < 0 then fM_layHold_j346 m a1 m18 1 else fM_layHold_j346 m a1 m18 0 : Option (zv_M)) P → zv_V S D cA p l e (zv_rm d 0 0) s mi args below meth c 9 (MQ below (zv_Q S D cA (zq_v SH0 P)) args s 0 0 (zv_fr S)) 0 0 334 [(0, .ref (S.heap.size + 68)), (2, .int ((m.1 68 1) * (m.1 68 1))), (3, .int a1)] [] SH0 m18 := by
            intro m18 h
            refine zr_aload_n X dX11_layHold_334 0 rfl ?_
            refine zr_getI X dX11_layHold_335 zd_X11_118 rfl zo_68 (by rw [zk_11 zo_68]; decide) ?_
            have hJ346 : ∀ (v19 : Int32), zw (fM_layHold_j346 m a1 m18 v19) P → zv_V S D cA p l e (zv_rm d 0 0) s mi args below meth c 9 (MQ below (zv_Q S D cA (zq_v SH0 P)) args s 0 0 (zv_fr S)) 0 0 346 [(0, .ref (S.heap.size + 68)), (2, .int ((m.1 68 1) * (m.1 68 1))), (3, .int a1)] [.int v19] SH0 m18 := by
              intro v19 h
              rw [fM_layHold_j346] at h
              refine zr_istore (lo' := [(4, .int v19), (0, .ref (S.heap.size + 68)), (2, .int ((m.1 68 1) * (m.1 68 1))), (3, .int a1)]) X dX11_layHold_346 (by decide) rfl ?_
              refine zr_iconst (v := 0) X dX11_layHold_348 (by decide) ?_
              refine zr_istore (lo' := [(5, .int 0), (4, .int v19), (0, .ref (S.heap.size + 68)), (2, .int ((m.1 68 1) * (m.1 68 1))), (3, .int a1)]) X dX11_layHold_349 (by decide) rfl ?_
              refine zr_sub [2, 3, 4, 1, 0] rfl ?_
              refine zl_w2 (fun a21 m22 => zv_V S D cA p l e (zv_rm d 0 0) s mi args below meth c 9 (MQ below (zv_Q S D cA (zq_v SH0 P)) args s 0 0 (zv_fr S)) 0 0 351 [(0, .ref (S.heap.size + 68)), (2, .int ((m.1 68 1) * (m.1 68 1))), (3, .int a1), (4, .int v19), (5, .int a21)] [] SH0 m22) (fM_layHold_l351 m a1 v19) _ (fun P20 hl20 hr20 a21 m22 h => ?_) zFU 0 m18 (zw_b1 h)
              rw [fM_layHold_l351] at h
              refine zr_iload X dX11_layHold_351 4 rfl ?_
              refine zr_iload_n X dX11_layHold_353 1 rfl ?_
              refine zr_icmp_ge (tgt := 508) X dX11_layHold_354 (by decide) (fun q => ?_) (fun q => ?_)
              · rw [if_neg q] at h
                have h := hr20 _ h
                exact zr_vret X dX11_layHold_508 ⟨Nat.le_refl _, Nat.le_refl _⟩ ⟨rfl, rfl, h⟩
              · rw [if_pos q] at h
                refine zr_iload X dX11_layHold_357 3 rfl ?_
                refine zr_if_eq (tgt := 508) X dX11_layHold_359 (by decide) (fun q => ?_) (fun q => ?_)
                · rw [if_pos q] at h
                  have h := hr20 _ h
                  exact zr_vret X dX11_layHold_508 ⟨Nat.le_refl _, Nat.le_refl _⟩ ⟨rfl, rfl, h⟩
                · rw [if_neg q] at h
                  refine zr_iconst (v := 0) X dX11_layHold_362 (by decide) ?_
                  refine zr_istore (lo' := [(6, .int 0), (0, .ref (S.heap.size + 68)), (2, .int ((m.1 68 1) * (m.1 68 1))), (3, .int a1), (4, .int v19), (5, .int a21)]) X dX11_layHold_363 (by decide) rfl ?_
                  refine zr_sub [1, 2, 3, 4, 5, 0] rfl ?_
                  have hR23 : ∀ (m26 : zv_M), zw (some (.inl (a21 + 1, m26)) : Option ((Int32 × zv_M) ⊕ (zv_M))) P20 → zv_V S D cA p l e (zv_rm d 0 0) s mi args below meth c 9 (MQ below (zv_Q S D cA (zq_v SH0 P)) args s 0 0 (zv_fr S)) 0 0 502 [(0, .ref (S.heap.size + 68)), (2, .int ((m.1 68 1) * (m.1 68 1))), (3, .int a1), (4, .int v19), (5, .int a21)] [] SH0 m26 := by
                    intro m26 h
                    refine zr_iinc (v := a21 + 1) (lo' := [(5, .int (a21 + 1)), (0, .ref (S.heap.size + 68)), (2, .int ((m.1 68 1) * (m.1 68 1))), (3, .int a1), (4, .int v19)]) X dX11_layHold_502 4 rfl rfl (by decide) rfl ?_
                    refine zr_goto (tgt := 351) X dX11_layHold_505 (by decide) ?_
                    have h := hl20 _ h
                    exact zr_sub [1, 2, 3, 4, 0] rfl h
                  refine zl_w2 (fun a24 m25 => zv_V S D cA p l e (zv_rm d 0 0) s mi args below meth c 9 (MQ below (zv_Q S D cA (zq_v SH0 P)) args s 0 0 (zv_fr S)) 0 0 365 [(0, .ref (S.heap.size + 68)), (2, .int ((m.1 68 1) * (m.1 68 1))), (3, .int a1), (4, .int v19), (5, .int a21), (6, .int a24)] [] SH0 m25) (fM_layHold_l365 a1 a21) _ (fun P23 hl23 hr23 a24 m25 h => ?_) zFU 0 m22 (zw_b1 h)
                  rw [fM_layHold_l365] at h
                  refine zr_iload X dX11_layHold_365 5 rfl ?_
                  refine zr_iload X dX11_layHold_367 4 rfl ?_
                  refine zr_icmp_ge (tgt := 502) X dX11_layHold_369 (by decide) (fun q => ?_) (fun q => ?_)
                  · rw [if_neg q] at h
                    have h := hr23 _ h
                    exact zr_sub [0, 1, 2, 3, 4] rfl (hR23 m25 h)
                  · rw [if_pos q] at h
                    refine zr_aload_n X dX11_layHold_372 0 rfl ?_
                    refine zr_iload X dX11_layHold_373 4 rfl ?_
                    refine zr_callV_i (As := [.int a21]) (st := []) (d := d - 1) X dX11_layHold_375 wm_X11_377 my_X11_mayHold mv_X11_mayHold zo_68 rfl (Nat.le_of_ble_eq_true rfl) (zRm (by omega)) ⟨Nat.le_refl _, Nat.le_refl _⟩ (x_fM_mayHold hG (d - 1) (by omega) a21 m25 _ (zw_b1 h)) (fun r27 m28 q => ?_)
                    obtain ⟨rfl, h⟩ := q
                    refine zr_if_eq (tgt := 502) X dX11_layHold_378 (by decide) (fun q => ?_) (fun q => ?_)
                    · rw [if_pos q] at h
                      have h := hr23 _ h
                      exact zr_sub [0, 1, 2, 3, 4] rfl (hR23 m25 h)
                    · rw [if_neg q] at h
                      refine zr_iconst (v := 0) X dX11_layHold_381 (by decide) ?_
                      refine zr_istore (lo' := [(7, .int 0), (0, .ref (S.heap.size + 68)), (2, .int ((m.1 68 1) * (m.1 68 1))), (3, .int a1), (4, .int v19), (5, .int a21), (6, .int a24)]) X dX11_layHold_382 (by decide) rfl ?_
                      refine zr_sub [1, 2, 3, 4, 5, 6, 0] rfl ?_
                      have hR29 : ∀ (m32 : zv_M), zw (some (.inl (a24 + 1, m32)) : Option ((Int32 × zv_M) ⊕ (zv_M))) P23 → zv_V S D cA p l e (zv_rm d 0 0) s mi args below meth c 9 (MQ below (zv_Q S D cA (zq_v SH0 P)) args s 0 0 (zv_fr S)) 0 0 496 [(0, .ref (S.heap.size + 68)), (2, .int ((m.1 68 1) * (m.1 68 1))), (3, .int a1), (4, .int v19), (5, .int a21), (6, .int a24)] [] SH0 m32 := by
                        intro m32 h
                        refine zr_iinc (v := a24 + 1) (lo' := [(6, .int (a24 + 1)), (0, .ref (S.heap.size + 68)), (2, .int ((m.1 68 1) * (m.1 68 1))), (3, .int a1), (4, .int v19), (5, .int a21)]) X dX11_layHold_496 5 rfl rfl (by decide) rfl ?_
                        refine zr_goto (tgt := 365) X dX11_layHold_499 (by decide) ?_
                        have h := hl23 _ h
                        exact zr_sub [1, 2, 3, 4, 5, 0] rfl h
                      refine zl_w2 (fun a30 m31 => zv_V S D cA p l e (zv_rm d 0 0) s mi args below meth c 9 (MQ below (zv_Q S D cA (zq_v SH0 P)) args s 0 0 (zv_fr S)) 0 0 384 [(0, .ref (S.heap.size + 68)), (2, .int ((m.1 68 1) * (m.1 68 1))), (3, .int a1), (4, .int v19), (5, .int a21), (6, .int a24), (7, .int a30)] [] SH0 m31) (fM_layHold_l384 a1 a21 a24) _ (fun P29 hl29 hr29 a30 m31 h => ?_) zFU 0 m25 (zw_b1 h)
                      rw [fM_layHold_l384] at h
                      refine zr_iload X dX11_layHold_384 6 rfl ?_
                      refine zr_iload X dX11_layHold_386 5 rfl ?_
                      refine zr_icmp_ge (tgt := 496) X dX11_layHold_388 (by decide) (fun q => ?_) (fun q => ?_)
                      · rw [if_neg q] at h
                        have h := hr29 _ h
                        exact zr_sub [0, 1, 2, 3, 4, 5] rfl (hR29 m31 h)
                      · rw [if_pos q] at h
                        refine zr_aload_n X dX11_layHold_391 0 rfl ?_
                        refine zr_iload X dX11_layHold_392 5 rfl ?_
                        refine zr_callV_i (As := [.int a24]) (st := []) (d := d - 1) X dX11_layHold_394 wm_X11_377 my_X11_mayHold mv_X11_mayHold zo_68 rfl (Nat.le_of_ble_eq_true rfl) (zRm (by omega)) ⟨Nat.le_refl _, Nat.le_refl _⟩ (x_fM_mayHold hG (d - 1) (by omega) a24 m31 _ (zw_b1 h)) (fun r33 m34 q => ?_)
                        obtain ⟨rfl, h⟩ := q
                        refine zr_if_eq (tgt := 496) X dX11_layHold_397 (by decide) (fun q => ?_) (fun q => ?_)
                        · rw [if_pos q] at h
                          have h := hr29 _ h
                          exact zr_sub [0, 1, 2, 3, 4, 5] rfl (hR29 m31 h)
                        · rw [if_neg q] at h
                          refine zr_iconst (v := 0) X dX11_layHold_400 (by decide) ?_
                          refine zr_istore (lo' := [(8, .int 0), (0, .ref (S.heap.size + 68)), (2, .int ((m.1 68 1) * (m.1 68 1))), (3, .int a1), (4, .int v19), (5, .int a21), (6, .int a24), (7, .int a30)]) X dX11_layHold_401 (by decide) rfl ?_
                          refine zr_sub [1, 2, 3, 4, 5, 6, 7, 0] rfl ?_
                          have hR35 : ∀ (m38 : zv_M), zw (some (.inl (a30 + 1, m38)) : Option ((Int32 × zv_M) ⊕ (zv_M))) P29 → zv_V S D cA p l e (zv_rm d 0 0) s mi args below meth c 9 (MQ below (zv_Q S D cA (zq_v SH0 P)) args s 0 0 (zv_fr S)) 0 0 490 [(0, .ref (S.heap.size + 68)), (2, .int ((m.1 68 1) * (m.1 68 1))), (3, .int a1), (4, .int v19), (5, .int a21), (6, .int a24), (7, .int a30)] [] SH0 m38 := by
                            intro m38 h
                            refine zr_iinc (v := a30 + 1) (lo' := [(7, .int (a30 + 1)), (0, .ref (S.heap.size + 68)), (2, .int ((m.1 68 1) * (m.1 68 1))), (3, .int a1), (4, .int v19), (5, .int a21), (6, .int a24)]) X dX11_layHold_490 6 rfl rfl (by decide) rfl ?_
                            refine zr_goto (tgt := 384) X dX11_layHold_493 (by decide) ?_
                            have h := hl29 _ h
                            exact zr_sub [1, 2, 3, 4, 5, 6, 0] rfl h
                          refine zl_w2 (fun a36 m37 => zv_V S D cA p l e (zv_rm d 0 0) s mi args below meth c 9 (MQ below (zv_Q S D cA (zq_v SH0 P)) args s 0 0 (zv_fr S)) 0 0 403 [(0, .ref (S.heap.size + 68)), (2, .int ((m.1 68 1) * (m.1 68 1))), (3, .int a1), (4, .int v19), (5, .int a21), (6, .int a24), (7, .int a30), (8, .int a36)] [] SH0 m37) (fM_layHold_l403 a1 a21 a24 a30) _ (fun P35 hl35 hr35 a36 m37 h => ?_) zFU 0 m31 (zw_b1 h)
                          rw [fM_layHold_l403] at h
                          refine zr_iload X dX11_layHold_403 7 rfl ?_
                          refine zr_iload X dX11_layHold_405 6 rfl ?_
                          refine zr_icmp_ge (tgt := 490) X dX11_layHold_407 (by decide) (fun q => ?_) (fun q => ?_)
                          · rw [if_neg q] at h
                            have h := hr35 _ h
                            exact zr_sub [0, 1, 2, 3, 4, 5, 6] rfl (hR35 m37 h)
                          · rw [if_pos q] at h
                            refine zr_aload_n X dX11_layHold_410 0 rfl ?_
                            refine zr_iload X dX11_layHold_411 6 rfl ?_
                            refine zr_callV_i (As := [.int a30]) (st := []) (d := d - 1) X dX11_layHold_413 wm_X11_377 my_X11_mayHold mv_X11_mayHold zo_68 rfl (Nat.le_of_ble_eq_true rfl) (zRm (by omega)) ⟨Nat.le_refl _, Nat.le_refl _⟩ (x_fM_mayHold hG (d - 1) (by omega) a30 m37 _ (zw_b1 h)) (fun r39 m40 q => ?_)
                            obtain ⟨rfl, h⟩ := q
                            refine zr_if_eq (tgt := 490) X dX11_layHold_416 (by decide) (fun q => ?_) (fun q => ?_)
                            · rw [if_pos q] at h
                              have h := hr35 _ h
                              exact zr_sub [0, 1, 2, 3, 4, 5, 6] rfl (hR35 m37 h)
                            · rw [if_neg q] at h
                              refine zr_aload_n X dX11_layHold_419 0 rfl ?_
                              refine zr_iload X dX11_layHold_420 7 rfl ?_
                              refine zr_callV_i (As := [.int a36]) (st := []) (d := d - 1) X dX11_layHold_422 wm_X11_377 my_X11_mayHold mv_X11_mayHold zo_68 rfl (Nat.le_of_ble_eq_true rfl) (zRm (by omega)) ⟨Nat.le_refl _, Nat.le_refl _⟩ (x_fM_mayHold hG (d - 1) (by omega) a36 m37 _ (zw_b1 h)) (fun r41 m42 q => ?_)
                              obtain ⟨rfl, h⟩ := q
                              have hJ484 : ∀ (m43 : zv_M), zw (fM_layHold_j484 a36 m43) P35 → zv_V S D cA p l e (zv_rm d 0 0) s mi args below meth c 9 (MQ below (zv_Q S D cA (zq_v SH0 P)) args s 0 0 (zv_fr S)) 0 0 484 [(0, .ref (S.heap.size + 68)), (2, .int ((m.1 68 1) * (m.1 68 1))), (3, .int a1), (4, .int v19), (5, .int a21), (6, .int a24), (7, .int a30), (8, .int a36)] [] SH0 m43 := by
                                intro m43 h
                                rw [fM_layHold_j484] at h
                                refine zr_iinc (v := a36 + 1) (lo' := [(8, .int (a36 + 1)), (0, .ref (S.heap.size + 68)), (2, .int ((m.1 68 1) * (m.1 68 1))), (3, .int a1), (4, .int v19), (5, .int a21), (6, .int a24), (7, .int a30)]) X dX11_layHold_484 7 rfl rfl (by decide) rfl ?_
                                refine zr_goto (tgt := 403) X dX11_layHold_487 (by decide) ?_
                                have h := hl35 _ h
                                exact zr_sub [1, 2, 3, 4, 5, 6, 7, 0] rfl h
                              refine zr_if_eq (tgt := 484) X dX11_layHold_425 (by decide) (fun q => ?_) (fun q => ?_)
                              · rw [if_pos q] at h
                                exact zr_sub [0, 1, 2, 3, 4, 5, 6, 7] rfl (hJ484 m37 h)
                              · rw [if_neg q] at h
                                refine zr_aload_n X dX11_layHold_428 0 rfl ?_
                                refine zr_iconst (v := 1) X dX11_layHold_429 (by decide) ?_
                                refine zr_iload X dX11_layHold_430 4 rfl ?_
                                refine zr_ishl X dX11_layHold_432 ?_
                                refine zr_iconst (v := 1) X dX11_layHold_433 (by decide) ?_
                                refine zr_iload X dX11_layHold_434 5 rfl ?_
                                refine zr_ishl X dX11_layHold_436 ?_
                                refine zr_ior X dX11_layHold_437 ?_
                                refine zr_iconst (v := 1) X dX11_layHold_438 (by decide) ?_
                                refine zr_iload X dX11_layHold_439 6 rfl ?_
                                refine zr_ishl X dX11_layHold_441 ?_
                                refine zr_ior X dX11_layHold_442 ?_
                                refine zr_iconst (v := 1) X dX11_layHold_443 (by decide) ?_
                                refine zr_iload X dX11_layHold_444 7 rfl ?_
                                refine zr_ishl X dX11_layHold_446 ?_
                                refine zr_ior X dX11_layHold_447 ?_
                                refine zr_aload_n X dX11_layHold_448 0 rfl ?_
                                refine zr_getR X dX11_layHold_449 zd_X11_115 rfl zo_68 zl_68_34 ?_
                                refine zr_iload X dX11_layHold_452 4 rfl ?_
                                obtain ⟨g0, h⟩ := zg_e h
                                refine zr_iald X dX11_layHold_454 za_90 (zI_in g0) ?_
                                refine zr_aload_n X dX11_layHold_455 0 rfl ?_
                                refine zr_getR X dX11_layHold_456 zd_X11_115 rfl zo_68 zl_68_34 ?_
                                refine zr_iload X dX11_layHold_459 5 rfl ?_
                                obtain ⟨g0, h⟩ := zg_e h
                                refine zr_iald X dX11_layHold_461 za_90 (zI_in g0) ?_
                                refine zr_ior X dX11_layHold_462 ?_
                                refine zr_aload_n X dX11_layHold_463 0 rfl ?_
                                refine zr_getR X dX11_layHold_464 zd_X11_115 rfl zo_68 zl_68_34 ?_
                                refine zr_iload X dX11_layHold_467 6 rfl ?_
                                obtain ⟨g0, h⟩ := zg_e h
                                refine zr_iald X dX11_layHold_469 za_90 (zI_in g0) ?_
                                refine zr_ior X dX11_layHold_470 ?_
                                refine zr_aload_n X dX11_layHold_471 0 rfl ?_
                                refine zr_getR X dX11_layHold_472 zd_X11_115 rfl zo_68 zl_68_34 ?_
                                refine zr_iload X dX11_layHold_475 7 rfl ?_
                                obtain ⟨g0, h⟩ := zg_e h
                                refine zr_iald X dX11_layHold_477 za_90 (zI_in g0) ?_
                                refine zr_ior X dX11_layHold_478 ?_
                                refine zr_iconst (v := 4) X dX11_layHold_479 (by decide) ?_
                                refine zr_iload_n X dX11_layHold_480 2 rfl ?_
                                refine zr_callV_v (As := [.int ((((1 <<< (a21 &&& 31)) ||| (1 <<< (a24 &&& 31))) ||| (1 <<< (a30 &&& 31))) ||| (1 <<< (a36 &&& 31))), .int ((((m37.1 90 a21.toNatClampNeg) ||| (m37.1 90 a24.toNatClampNeg)) ||| (m37.1 90 a30.toNatClampNeg)) ||| (m37.1 90 a36.toNatClampNeg)), .int 4, .int a1]) (st := []) (d := d - 1) X dX11_layHold_481 wm_X11_380 my_X11_tries mv_X11_tries zo_68 rfl (Nat.le_of_ble_eq_true rfl) (zRm (by omega)) ⟨Nat.le_refl _, Nat.le_refl _⟩ (x_fM_tries hG (d - 1) (by omega) ((((1 <<< (a21 &&& 31)) ||| (1 <<< (a24 &&& 31))) ||| (1 <<< (a30 &&& 31))) ||| (1 <<< (a36 &&& 31))) ((((m37.1 90 a21.toNatClampNeg) ||| (m37.1 90 a24.toNatClampNeg)) ||| (m37.1 90 a30.toNatClampNeg)) ||| (m37.1 90 a36.toNatClampNeg)) 4 a1 m37 _ (zw_b1 h)) (fun m44 q => ?_)
                                replace h := q
                                exact zr_sub [0, 1, 2, 3, 4, 5, 6, 7] rfl (hJ484 m44 h)
            refine zr_if_ge (tgt := 345) X dX11_layHold_338 (by decide) (fun q => ?_) (fun q => ?_)
            · rw [if_neg q] at h
              refine zr_iconst (v := 0) X dX11_layHold_345 (by decide) ?_
              exact zr_sub [0, 1, 2] rfl (hJ346 0 h)
            · rw [if_pos q] at h
              refine zr_iconst (v := 1) X dX11_layHold_341 (by decide) ?_
              refine zr_goto (tgt := 346) X dX11_layHold_342 (by decide) ?_
              exact zr_sub [0, 1, 2] rfl (hJ346 1 h)
          refine zl_w2 (fun a16 m17 => zv_V S D cA p l e (zv_rm d 0 0) s mi args below meth c 9 (MQ below (zv_Q S D cA (zq_v SH0 P)) args s 0 0 (zv_fr S)) 0 0 215 [(0, .ref (S.heap.size + 68)), (2, .int ((m.1 68 1) * (m.1 68 1))), (3, .int a1), (4, .int v14), (5, .int a16)] [] SH0 m17) (fM_layHold_l215 m a1 v14) _ (fun P15 hl15 hr15 a16 m17 h => ?_) zFU 0 m13 (zw_b1 h)
          rw [fM_layHold_l215] at h
          refine zr_iload X dX11_layHold_215 4 rfl ?_
          refine zr_iload_n X dX11_layHold_217 1 rfl ?_
          refine zr_icmp_ge (tgt := 334) X dX11_layHold_218 (by decide) (fun q => ?_) (fun q => ?_)
          · rw [if_neg q] at h
            have h := hr15 _ h
            exact zr_sub [0, 1, 2] rfl (hR15 m17 h)
          · rw [if_pos q] at h
            refine zr_iload X dX11_layHold_221 3 rfl ?_
            refine zr_if_eq (tgt := 334) X dX11_layHold_223 (by decide) (fun q => ?_) (fun q => ?_)
            · rw [if_pos q] at h
              have h := hr15 _ h
              exact zr_sub [0, 1, 2] rfl (hR15 m17 h)
            · rw [if_neg q] at h
              refine zr_iconst (v := 0) X dX11_layHold_226 (by decide) ?_
              refine zr_istore (lo' := [(6, .int 0), (0, .ref (S.heap.size + 68)), (2, .int ((m.1 68 1) * (m.1 68 1))), (3, .int a1), (4, .int v14), (5, .int a16)]) X dX11_layHold_227 (by decide) rfl ?_
              refine zr_sub [1, 2, 3, 4, 5, 0] rfl ?_
              have hR45 : ∀ (m48 : zv_M), zw (some (.inl (a16 + 1, m48)) : Option ((Int32 × zv_M) ⊕ (zv_M))) P15 → zv_V S D cA p l e (zv_rm d 0 0) s mi args below meth c 9 (MQ below (zv_Q S D cA (zq_v SH0 P)) args s 0 0 (zv_fr S)) 0 0 328 [(0, .ref (S.heap.size + 68)), (2, .int ((m.1 68 1) * (m.1 68 1))), (3, .int a1), (4, .int v14), (5, .int a16)] [] SH0 m48 := by
                intro m48 h
                refine zr_iinc (v := a16 + 1) (lo' := [(5, .int (a16 + 1)), (0, .ref (S.heap.size + 68)), (2, .int ((m.1 68 1) * (m.1 68 1))), (3, .int a1), (4, .int v14)]) X dX11_layHold_328 4 rfl rfl (by decide) rfl ?_
                refine zr_goto (tgt := 215) X dX11_layHold_331 (by decide) ?_
                have h := hl15 _ h
                exact zr_sub [1, 2, 3, 4, 0] rfl h
              refine zl_w2 (fun a46 m47 => zv_V S D cA p l e (zv_rm d 0 0) s mi args below meth c 9 (MQ below (zv_Q S D cA (zq_v SH0 P)) args s 0 0 (zv_fr S)) 0 0 229 [(0, .ref (S.heap.size + 68)), (2, .int ((m.1 68 1) * (m.1 68 1))), (3, .int a1), (4, .int v14), (5, .int a16), (6, .int a46)] [] SH0 m47) (fM_layHold_l229 a1 a16) _ (fun P45 hl45 hr45 a46 m47 h => ?_) zFU 0 m17 (zw_b1 h)
              rw [fM_layHold_l229] at h
              refine zr_iload X dX11_layHold_229 5 rfl ?_
              refine zr_iload X dX11_layHold_231 4 rfl ?_
              refine zr_icmp_ge (tgt := 328) X dX11_layHold_233 (by decide) (fun q => ?_) (fun q => ?_)
              · rw [if_neg q] at h
                have h := hr45 _ h
                exact zr_sub [0, 1, 2, 3, 4] rfl (hR45 m47 h)
              · rw [if_pos q] at h
                refine zr_iconst (v := 0) X dX11_layHold_236 (by decide) ?_
                refine zr_istore (lo' := [(7, .int 0), (0, .ref (S.heap.size + 68)), (2, .int ((m.1 68 1) * (m.1 68 1))), (3, .int a1), (4, .int v14), (5, .int a16), (6, .int a46)]) X dX11_layHold_237 (by decide) rfl ?_
                refine zr_sub [1, 2, 3, 4, 5, 6, 0] rfl ?_
                have hR49 : ∀ (m52 : zv_M), zw (some (.inl (a46 + 1, m52)) : Option ((Int32 × zv_M) ⊕ (zv_M))) P45 → zv_V S D cA p l e (zv_rm d 0 0) s mi args below meth c 9 (MQ below (zv_Q S D cA (zq_v SH0 P)) args s 0 0 (zv_fr S)) 0 0 322 [(0, .ref (S.heap.size + 68)), (2, .int ((m.1 68 1) * (m.1 68 1))), (3, .int a1), (4, .int v14), (5, .int a16), (6, .int a46)] [] SH0 m52 := by
                  intro m52 h
                  refine zr_iinc (v := a46 + 1) (lo' := [(6, .int (a46 + 1)), (0, .ref (S.heap.size + 68)), (2, .int ((m.1 68 1) * (m.1 68 1))), (3, .int a1), (4, .int v14), (5, .int a16)]) X dX11_layHold_322 5 rfl rfl (by decide) rfl ?_
                  refine zr_goto (tgt := 229) X dX11_layHold_325 (by decide) ?_
                  have h := hl45 _ h
                  exact zr_sub [1, 2, 3, 4, 5, 0] rfl h
                refine zl_w2 (fun a50 m51 => zv_V S D cA p l e (zv_rm d 0 0) s mi args below meth c 9 (MQ below (zv_Q S D cA (zq_v SH0 P)) args s 0 0 (zv_fr S)) 0 0 239 [(0, .ref (S.heap.size + 68)), (2, .int ((m.1 68 1) * (m.1 68 1))), (3, .int a1), (4, .int v14), (5, .int a16), (6, .int a46), (7, .int a50)] [] SH0 m51) (fM_layHold_l239 a1 a16 a46) _ (fun P49 hl49 hr49 a50 m51 h => ?_) zFU 0 m47 (zw_b1 h)
                rw [fM_layHold_l239] at h
                refine zr_iload X dX11_layHold_239 6 rfl ?_
                refine zr_iload X dX11_layHold_241 5 rfl ?_
                refine zr_icmp_ge (tgt := 322) X dX11_layHold_243 (by decide) (fun q => ?_) (fun q => ?_)
                · rw [if_neg q] at h
                  have h := hr49 _ h
                  exact zr_sub [0, 1, 2, 3, 4, 5] rfl (hR49 m51 h)
                · rw [if_pos q] at h
                  refine zr_aload_n X dX11_layHold_246 0 rfl ?_
                  refine zr_iload X dX11_layHold_247 4 rfl ?_
                  refine zr_callV_i (As := [.int a16]) (st := []) (d := d - 1) X dX11_layHold_249 wm_X11_377 my_X11_mayHold mv_X11_mayHold zo_68 rfl (Nat.le_of_ble_eq_true rfl) (zRm (by omega)) ⟨Nat.le_refl _, Nat.le_refl _⟩ (x_fM_mayHold hG (d - 1) (by omega) a16 m51 _ (zw_b1 h)) (fun r53 m54 q => ?_)
                  obtain ⟨rfl, h⟩ := q
                  have hJ316 : ∀ (m55 : zv_M), zw (fM_layHold_j316 a50 m55) P49 → zv_V S D cA p l e (zv_rm d 0 0) s mi args below meth c 9 (MQ below (zv_Q S D cA (zq_v SH0 P)) args s 0 0 (zv_fr S)) 0 0 316 [(0, .ref (S.heap.size + 68)), (2, .int ((m.1 68 1) * (m.1 68 1))), (3, .int a1), (4, .int v14), (5, .int a16), (6, .int a46), (7, .int a50)] [] SH0 m55 := by
                    intro m55 h
                    rw [fM_layHold_j316] at h
                    refine zr_iinc (v := a50 + 1) (lo' := [(7, .int (a50 + 1)), (0, .ref (S.heap.size + 68)), (2, .int ((m.1 68 1) * (m.1 68 1))), (3, .int a1), (4, .int v14), (5, .int a16), (6, .int a46)]) X dX11_layHold_316 6 rfl rfl (by decide) rfl ?_
                    refine zr_goto (tgt := 239) X dX11_layHold_319 (by decide) ?_
                    have h := hl49 _ h
                    exact zr_sub [1, 2, 3, 4, 5, 6, 0] rfl h
                  refine zr_if_eq (tgt := 316) X dX11_layHold_252 (by decide) (fun q => ?_) (fun q => ?_)
                  · rw [if_pos q] at h
                    exact zr_sub [0, 1, 2, 3, 4, 5, 6] rfl (hJ316 m51 h)
                  · rw [if_neg q] at h
                    refine zr_aload_n X dX11_layHold_255 0 rfl ?_
                    refine zr_iload X dX11_layHold_256 5 rfl ?_
                    refine zr_callV_i (As := [.int a46]) (st := []) (d := d - 1) X dX11_layHold_258 wm_X11_377 my_X11_mayHold mv_X11_mayHold zo_68 rfl (Nat.le_of_ble_eq_true rfl) (zRm (by omega)) ⟨Nat.le_refl _, Nat.le_refl _⟩ (x_fM_mayHold hG (d - 1) (by omega) a46 m51 _ (zw_b1 h)) (fun r56 m57 q => ?_)
                    obtain ⟨rfl, h⟩ := q
                    refine zr_if_eq (tgt := 316) X dX11_layHold_261 (by decide) (fun q => ?_) (fun q => ?_)
                    · rw [if_pos q] at h
                      exact zr_sub [0, 1, 2, 3, 4, 5, 6] rfl (hJ316 m51 h)
                    · rw [if_neg q] at h
                      refine zr_aload_n X dX11_layHold_264 0 rfl ?_
                      refine zr_iload X dX11_layHold_265 6 rfl ?_
                      refine zr_callV_i (As := [.int a50]) (st := []) (d := d - 1) X dX11_layHold_267 wm_X11_377 my_X11_mayHold mv_X11_mayHold zo_68 rfl (Nat.le_of_ble_eq_true rfl) (zRm (by omega)) ⟨Nat.le_refl _, Nat.le_refl _⟩ (x_fM_mayHold hG (d - 1) (by omega) a50 m51 _ (zw_b1 h)) (fun r58 m59 q => ?_)
                      obtain ⟨rfl, h⟩ := q
                      refine zr_if_eq (tgt := 316) X dX11_layHold_270 (by decide) (fun q => ?_) (fun q => ?_)
                      · rw [if_pos q] at h
                        exact zr_sub [0, 1, 2, 3, 4, 5, 6] rfl (hJ316 m51 h)
                      · rw [if_neg q] at h
                        refine zr_aload_n X dX11_layHold_273 0 rfl ?_
                        refine zr_iconst (v := 1) X dX11_layHold_274 (by decide) ?_
                        refine zr_iload X dX11_layHold_275 4 rfl ?_
                        refine zr_ishl X dX11_layHold_277 ?_
                        refine zr_iconst (v := 1) X dX11_layHold_278 (by decide) ?_
                        refine zr_iload X dX11_layHold_279 5 rfl ?_
                        refine zr_ishl X dX11_layHold_281 ?_
                        refine zr_ior X dX11_layHold_282 ?_
                        refine zr_iconst (v := 1) X dX11_layHold_283 (by decide) ?_
                        refine zr_iload X dX11_layHold_284 6 rfl ?_
                        refine zr_ishl X dX11_layHold_286 ?_
                        refine zr_ior X dX11_layHold_287 ?_
                        refine zr_aload_n X dX11_layHold_288 0 rfl ?_
                        refine zr_getR X dX11_layHold_289 zd_X11_115 rfl zo_68 zl_68_34 ?_
                        refine zr_iload X dX11_layHold_292 4 rfl ?_
                        obtain ⟨g0, h⟩ := zg_e h
                        refine zr_iald X dX11_layHold_294 za_90 (zI_in g0) ?_
                        refine zr_aload_n X dX11_layHold_295 0 rfl ?_
                        refine zr_getR X dX11_layHold_296 zd_X11_115 rfl zo_68 zl_68_34 ?_
                        refine zr_iload X dX11_layHold_299 5 rfl ?_
                        obtain ⟨g0, h⟩ := zg_e h
                        refine zr_iald X dX11_layHold_301 za_90 (zI_in g0) ?_
                        refine zr_ior X dX11_layHold_302 ?_
                        refine zr_aload_n X dX11_layHold_303 0 rfl ?_
                        refine zr_getR X dX11_layHold_304 zd_X11_115 rfl zo_68 zl_68_34 ?_
                        refine zr_iload X dX11_layHold_307 6 rfl ?_
                        obtain ⟨g0, h⟩ := zg_e h
                        refine zr_iald X dX11_layHold_309 za_90 (zI_in g0) ?_
                        refine zr_ior X dX11_layHold_310 ?_
                        refine zr_iconst (v := 3) X dX11_layHold_311 (by decide) ?_
                        refine zr_iload_n X dX11_layHold_312 2 rfl ?_
                        refine zr_callV_v (As := [.int (((1 <<< (a16 &&& 31)) ||| (1 <<< (a46 &&& 31))) ||| (1 <<< (a50 &&& 31))), .int (((m51.1 90 a16.toNatClampNeg) ||| (m51.1 90 a46.toNatClampNeg)) ||| (m51.1 90 a50.toNatClampNeg)), .int 3, .int a1]) (st := []) (d := d - 1) X dX11_layHold_313 wm_X11_380 my_X11_tries mv_X11_tries zo_68 rfl (Nat.le_of_ble_eq_true rfl) (zRm (by omega)) ⟨Nat.le_refl _, Nat.le_refl _⟩ (x_fM_tries hG (d - 1) (by omega) (((1 <<< (a16 &&& 31)) ||| (1 <<< (a46 &&& 31))) ||| (1 <<< (a50 &&& 31))) (((m51.1 90 a16.toNatClampNeg) ||| (m51.1 90 a46.toNatClampNeg)) ||| (m51.1 90 a50.toNatClampNeg)) 3 a1 m51 _ (zw_b1 h)) (fun m60 q => ?_)
                        replace h := q
                        exact zr_sub [0, 1, 2, 3, 4, 5, 6] rfl (hJ316 m60 h)
        refine zr_if_ge (tgt := 209) X dX11_layHold_202 (by decide) (fun q => ?_) (fun q => ?_)
        · rw [if_neg q] at h
          refine zr_iconst (v := 0) X dX11_layHold_209 (by decide) ?_
          exact zr_sub [0, 1, 2] rfl (hJ210 0 h)
        · rw [if_pos q] at h
          refine zr_iconst (v := 1) X dX11_layHold_205 (by decide) ?_
          refine zr_goto (tgt := 210) X dX11_layHold_206 (by decide) ?_
          exact zr_sub [0, 1, 2] rfl (hJ210 1 h)
      refine zl_w2 (fun a11 m12 => zv_V S D cA p l e (zv_rm d 0 0) s mi args below meth c 9 (MQ below (zv_Q S D cA (zq_v SH0 P)) args s 0 0 (zv_fr S)) 0 0 115 [(0, .ref (S.heap.size + 68)), (2, .int ((m.1 68 1) * (m.1 68 1))), (3, .int a1), (4, .int a11)] [] SH0 m12) (fM_layHold_l115 m a1) _ (fun P10 hl10 hr10 a11 m12 h => ?_) zFU 0 m9 (zw_b1 h)
      rw [fM_layHold_l115] at h
      refine zr_iload X dX11_layHold_115 3 rfl ?_
      refine zr_iload_n X dX11_layHold_117 1 rfl ?_
      refine zr_icmp_ge (tgt := 198) X dX11_layHold_118 (by decide) (fun q => ?_) (fun q => ?_)
      · rw [if_neg q] at h
        have h := hr10 _ h
        exact zr_sub [0, 1, 2] rfl (hR10 m12 h)
      · rw [if_pos q] at h
        refine zr_aload_n X dX11_layHold_121 0 rfl ?_
        refine zr_getI X dX11_layHold_122 zd_X11_118 rfl zo_68 (by rw [zk_11 zo_68]; decide) ?_
        refine zr_if_ge (tgt := 198) X dX11_layHold_125 (by decide) (fun q => ?_) (fun q => ?_)
        · rw [if_neg q] at h
          have h := hr10 _ h
          exact zr_sub [0, 1, 2] rfl (hR10 m12 h)
        · rw [if_pos q] at h
          refine zr_iconst (v := 0) X dX11_layHold_128 (by decide) ?_
          refine zr_istore (lo' := [(5, .int 0), (0, .ref (S.heap.size + 68)), (2, .int ((m.1 68 1) * (m.1 68 1))), (3, .int a1), (4, .int a11)]) X dX11_layHold_129 (by decide) rfl ?_
          refine zr_sub [1, 2, 3, 4, 0] rfl ?_
          have hR61 : ∀ (m64 : zv_M), zw (some (.inl (a11 + 1, m64)) : Option ((Int32 × zv_M) ⊕ (zv_M))) P10 → zv_V S D cA p l e (zv_rm d 0 0) s mi args below meth c 9 (MQ below (zv_Q S D cA (zq_v SH0 P)) args s 0 0 (zv_fr S)) 0 0 192 [(0, .ref (S.heap.size + 68)), (2, .int ((m.1 68 1) * (m.1 68 1))), (3, .int a1), (4, .int a11)] [] SH0 m64 := by
            intro m64 h
            refine zr_iinc (v := a11 + 1) (lo' := [(4, .int (a11 + 1)), (0, .ref (S.heap.size + 68)), (2, .int ((m.1 68 1) * (m.1 68 1))), (3, .int a1)]) X dX11_layHold_192 3 rfl rfl (by decide) rfl ?_
            refine zr_goto (tgt := 115) X dX11_layHold_195 (by decide) ?_
            have h := hl10 _ h
            exact zr_sub [1, 2, 3, 0] rfl h
          refine zl_w2 (fun a62 m63 => zv_V S D cA p l e (zv_rm d 0 0) s mi args below meth c 9 (MQ below (zv_Q S D cA (zq_v SH0 P)) args s 0 0 (zv_fr S)) 0 0 131 [(0, .ref (S.heap.size + 68)), (2, .int ((m.1 68 1) * (m.1 68 1))), (3, .int a1), (4, .int a11), (5, .int a62)] [] SH0 m63) (fM_layHold_l131 a1 a11) _ (fun P61 hl61 hr61 a62 m63 h => ?_) zFU 0 m12 (zw_b1 h)
          rw [fM_layHold_l131] at h
          refine zr_iload X dX11_layHold_131 4 rfl ?_
          refine zr_iload X dX11_layHold_133 3 rfl ?_
          refine zr_icmp_ge (tgt := 192) X dX11_layHold_135 (by decide) (fun q => ?_) (fun q => ?_)
          · rw [if_neg q] at h
            have h := hr61 _ h
            exact zr_sub [0, 1, 2, 3] rfl (hR61 m63 h)
          · rw [if_pos q] at h
            refine zr_aload_n X dX11_layHold_138 0 rfl ?_
            refine zr_iload X dX11_layHold_139 3 rfl ?_
            refine zr_callV_i (As := [.int a11]) (st := []) (d := d - 1) X dX11_layHold_141 wm_X11_377 my_X11_mayHold mv_X11_mayHold zo_68 rfl (Nat.le_of_ble_eq_true rfl) (zRm (by omega)) ⟨Nat.le_refl _, Nat.le_refl _⟩ (x_fM_mayHold hG (d - 1) (by omega) a11 m63 _ (zw_b1 h)) (fun r65 m66 q => ?_)
            obtain ⟨rfl, h⟩ := q
            have hJ186 : ∀ (m67 : zv_M), zw (fM_layHold_j186 a62 m67) P61 → zv_V S D cA p l e (zv_rm d 0 0) s mi args below meth c 9 (MQ below (zv_Q S D cA (zq_v SH0 P)) args s 0 0 (zv_fr S)) 0 0 186 [(0, .ref (S.heap.size + 68)), (2, .int ((m.1 68 1) * (m.1 68 1))), (3, .int a1), (4, .int a11), (5, .int a62)] [] SH0 m67 := by
              intro m67 h
              rw [fM_layHold_j186] at h
              refine zr_iinc (v := a62 + 1) (lo' := [(5, .int (a62 + 1)), (0, .ref (S.heap.size + 68)), (2, .int ((m.1 68 1) * (m.1 68 1))), (3, .int a1), (4, .int a11)]) X dX11_layHold_186 4 rfl rfl (by decide) rfl ?_
              refine zr_goto (tgt := 131) X dX11_layHold_189 (by decide) ?_
              have h := hl61 _ h
              exact zr_sub [1, 2, 3, 4, 0] rfl h
            refine zr_if_eq (tgt := 186) X dX11_layHold_144 (by decide) (fun q => ?_) (fun q => ?_)
            · rw [if_pos q] at h
              exact zr_sub [0, 1, 2, 3, 4] rfl (hJ186 m63 h)
            · rw [if_neg q] at h
              refine zr_aload_n X dX11_layHold_147 0 rfl ?_
              refine zr_iload X dX11_layHold_148 4 rfl ?_
              refine zr_callV_i (As := [.int a62]) (st := []) (d := d - 1) X dX11_layHold_150 wm_X11_377 my_X11_mayHold mv_X11_mayHold zo_68 rfl (Nat.le_of_ble_eq_true rfl) (zRm (by omega)) ⟨Nat.le_refl _, Nat.le_refl _⟩ (x_fM_mayHold hG (d - 1) (by omega) a62 m63 _ (zw_b1 h)) (fun r68 m69 q => ?_)
              obtain ⟨rfl, h⟩ := q
              refine zr_if_eq (tgt := 186) X dX11_layHold_153 (by decide) (fun q => ?_) (fun q => ?_)
              · rw [if_pos q] at h
                exact zr_sub [0, 1, 2, 3, 4] rfl (hJ186 m63 h)
              · rw [if_neg q] at h
                refine zr_aload_n X dX11_layHold_156 0 rfl ?_
                refine zr_iconst (v := 1) X dX11_layHold_157 (by decide) ?_
                refine zr_iload X dX11_layHold_158 3 rfl ?_
                refine zr_ishl X dX11_layHold_160 ?_
                refine zr_iconst (v := 1) X dX11_layHold_161 (by decide) ?_
                refine zr_iload X dX11_layHold_162 4 rfl ?_
                refine zr_ishl X dX11_layHold_164 ?_
                refine zr_ior X dX11_layHold_165 ?_
                refine zr_aload_n X dX11_layHold_166 0 rfl ?_
                refine zr_getR X dX11_layHold_167 zd_X11_115 rfl zo_68 zl_68_34 ?_
                refine zr_iload X dX11_layHold_170 3 rfl ?_
                obtain ⟨g0, h⟩ := zg_e h
                refine zr_iald X dX11_layHold_172 za_90 (zI_in g0) ?_
                refine zr_aload_n X dX11_layHold_173 0 rfl ?_
                refine zr_getR X dX11_layHold_174 zd_X11_115 rfl zo_68 zl_68_34 ?_
                refine zr_iload X dX11_layHold_177 4 rfl ?_
                obtain ⟨g0, h⟩ := zg_e h
                refine zr_iald X dX11_layHold_179 za_90 (zI_in g0) ?_
                refine zr_ior X dX11_layHold_180 ?_
                refine zr_iconst (v := 2) X dX11_layHold_181 (by decide) ?_
                refine zr_iload_n X dX11_layHold_182 2 rfl ?_
                refine zr_callV_v (As := [.int ((1 <<< (a11 &&& 31)) ||| (1 <<< (a62 &&& 31))), .int ((m63.1 90 a11.toNatClampNeg) ||| (m63.1 90 a62.toNatClampNeg)), .int 2, .int a1]) (st := []) (d := d - 1) X dX11_layHold_183 wm_X11_380 my_X11_tries mv_X11_tries zo_68 rfl (Nat.le_of_ble_eq_true rfl) (zRm (by omega)) ⟨Nat.le_refl _, Nat.le_refl _⟩ (x_fM_tries hG (d - 1) (by omega) ((1 <<< (a11 &&& 31)) ||| (1 <<< (a62 &&& 31))) ((m63.1 90 a11.toNatClampNeg) ||| (m63.1 90 a62.toNatClampNeg)) 2 a1 m63 _ (zw_b1 h)) (fun m70 q => ?_)
                replace h := q
                exact zr_sub [0, 1, 2, 3, 4] rfl (hJ186 m70 h)
    refine zl_w2 (fun a7 m8 => zv_V S D cA p l e (zv_rm d 0 0) s mi args below meth c 9 (MQ below (zv_Q S D cA (zq_v SH0 P)) args s 0 0 (zv_fr S)) 0 0 74 [(0, .ref (S.heap.size + 68)), (2, .int ((m.1 68 1) * (m.1 68 1))), (3, .int a1), (4, .int a7)] [] SH0 m8) (fM_layHold_l74 m a1) _ (fun P6 hl6 hr6 a7 m8 h => ?_) zFU 0 (wI (wI m5 68 35 (-5)) 68 36 (-5)) (zw_b1 h)
    rw [fM_layHold_l74] at h
    refine zr_iload X dX11_layHold_74 3 rfl ?_
    refine zr_iload_n X dX11_layHold_76 1 rfl ?_
    refine zr_icmp_ge (tgt := 112) X dX11_layHold_77 (by decide) (fun q => ?_) (fun q => ?_)
    · rw [if_neg q] at h
      have h := hr6 _ h
      exact zr_sub [0, 1, 2] rfl (hR6 m8 h)
    · rw [if_pos q] at h
      refine zr_aload_n X dX11_layHold_80 0 rfl ?_
      refine zr_iload X dX11_layHold_81 3 rfl ?_
      refine zr_callV_i (As := [.int a7]) (st := []) (d := d - 1) X dX11_layHold_83 wm_X11_377 my_X11_mayHold mv_X11_mayHold zo_68 rfl (Nat.le_of_ble_eq_true rfl) (zRm (by omega)) ⟨Nat.le_refl _, Nat.le_refl _⟩ (x_fM_mayHold hG (d - 1) (by omega) a7 m8 _ (zw_b1 h)) (fun r71 m72 q => ?_)
      obtain ⟨rfl, h⟩ := q
      have hJ106 : ∀ (m73 : zv_M), zw (fM_layHold_j106 a7 m73) P6 → zv_V S D cA p l e (zv_rm d 0 0) s mi args below meth c 9 (MQ below (zv_Q S D cA (zq_v SH0 P)) args s 0 0 (zv_fr S)) 0 0 106 [(0, .ref (S.heap.size + 68)), (2, .int ((m.1 68 1) * (m.1 68 1))), (3, .int a1), (4, .int a7)] [] SH0 m73 := by
        intro m73 h
        rw [fM_layHold_j106] at h
        refine zr_iinc (v := a7 + 1) (lo' := [(4, .int (a7 + 1)), (0, .ref (S.heap.size + 68)), (2, .int ((m.1 68 1) * (m.1 68 1))), (3, .int a1)]) X dX11_layHold_106 3 rfl rfl (by decide) rfl ?_
        refine zr_goto (tgt := 74) X dX11_layHold_109 (by decide) ?_
        have h := hl6 _ h
        exact zr_sub [1, 2, 3, 0] rfl h
      refine zr_if_eq (tgt := 106) X dX11_layHold_86 (by decide) (fun q => ?_) (fun q => ?_)
      · rw [if_pos q] at h
        exact zr_sub [0, 1, 2, 3] rfl (hJ106 m8 h)
      · rw [if_neg q] at h
        refine zr_aload_n X dX11_layHold_89 0 rfl ?_
        refine zr_iconst (v := 1) X dX11_layHold_90 (by decide) ?_
        refine zr_iload X dX11_layHold_91 3 rfl ?_
        refine zr_ishl X dX11_layHold_93 ?_
        refine zr_aload_n X dX11_layHold_94 0 rfl ?_
        refine zr_getR X dX11_layHold_95 zd_X11_115 rfl zo_68 zl_68_34 ?_
        refine zr_iload X dX11_layHold_98 3 rfl ?_
        obtain ⟨g0, h⟩ := zg_e h
        refine zr_iald X dX11_layHold_100 za_90 (zI_in g0) ?_
        refine zr_iconst (v := 1) X dX11_layHold_101 (by decide) ?_
        refine zr_iload_n X dX11_layHold_102 2 rfl ?_
        refine zr_callV_v (As := [.int (1 <<< (a7 &&& 31)), .int (m8.1 90 a7.toNatClampNeg), .int 1, .int a1]) (st := []) (d := d - 1) X dX11_layHold_103 wm_X11_380 my_X11_tries mv_X11_tries zo_68 rfl (Nat.le_of_ble_eq_true rfl) (zRm (by omega)) ⟨Nat.le_refl _, Nat.le_refl _⟩ (x_fM_tries hG (d - 1) (by omega) (1 <<< (a7 &&& 31)) (m8.1 90 a7.toNatClampNeg) 1 a1 m8 _ (zw_b1 h)) (fun m74 q => ?_)
        replace h := q
        exact zr_sub [0, 1, 2, 3] rfl (hJ106 m74 h)
  refine zl_w2 (fun a3 m4 => zv_V S D cA p l e (zv_rm d 0 0) s mi args below meth c 9 (MQ below (zv_Q S D cA (zq_v SH0 P)) args s 0 0 (zv_fr S)) 0 0 26 [(0, .ref (S.heap.size + 68)), (1, .int p1), (2, .int ((m.1 68 1) * (m.1 68 1))), (3, .int a1), (4, .int a3)] [] SH0 m4) (fM_layHold_l26 p1 m a1) _ (fun P2 hl2 hr2 a3 m4 h => ?_) zFU 0 m (zw_b1 h)
  rw [fM_layHold_l26] at h
  refine zr_iload X dX11_layHold_26 4 rfl ?_
  refine zr_iload_n X dX11_layHold_28 2 rfl ?_
  refine zr_icmp_ge (tgt := 59) X dX11_layHold_29 (by decide) (fun q => ?_) (fun q => ?_)
  · rw [if_neg q] at h
    have h := hr2 _ h
    exact zr_sub [0, 2, 3] rfl (hR2 m4 h)
  · rw [if_pos q] at h
    refine zr_aload_n X dX11_layHold_32 0 rfl ?_
    refine zr_getR X dX11_layHold_33 zd_X11_115 rfl zo_68 zl_68_34 ?_
    refine zr_iload X dX11_layHold_36 4 rfl ?_
    refine zr_aload_n X dX11_layHold_38 0 rfl ?_
    refine zr_iload_n X dX11_layHold_39 1 rfl ?_
    refine zr_iload X dX11_layHold_40 4 rfl ?_
    refine zr_callV_i (As := [.int p1, .int a3]) (st := [.int a3, .ref (S.heap.size + 90)]) (d := d - 1) X dX11_layHold_42 wm_X11_344 my_X11_seesOf mv_X11_seesOf zo_68 rfl (Nat.le_of_ble_eq_true rfl) (zRm (by omega)) ⟨Nat.le_refl _, Nat.le_refl _⟩ (x_fM_seesOf hG (d - 1) (by omega) p1 a3 m4 _ (zw_b1 h)) (fun r75 m76 q => ?_)
    obtain ⟨rfl, h⟩ := q
    refine zr_iconst (v := 1) X dX11_layHold_45 (by decide) ?_
    refine zr_iload X dX11_layHold_46 4 rfl ?_
    refine zr_ishl X dX11_layHold_48 ?_
    refine zr_ior X dX11_layHold_49 ?_
    refine zr_iload_n X dX11_layHold_50 3 rfl ?_
    refine zr_iand X dX11_layHold_51 ?_
    obtain ⟨g0, h⟩ := zg_e h
    refine zr_iast X dX11_layHold_52 za_90 (zI_in g0) ?_
    refine zr_iinc (v := a3 + 1) (lo' := [(4, .int (a3 + 1)), (0, .ref (S.heap.size + 68)), (1, .int p1), (2, .int ((m.1 68 1) * (m.1 68 1))), (3, .int a1)]) X dX11_layHold_53 4 rfl rfl (by decide) rfl ?_
    refine zr_goto (tgt := 26) X dX11_layHold_56 (by decide) ?_
    have h := hl2 _ h
    exact zr_sub [1, 2, 3, 4, 0] rfl h

set_option maxRecDepth 100000 in
set_option maxHeartbeats 4000000 in
theorem x_fM_hold {l : Launch} {S : State} {D : va_G} {cA : Nat → ClassId} {tb sx : Nat → Nat} (hG : zv_G S D cA tb sx) (d : Nat) (hd : 7 ≤ d) (p1 : Int32) (p2 : Int32) (m : zv_M) (P : Int32 → zv_M → Prop) (h : zw2 (fM_hold p1 p2 m) P) : zv_Met l S D cA d 0 0 yX11_hold cX11_hold 3 (some .int) [.ref (S.heap.size + 68), .int p1, .int p2] SH0 m (zq_i SH0 P) := by
  refine zv_met false hG pf_X11_hold (fun z => by cases z) (Nat.le_of_ble_eq_true rfl) [(0, .ref (S.heap.size + 68)), (1, .int p1), (2, .int p2)] rfl (fun p e s mi args below meth c X => ?_)
  rw [fM_hold] at h
  refine zr_aload_n X dX11_hold_0 0 rfl ?_
  refine zr_iload_n X dX11_hold_1 1 rfl ?_
  refine zr_callV_i (As := [.int p1]) (st := []) (d := d - 1) X dX11_hold_2 wm_X11_234 my_X11_isPlan mv_X11_isPlan zo_68 rfl (Nat.le_of_ble_eq_true rfl) (zRm (by omega)) ⟨Nat.le_refl _, Nat.le_refl _⟩ (x_fM_isPlan hG (d - 1) (by omega) p1 m _ (zw_b12 h)) (fun r1 m2 q => ?_)
  obtain ⟨rfl, h⟩ := q
  refine zr_if_eq (tgt := 18) X dX11_hold_5 (by decide) (fun q => ?_) (fun q => ?_)
  · rw [if_pos q] at h
    refine zr_iconst (v := (-1)) X dX11_hold_18 (by decide) ?_
    exact zr_iret X dX11_hold_19 rfl ⟨Nat.le_refl _, Nat.le_refl _⟩ ⟨rfl, _, rfl, h⟩
  · rw [if_neg q] at h
    refine zr_aload_n X dX11_hold_8 0 rfl ?_
    refine zr_iload_n X dX11_hold_9 2 rfl ?_
    refine zr_iconst (v := 0) X dX11_hold_10 (by decide) ?_
    refine zr_iconst (v := 1) X dX11_hold_11 (by decide) ?_
    refine zr_callV_i (As := [.int p2, .int 0, .int 1]) (st := []) (d := d - 1) X dX11_hold_12 wm_X11_230 my_X11_in mv_X11_in zo_68 rfl (Nat.le_of_ble_eq_true rfl) (zRm (by omega)) ⟨Nat.le_refl _, Nat.le_refl _⟩ (x_fM_in hG (d - 1) (by omega) p2 0 1 m _ (zw_b12 h)) (fun r3 m4 q => ?_)
    obtain ⟨rfl, h⟩ := q
    refine zr_if_ne (tgt := 20) X dX11_hold_15 (by decide) (fun q => ?_) (fun q => ?_)
    · rw [if_neg q] at h
      refine zr_aload_n X dX11_hold_20 0 rfl ?_
      refine zr_iload_n X dX11_hold_21 1 rfl ?_
      refine zr_callV_v (As := [.int p1]) (st := []) (d := d - 1) X dX11_hold_22 wm_X11_384 my_X11_layHold mv_X11_layHold zo_68 rfl (Nat.le_of_ble_eq_true rfl) (zRm (by omega)) ⟨Nat.le_refl _, Nat.le_refl _⟩ (x_fM_layHold hG (d - 1) (by omega) p1 m _ (zw_b12 h)) (fun m5 q => ?_)
      replace h := q
      refine zr_iload_n X dX11_hold_25 2 rfl ?_
      refine zr_if_ne (tgt := 36) X dX11_hold_26 (by decide) (fun q => ?_) (fun q => ?_)
      · rw [if_neg q] at h
        refine zr_aload_n X dX11_hold_36 0 rfl ?_
        refine zr_getI X dX11_hold_37 zd_X11_121 rfl zo_68 (by rw [zk_11 zo_68]; decide) ?_
        exact zr_iret X dX11_hold_40 rfl ⟨Nat.le_refl _, Nat.le_refl _⟩ ⟨rfl, _, rfl, h⟩
      · rw [if_pos q] at h
        refine zr_aload_n X dX11_hold_29 0 rfl ?_
        refine zr_getI X dX11_hold_30 zd_X11_118 rfl zo_68 (by rw [zk_11 zo_68]; decide) ?_
        refine zr_goto (tgt := 40) X dX11_hold_33 (by decide) ?_
        exact zr_iret X dX11_hold_40 rfl ⟨Nat.le_refl _, Nat.le_refl _⟩ ⟨rfl, _, rfl, h⟩
    · rw [if_pos q] at h
      refine zr_iconst (v := (-1)) X dX11_hold_18 (by decide) ?_
      exact zr_iret X dX11_hold_19 rfl ⟨Nat.le_refl _, Nat.le_refl _⟩ ⟨rfl, _, rfl, h⟩

set_option maxRecDepth 100000 in
set_option maxHeartbeats 4000000 in
theorem x_fM_moreOf {l : Launch} {S : State} {D : va_G} {cA : Nat → ClassId} {tb sx : Nat → Nat} (hG : zv_G S D cA tb sx) (d : Nat) (hd : 8 ≤ d) (p1 : Int32) (m : zv_M) (P : Int32 → Prop) (h : zw (fM_moreOf p1 m) P) : zv_Met l S D cA d 0 0 yX11_moreOf cX11_moreOf 4 (some .int) [.ref (S.heap.size + 68), .int p1] SH0 m (zq_i SH0 (fun v m' => m = m' ∧ P v)) := by
  refine zv_met false hG pf_X11_moreOf (fun z => by cases z) (Nat.le_of_ble_eq_true rfl) [(0, .ref (S.heap.size + 68)), (1, .int p1)] rfl (fun p e s mi args below meth c X => ?_)
  rw [fM_moreOf] at h
  refine zr_iconst (v := 0) X dX11_moreOf_0 (by decide) ?_
  refine zr_istore_n (lo' := [(2, .int 0), (0, .ref (S.heap.size + 68)), (1, .int p1)]) X dX11_moreOf_1 (by decide) rfl ?_
  refine zr_iconst (v := 0) X dX11_moreOf_2 (by decide) ?_
  refine zr_istore_n (lo' := [(3, .int 0), (2, .int 0), (0, .ref (S.heap.size + 68)), (1, .int p1)]) X dX11_moreOf_3 (by decide) rfl ?_
  refine zr_sub [2, 3, 1, 0] rfl ?_
  refine zl_w2 (fun a2 a3 => zv_V S D cA p l e (zv_rm d 0 0) s mi args below meth c 4 (MQ below (zv_Q S D cA (zq_i SH0 (fun v m' => m = m' ∧ P v))) args s 0 0 (zv_fr S)) 0 0 4 [(0, .ref (S.heap.size + 68)), (1, .int p1), (2, .int a2), (3, .int a3)] [] SH0 m) (fM_moreOf_l4 p1 m) _ (fun P1 hl1 hr1 a2 a3 h => ?_) zFU 0 0 (zw_b1 h)
  rw [fM_moreOf_l4] at h
  refine zr_iload_n X dX11_moreOf_4 3 rfl ?_
  refine zr_aload_n X dX11_moreOf_5 0 rfl ?_
  refine zr_getI X dX11_moreOf_6 zd_X11_13 rfl zo_68 (by rw [zk_11 zo_68]; decide) ?_
  refine zr_aload_n X dX11_moreOf_9 0 rfl ?_
  refine zr_getI X dX11_moreOf_10 zd_X11_13 rfl zo_68 (by rw [zk_11 zo_68]; decide) ?_
  refine zr_imul X dX11_moreOf_13 ?_
  refine zr_icmp_ge (tgt := 50) X dX11_moreOf_14 (by decide) (fun q => ?_) (fun q => ?_)
  · rw [if_neg q] at h
    refine zr_iload_n X dX11_moreOf_50 2 rfl ?_
    have h := hr1 _ h
    exact zr_iret X dX11_moreOf_51 rfl ⟨Nat.le_refl _, Nat.le_refl _⟩ ⟨rfl, _, rfl, rfl, h⟩
  · rw [if_pos q] at h
    refine zr_iload_n X dX11_moreOf_17 2 rfl ?_
    refine zr_aload_n X dX11_moreOf_18 0 rfl ?_
    refine zr_iload_n X dX11_moreOf_19 3 rfl ?_
    refine zr_callV_i (As := [.int a3]) (st := [.int a2]) (d := d - 1) X dX11_moreOf_20 wm_X11_356 my_X11_mayBe mv_X11_mayBe zo_68 rfl (Nat.le_of_ble_eq_true rfl) (zRm (by omega)) ⟨Nat.le_refl _, Nat.le_refl _⟩ (x_fM_mayBe hG (d - 1) (by omega) a3 m _ (zw_b1 h)) (fun r4 m5 q => ?_)
    obtain ⟨rfl, h⟩ := q
    have hJ41 : zw (fM_moreOf_j41 a2 a3) P1 → zv_V S D cA p l e (zv_rm d 0 0) s mi args below meth c 4 (MQ below (zv_Q S D cA (zq_i SH0 (fun v m' => m = m' ∧ P v))) args s 0 0 (zv_fr S)) 0 0 41 [(0, .ref (S.heap.size + 68)), (1, .int p1), (3, .int a3)] [.int a2] SH0 m := by
      intro h
      rw [fM_moreOf_j41] at h
      refine zr_iconst (v := 0) X dX11_moreOf_41 (by decide) ?_
      refine zr_ior X dX11_moreOf_42 ?_
      refine zr_istore_n (lo' := [(2, .int (a2 ||| 0)), (0, .ref (S.heap.size + 68)), (1, .int p1), (3, .int a3)]) X dX11_moreOf_43 (by decide) rfl ?_
      refine zr_iinc (v := a3 + 1) (lo' := [(3, .int (a3 + 1)), (2, .int (a2 ||| 0)), (0, .ref (S.heap.size + 68)), (1, .int p1)]) X dX11_moreOf_44 3 rfl rfl (by decide) rfl ?_
      refine zr_goto (tgt := 4) X dX11_moreOf_47 (by decide) ?_
      have h := hl1 _ h
      exact zr_sub [2, 3, 1, 0] rfl h
    have hJ42 : ∀ (v6 : Int32), zw (fM_moreOf_j42 a2 a3 v6) P1 → zv_V S D cA p l e (zv_rm d 0 0) s mi args below meth c 4 (MQ below (zv_Q S D cA (zq_i SH0 (fun v m' => m = m' ∧ P v))) args s 0 0 (zv_fr S)) 0 0 42 [(0, .ref (S.heap.size + 68)), (1, .int p1), (3, .int a3)] [.int v6, .int a2] SH0 m := by
      intro v6 h
      rw [fM_moreOf_j42] at h
      refine zr_ior X dX11_moreOf_42 ?_
      refine zr_istore_n (lo' := [(2, .int (a2 ||| v6)), (0, .ref (S.heap.size + 68)), (1, .int p1), (3, .int a3)]) X dX11_moreOf_43 (by decide) rfl ?_
      refine zr_iinc (v := a3 + 1) (lo' := [(3, .int (a3 + 1)), (2, .int (a2 ||| v6)), (0, .ref (S.heap.size + 68)), (1, .int p1)]) X dX11_moreOf_44 3 rfl rfl (by decide) rfl ?_
      refine zr_goto (tgt := 4) X dX11_moreOf_47 (by decide) ?_
      have h := hl1 _ h
      exact zr_sub [2, 3, 1, 0] rfl h
    refine zr_if_eq (tgt := 41) X dX11_moreOf_23 (by decide) (fun q => ?_) (fun q => ?_)
    · rw [if_pos q] at h
      exact zr_sub [0, 1, 3] rfl (hJ41 h)
    · rw [if_neg q] at h
      refine zr_aload_n X dX11_moreOf_26 0 rfl ?_
      refine zr_iload_n X dX11_moreOf_27 1 rfl ?_
      refine zr_iload_n X dX11_moreOf_28 3 rfl ?_
      refine zr_callV_i (As := [.int p1, .int a3]) (st := [.int a2]) (d := d - 1) X dX11_moreOf_29 wm_X11_359 my_X11_isFit mv_X11_isFit zo_68 rfl (Nat.le_of_ble_eq_true rfl) (zRm (by omega)) ⟨Nat.le_refl _, Nat.le_refl _⟩ (x_fM_isFit hG (d - 1) (by omega) p1 a3 m _ (zw_b1 h)) (fun r7 m8 q => ?_)
      obtain ⟨rfl, h⟩ := q
      refine zr_if_eq (tgt := 41) X dX11_moreOf_32 (by decide) (fun q => ?_) (fun q => ?_)
      · rw [if_pos q] at h
        exact zr_sub [0, 1, 3] rfl (hJ41 h)
      · rw [if_neg q] at h
        refine zr_iconst (v := 1) X dX11_moreOf_35 (by decide) ?_
        refine zr_iload_n X dX11_moreOf_36 3 rfl ?_
        refine zr_ishl X dX11_moreOf_37 ?_
        refine zr_goto (tgt := 42) X dX11_moreOf_38 (by decide) ?_
        exact zr_sub [0, 1, 3] rfl (hJ42 (1 <<< (a3 &&& 31)) h)

set_option maxRecDepth 100000 in
set_option maxHeartbeats 4000000 in
theorem x_fM_more {l : Launch} {S : State} {D : va_G} {cA : Nat → ClassId} {tb sx : Nat → Nat} (hG : zv_G S D cA tb sx) (d : Nat) (hd : 9 ≤ d) (p1 : Int32) (m : zv_M) (P : Int32 → Prop) (h : zw (fM_more p1 m) P) : zv_Met l S D cA d 0 0 yX11_more cX11_more 2 (some .int) [.ref (S.heap.size + 68), .int p1] SH0 m (zq_i SH0 (fun v m' => m = m' ∧ P v)) := by
  refine zv_met false hG pf_X11_more (fun z => by cases z) (Nat.le_of_ble_eq_true rfl) [(0, .ref (S.heap.size + 68)), (1, .int p1)] rfl (fun p e s mi args below meth c X => ?_)
  rw [fM_more] at h
  refine zr_aload_n X dX11_more_0 0 rfl ?_
  refine zr_iload_n X dX11_more_1 1 rfl ?_
  refine zr_callV_i (As := [.int p1]) (st := []) (d := d - 1) X dX11_more_2 wm_X11_234 my_X11_isPlan mv_X11_isPlan zo_68 rfl (Nat.le_of_ble_eq_true rfl) (zRm (by omega)) ⟨Nat.le_refl _, Nat.le_refl _⟩ (x_fM_isPlan hG (d - 1) (by omega) p1 m _ (zw_b1 h)) (fun r1 m2 q => ?_)
  obtain ⟨rfl, h⟩ := q
  refine zr_if_eq (tgt := 16) X dX11_more_5 (by decide) (fun q => ?_) (fun q => ?_)
  · rw [if_pos q] at h
    refine zr_iconst (v := (-1)) X dX11_more_16 (by decide) ?_
    exact zr_iret X dX11_more_17 rfl ⟨Nat.le_refl _, Nat.le_refl _⟩ ⟨rfl, _, rfl, rfl, h⟩
  · rw [if_neg q] at h
    refine zr_aload_n X dX11_more_8 0 rfl ?_
    refine zr_iload_n X dX11_more_9 1 rfl ?_
    refine zr_callV_i (As := [.int p1]) (st := []) (d := d - 1) X dX11_more_10 wm_X11_387 my_X11_moreOf mv_X11_moreOf zo_68 rfl (Nat.le_of_ble_eq_true rfl) (zRm (by omega)) ⟨Nat.le_refl _, Nat.le_refl _⟩ (x_fM_moreOf hG (d - 1) (by omega) p1 m _ (zw_b1 h)) (fun r3 m4 q => ?_)
    obtain ⟨rfl, h⟩ := q
    refine zr_goto (tgt := 17) X dX11_more_13 (by decide) ?_
    exact zr_iret X dX11_more_17 rfl ⟨Nat.le_refl _, Nat.le_refl _⟩ ⟨rfl, _, rfl, rfl, h⟩

set_option maxRecDepth 100000 in
set_option maxHeartbeats 4000000 in
theorem x_fM_isPeaceOf {l : Launch} {S : State} {D : va_G} {cA : Nat → ClassId} {tb sx : Nat → Nat} (hG : zv_G S D cA tb sx) (d : Nat) (hd : 3 ≤ d) (p1 : Int32) (m : zv_M) (P : Int32 → Prop) (h : zw (fM_isPeaceOf p1 m) P) : zv_Met l S D cA d 0 0 yX11_isPeaceOf cX11_isPeaceOf 3 (some .boolean) [.ref (S.heap.size + 68), .int p1] SH0 m (zq_i SH0 (fun v m' => m = m' ∧ P v)) := by
  refine zv_met false hG pf_X11_isPeaceOf (fun z => by cases z) (Nat.le_of_ble_eq_true rfl) [(0, .ref (S.heap.size + 68)), (1, .int p1)] rfl (fun p e s mi args below meth c X => ?_)
  rw [fM_isPeaceOf] at h
  refine zr_iload_n X dX11_isPeaceOf_0 1 rfl ?_
  refine zr_istore_n (lo' := [(2, .int p1), (0, .ref (S.heap.size + 68)), (1, .int p1)]) X dX11_isPeaceOf_1 (by decide) rfl ?_
  refine zr_sub [1, 2, 0] rfl ?_
  refine zl_w1 (fun a2 => zv_V S D cA p l e (zv_rm d 0 0) s mi args below meth c 3 (MQ below (zv_Q S D cA (zq_i SH0 (fun v m' => m = m' ∧ P v))) args s 0 0 (zv_fr S)) 0 0 2 [(0, .ref (S.heap.size + 68)), (1, .int p1), (2, .int a2)] [] SH0 m) (fM_isPeaceOf_l2 p1 m) _ (fun P1 hl1 hr1 a2 h => ?_) zFU p1 (zw_b1 h)
  rw [fM_isPeaceOf_l2] at h
  refine zr_iload_n X dX11_isPeaceOf_2 2 rfl ?_
  refine zr_if_eq (tgt := 32) X dX11_isPeaceOf_3 (by decide) (fun q => ?_) (fun q => ?_)
  · rw [if_pos q] at h
    refine zr_iconst (v := 1) X dX11_isPeaceOf_32 (by decide) ?_
    have h := hr1 _ h
    exact zr_iret X dX11_isPeaceOf_33 rfl ⟨Nat.le_refl _, Nat.le_refl _⟩ ⟨rfl, _, rfl, rfl, h⟩
  · rw [if_neg q] at h
    refine zr_aload_n X dX11_isPeaceOf_6 0 rfl ?_
    refine zr_getR X dX11_isPeaceOf_7 zd_X11_124 rfl zo_68 zl_68_37 ?_
    refine zr_aload_n X dX11_isPeaceOf_10 0 rfl ?_
    refine zr_iload_n X dX11_isPeaceOf_11 2 rfl ?_
    refine zr_callV_i (As := [.int a2]) (st := [.ref (S.heap.size + 91)]) (d := d - 1) X dX11_isPeaceOf_12 wm_X11_374 my_X11_lowest mv_X11_lowest zo_68 rfl (Nat.le_of_ble_eq_true rfl) (zRm (by omega)) ⟨Nat.le_refl _, Nat.le_refl _⟩ (x_fM_lowest hG (d - 1) (by omega) a2 m _ (zw_b1 h)) (fun r3 m4 q => ?_)
    obtain ⟨rfl, h⟩ := q
    obtain ⟨g0, h⟩ := zg_e h
    refine zr_iald X dX11_isPeaceOf_15 za_91 (zI_in g0) ?_
    refine zr_iload_n X dX11_isPeaceOf_16 1 rfl ?_
    refine zr_iand X dX11_isPeaceOf_17 ?_
    refine zr_if_eq (tgt := 23) X dX11_isPeaceOf_18 (by decide) (fun q => ?_) (fun q => ?_)
    · rw [if_pos q] at h
      refine zr_iload_n X dX11_isPeaceOf_23 2 rfl ?_
      refine zr_iload_n X dX11_isPeaceOf_24 2 rfl ?_
      refine zr_iconst (v := 1) X dX11_isPeaceOf_25 (by decide) ?_
      refine zr_isub X dX11_isPeaceOf_26 ?_
      refine zr_iand X dX11_isPeaceOf_27 ?_
      refine zr_istore_n (lo' := [(2, .int (a2 &&& (a2 - 1))), (0, .ref (S.heap.size + 68)), (1, .int p1)]) X dX11_isPeaceOf_28 (by decide) rfl ?_
      refine zr_goto (tgt := 2) X dX11_isPeaceOf_29 (by decide) ?_
      have h := hl1 _ h
      exact zr_sub [1, 2, 0] rfl h
    · rw [if_neg q] at h
      refine zr_iconst (v := 0) X dX11_isPeaceOf_21 (by decide) ?_
      have h := hr1 _ h
      exact zr_iret X dX11_isPeaceOf_22 rfl ⟨Nat.le_refl _, Nat.le_refl _⟩ ⟨rfl, _, rfl, rfl, h⟩

set_option maxRecDepth 100000 in
set_option maxHeartbeats 4000000 in
theorem x_fM_gone {l : Launch} {S : State} {D : va_G} {cA : Nat → ClassId} {tb sx : Nat → Nat} (hG : zv_G S D cA tb sx) (d : Nat) (hd : 4 ≤ d) (p1 : Int32) (p2 : Int32) (p3 : Int32) (m : zv_M) (P : Int32 → Prop) (h : zw (fM_gone p1 p2 p3 m) P) : zv_Met l S D cA d 0 0 yX11_gone cX11_gone 4 (some .int) [.ref (S.heap.size + 68), .int p1, .int p2, .int p3] SH0 m (zq_i SH0 (fun v m' => m = m' ∧ P v)) := by
  refine zv_met false hG pf_X11_gone (fun z => by cases z) (Nat.le_of_ble_eq_true rfl) [(0, .ref (S.heap.size + 68)), (1, .int p1), (2, .int p2), (3, .int p3)] rfl (fun p e s mi args below meth c X => ?_)
  rw [fM_gone] at h
  refine zr_iload_n X dX11_gone_0 3 rfl ?_
  have hJ9 : zw (fM_gone_j9 p1 p2 p3 m) P → zv_V S D cA p l e (zv_rm d 0 0) s mi args below meth c 4 (MQ below (zv_Q S D cA (zq_i SH0 (fun v m' => m = m' ∧ P v))) args s 0 0 (zv_fr S)) 0 0 9 [(0, .ref (S.heap.size + 68)), (1, .int p1), (2, .int p2), (3, .int p3)] [] SH0 m := by
    intro h
    rw [fM_gone_j9] at h
    refine zr_aload_n X dX11_gone_9 0 rfl ?_
    refine zr_iload_n X dX11_gone_10 1 rfl ?_
    refine zr_iload_n X dX11_gone_11 2 rfl ?_
    refine zr_iconst (v := (-1)) X dX11_gone_12 (by decide) ?_
    refine zr_ixor X dX11_gone_13 ?_
    refine zr_iand X dX11_gone_14 ?_
    refine zr_callV_i (As := [.int (p1 &&& (p2 ^^^ (-1)))]) (st := []) (d := d - 1) X dX11_gone_15 wm_X11_390 my_X11_isPeaceOf mv_X11_isPeaceOf zo_68 rfl (Nat.le_of_ble_eq_true rfl) (zRm (by omega)) ⟨Nat.le_refl _, Nat.le_refl _⟩ (x_fM_isPeaceOf hG (d - 1) (by omega) (p1 &&& (p2 ^^^ (-1))) m _ (zw_b1 h)) (fun r1 m2 q => ?_)
    obtain ⟨rfl, h⟩ := q
    refine zr_if_eq (tgt := 25) X dX11_gone_18 (by decide) (fun q => ?_) (fun q => ?_)
    · rw [if_pos q] at h
      refine zr_iload_n X dX11_gone_25 3 rfl ?_
      exact zr_iret X dX11_gone_26 rfl ⟨Nat.le_refl _, Nat.le_refl _⟩ ⟨rfl, _, rfl, rfl, h⟩
    · rw [if_neg q] at h
      refine zr_iload_n X dX11_gone_21 2 rfl ?_
      refine zr_goto (tgt := 26) X dX11_gone_22 (by decide) ?_
      exact zr_iret X dX11_gone_26 rfl ⟨Nat.le_refl _, Nat.le_refl _⟩ ⟨rfl, _, rfl, rfl, h⟩
  refine zr_if_lt (tgt := 9) X dX11_gone_1 (by decide) (fun q => ?_) (fun q => ?_)
  · rw [if_pos q] at h
    exact zr_sub [0, 1, 2, 3] rfl (hJ9 h)
  · rw [if_neg q] at h
    refine zr_iload_n X dX11_gone_4 2 rfl ?_
    refine zr_iload_n X dX11_gone_5 3 rfl ?_
    refine zr_icmp_ge (tgt := 25) X dX11_gone_6 (by decide) (fun q => ?_) (fun q => ?_)
    · rw [if_neg q] at h
      refine zr_iload_n X dX11_gone_25 3 rfl ?_
      exact zr_iret X dX11_gone_26 rfl ⟨Nat.le_refl _, Nat.le_refl _⟩ ⟨rfl, _, rfl, rfl, h⟩
    · rw [if_pos q] at h
      exact zr_sub [0, 1, 2, 3] rfl (hJ9 h)

set_option maxRecDepth 100000 in
set_option maxHeartbeats 4000000 in
theorem x_fM_goes {l : Launch} {S : State} {D : va_G} {cA : Nat → ClassId} {tb sx : Nat → Nat} (hG : zv_G S D cA tb sx) (d : Nat) (hd : 5 ≤ d) (p1 : Int32) (p2 : Int32) (m : zv_M) (P : Int32 → zv_M → Prop) (h : zw2 (fM_goes p1 p2 m) P) : zv_Met l S D cA d 0 0 yX11_goes cX11_goes 9 (some .boolean) [.ref (S.heap.size + 68), .int p1, .int p2] SH0 m (zq_i SH0 P) := by
  refine zv_met false hG pf_X11_goes (fun z => by cases z) (Nat.le_of_ble_eq_true rfl) [(0, .ref (S.heap.size + 68)), (1, .int p1), (2, .int p2)] rfl (fun p e s mi args below meth c X => ?_)
  rw [fM_goes] at h
  refine zr_bipush (v := (-5)) X dX11_goes_0 (by decide) ?_
  refine zr_istore_n (lo' := [(3, .int (-5)), (0, .ref (S.heap.size + 68)), (1, .int p1), (2, .int p2)]) X dX11_goes_2 (by decide) rfl ?_
  refine zr_aload_n X dX11_goes_3 1 rfl ?_
  refine zr_getI X dX11_goes_4 zd_X11_13 rfl zo_68 (by rw [zk_11 zo_68]; decide) ?_
  refine zr_aload_n X dX11_goes_7 1 rfl ?_
  refine zr_getI X dX11_goes_8 zd_X11_13 rfl zo_68 (by rw [zk_11 zo_68]; decide) ?_
  refine zr_imul X dX11_goes_11 ?_
  refine zr_istore (lo' := [(4, .int ((m.1 68 1) * (m.1 68 1))), (3, .int (-5)), (0, .ref (S.heap.size + 68)), (1, .int p1), (2, .int p2)]) X dX11_goes_12 (by decide) rfl ?_
  refine zr_iload_n X dX11_goes_14 4 rfl ?_
  have hJ28 : ∀ (a1 : Int32), zw2 (fM_goes_j28 p1 p2 m a1) P → zv_V S D cA p l e (zv_rm d 0 0) s mi args below meth c 9 (MQ below (zv_Q S D cA (zq_i SH0 P)) args s 0 0 (zv_fr S)) 0 0 28 [(0, .ref (S.heap.size + 68)), (1, .int p1), (2, .int p2), (3, .int a1), (4, .int ((m.1 68 1) * (m.1 68 1)))] [] SH0 m := by
    intro a1 h
    rw [fM_goes_j28] at h
    refine zr_iconst (v := 0) X dX11_goes_28 (by decide) ?_
    refine zr_istore (lo' := [(5, .int 0), (0, .ref (S.heap.size + 68)), (1, .int p1), (2, .int p2), (3, .int a1), (4, .int ((m.1 68 1) * (m.1 68 1)))]) X dX11_goes_29 (by decide) rfl ?_
    refine zr_sub [1, 2, 3, 4, 5, 0] rfl ?_
    have hR2 : ∀ (a5 : Int32), zw2 (if a5 < 0 then some (0, wI m 68 38 a5) else some (1, wI m 68 38 a5) : Option (Int32 × zv_M)) P → zv_V S D cA p l e (zv_rm d 0 0) s mi args below meth c 9 (MQ below (zv_Q S D cA (zq_i SH0 P)) args s 0 0 (zv_fr S)) 0 0 243 [(0, .ref (S.heap.size + 68)), (3, .int a5)] [] SH0 m := by
      intro a5 h
      refine zr_aload_n X dX11_goes_243 0 rfl ?_
      refine zr_iload_n X dX11_goes_244 1 rfl ?_
      refine zr_put X dX11_goes_245 zd_X11_127 rfl rfl rfl zo_68 (by rw [zk_11 zo_68]; decide) ?_
      refine zr_iload_n X dX11_goes_248 1 rfl ?_
      refine zr_if_lt (tgt := 256) X dX11_goes_249 (by decide) (fun q => ?_) (fun q => ?_)
      · rw [if_pos q] at h
        refine zr_iconst (v := 0) X dX11_goes_256 (by decide) ?_
        exact zr_iret X dX11_goes_257 rfl ⟨Nat.le_refl _, Nat.le_refl _⟩ ⟨rfl, _, rfl, h⟩
      · rw [if_neg q] at h
        refine zr_iconst (v := 1) X dX11_goes_252 (by decide) ?_
        refine zr_goto (tgt := 257) X dX11_goes_253 (by decide) ?_
        exact zr_iret X dX11_goes_257 rfl ⟨Nat.le_refl _, Nat.le_refl _⟩ ⟨rfl, _, rfl, h⟩
    refine zl_w2 (fun a3 a4 => zv_V S D cA p l e (zv_rm d 0 0) s mi args below meth c 9 (MQ below (zv_Q S D cA (zq_i SH0 P)) args s 0 0 (zv_fr S)) 0 0 31 [(0, .ref (S.heap.size + 68)), (1, .int p1), (2, .int p2), (3, .int a3), (4, .int ((m.1 68 1) * (m.1 68 1))), (5, .int a4)] [] SH0 m) (fM_goes_l31 p1 p2 m) _ (fun P2 hl2 hr2 a3 a4 h => ?_) zFU a1 0 (zw_b12 h)
    rw [fM_goes_l31] at h
    refine zr_iload X dX11_goes_31 5 rfl ?_
    refine zr_iload X dX11_goes_33 4 rfl ?_
    refine zr_icmp_ge (tgt := 243) X dX11_goes_35 (by decide) (fun q => ?_) (fun q => ?_)
    · rw [if_neg q] at h
      have h := hr2 _ h
      exact zr_sub [0, 3] rfl (hR2 a3 h)
    · rw [if_pos q] at h
      refine zr_iload_n X dX11_goes_38 2 rfl ?_
      refine zr_if_le (tgt := 243) X dX11_goes_39 (by decide) (fun q => ?_) (fun q => ?_)
      · rw [if_neg q] at h
        have h := hr2 _ h
        exact zr_sub [0, 3] rfl (hR2 a3 h)
      · rw [if_pos q] at h
        refine zr_aload_n X dX11_goes_42 0 rfl ?_
        refine zr_iload_n X dX11_goes_43 1 rfl ?_
        refine zr_iload X dX11_goes_44 5 rfl ?_
        refine zr_callV_i (As := [.int p1, .int a4]) (st := []) (d := d - 1) X dX11_goes_46 wm_X11_323 my_X11_has mv_X11_has zo_68 rfl (Nat.le_of_ble_eq_true rfl) (zRm (by omega)) ⟨Nat.le_refl _, Nat.le_refl _⟩ (x_fM_has hG (d - 1) (by omega) p1 a4 m _ (zw_b1 h)) (fun r6 m7 q => ?_)
        obtain ⟨rfl, h⟩ := q
        have hJ237 : ∀ (a8 : Int32), zw (fM_goes_j237 a4 a8) P2 → zv_V S D cA p l e (zv_rm d 0 0) s mi args below meth c 9 (MQ below (zv_Q S D cA (zq_i SH0 P)) args s 0 0 (zv_fr S)) 0 0 237 [(0, .ref (S.heap.size + 68)), (1, .int p1), (2, .int p2), (3, .int a8), (4, .int ((m.1 68 1) * (m.1 68 1))), (5, .int a4)] [] SH0 m := by
          intro a8 h
          rw [fM_goes_j237] at h
          refine zr_iinc (v := a4 + 1) (lo' := [(5, .int (a4 + 1)), (0, .ref (S.heap.size + 68)), (1, .int p1), (2, .int p2), (3, .int a8), (4, .int ((m.1 68 1) * (m.1 68 1)))]) X dX11_goes_237 5 rfl rfl (by decide) rfl ?_
          refine zr_goto (tgt := 31) X dX11_goes_240 (by decide) ?_
          have h := hl2 _ h
          exact zr_sub [1, 2, 3, 4, 5, 0] rfl h
        refine zr_if_ne (tgt := 55) X dX11_goes_49 (by decide) (fun q => ?_) (fun q => ?_)
        · rw [if_neg q] at h
          refine zr_iload_n X dX11_goes_55 2 rfl ?_
          refine zr_iconst (v := 1) X dX11_goes_56 (by decide) ?_
          refine zr_icmp_ne (tgt := 74) X dX11_goes_57 (by decide) (fun q => ?_) (fun q => ?_)
          · rw [if_neg q] at h
            refine zr_iconst (v := 0) X dX11_goes_74 (by decide) ?_
            refine zr_istore (lo' := [(6, .int 0), (0, .ref (S.heap.size + 68)), (1, .int p1), (2, .int p2), (3, .int a3), (4, .int ((m.1 68 1) * (m.1 68 1))), (5, .int a4)]) X dX11_goes_75 (by decide) rfl ?_
            refine zr_sub [1, 2, 3, 4, 5, 6, 0] rfl ?_
            have hR9 : ∀ (a12 : Int32), zw (fM_goes_j237 a4 a12 : Option ((Int32 × Int32) ⊕ (Int32))) P2 → zv_V S D cA p l e (zv_rm d 0 0) s mi args below meth c 9 (MQ below (zv_Q S D cA (zq_i SH0 P)) args s 0 0 (zv_fr S)) 0 0 237 [(0, .ref (S.heap.size + 68)), (1, .int p1), (2, .int p2), (3, .int a12), (4, .int ((m.1 68 1) * (m.1 68 1))), (5, .int a4)] [] SH0 m := by
              intro a12 h
              exact zr_sub [0, 1, 2, 3, 4, 5] rfl (hJ237 a12 h)
            refine zl_w2 (fun a10 a11 => zv_V S D cA p l e (zv_rm d 0 0) s mi args below meth c 9 (MQ below (zv_Q S D cA (zq_i SH0 P)) args s 0 0 (zv_fr S)) 0 0 77 [(0, .ref (S.heap.size + 68)), (1, .int p1), (2, .int p2), (3, .int a10), (4, .int ((m.1 68 1) * (m.1 68 1))), (5, .int a4), (6, .int a11)] [] SH0 m) (fM_goes_l77 p1 p2 m a4) _ (fun P9 hl9 hr9 a10 a11 h => ?_) zFU a3 0 (zw_b1 h)
            rw [fM_goes_l77] at h
            refine zr_iload X dX11_goes_77 6 rfl ?_
            refine zr_iload X dX11_goes_79 5 rfl ?_
            refine zr_icmp_ge (tgt := 237) X dX11_goes_81 (by decide) (fun q => ?_) (fun q => ?_)
            · rw [if_neg q] at h
              have h := hr9 _ h
              exact zr_sub [0, 1, 2, 3, 4, 5] rfl (hR9 a10 h)
            · rw [if_pos q] at h
              refine zr_aload_n X dX11_goes_84 0 rfl ?_
              refine zr_iload_n X dX11_goes_85 1 rfl ?_
              refine zr_iload X dX11_goes_86 6 rfl ?_
              refine zr_callV_i (As := [.int p1, .int a11]) (st := []) (d := d - 1) X dX11_goes_88 wm_X11_323 my_X11_has mv_X11_has zo_68 rfl (Nat.le_of_ble_eq_true rfl) (zRm (by omega)) ⟨Nat.le_refl _, Nat.le_refl _⟩ (x_fM_has hG (d - 1) (by omega) p1 a11 m _ (zw_b1 h)) (fun r13 m14 q => ?_)
              obtain ⟨rfl, h⟩ := q
              have hJ231 : ∀ (a15 : Int32), zw (fM_goes_j231 a11 a15) P9 → zv_V S D cA p l e (zv_rm d 0 0) s mi args below meth c 9 (MQ below (zv_Q S D cA (zq_i SH0 P)) args s 0 0 (zv_fr S)) 0 0 231 [(0, .ref (S.heap.size + 68)), (1, .int p1), (2, .int p2), (3, .int a15), (4, .int ((m.1 68 1) * (m.1 68 1))), (5, .int a4), (6, .int a11)] [] SH0 m := by
                intro a15 h
                rw [fM_goes_j231] at h
                refine zr_iinc (v := a11 + 1) (lo' := [(6, .int (a11 + 1)), (0, .ref (S.heap.size + 68)), (1, .int p1), (2, .int p2), (3, .int a15), (4, .int ((m.1 68 1) * (m.1 68 1))), (5, .int a4)]) X dX11_goes_231 6 rfl rfl (by decide) rfl ?_
                refine zr_goto (tgt := 77) X dX11_goes_234 (by decide) ?_
                have h := hl9 _ h
                exact zr_sub [1, 2, 3, 4, 5, 6, 0] rfl h
              refine zr_if_ne (tgt := 97) X dX11_goes_91 (by decide) (fun q => ?_) (fun q => ?_)
              · rw [if_neg q] at h
                refine zr_iload_n X dX11_goes_97 2 rfl ?_
                refine zr_iconst (v := 2) X dX11_goes_98 (by decide) ?_
                refine zr_icmp_ne (tgt := 121) X dX11_goes_99 (by decide) (fun q => ?_) (fun q => ?_)
                · rw [if_neg q] at h
                  refine zr_iconst (v := 0) X dX11_goes_121 (by decide) ?_
                  refine zr_istore (lo' := [(7, .int 0), (0, .ref (S.heap.size + 68)), (1, .int p1), (2, .int p2), (3, .int a10), (4, .int ((m.1 68 1) * (m.1 68 1))), (5, .int a4), (6, .int a11)]) X dX11_goes_122 (by decide) rfl ?_
                  refine zr_sub [1, 2, 3, 4, 5, 6, 7, 0] rfl ?_
                  have hR16 : ∀ (a19 : Int32), zw (fM_goes_j231 a11 a19 : Option ((Int32 × Int32) ⊕ (Int32))) P9 → zv_V S D cA p l e (zv_rm d 0 0) s mi args below meth c 9 (MQ below (zv_Q S D cA (zq_i SH0 P)) args s 0 0 (zv_fr S)) 0 0 231 [(0, .ref (S.heap.size + 68)), (1, .int p1), (2, .int p2), (3, .int a19), (4, .int ((m.1 68 1) * (m.1 68 1))), (5, .int a4), (6, .int a11)] [] SH0 m := by
                    intro a19 h
                    exact zr_sub [0, 1, 2, 3, 4, 5, 6] rfl (hJ231 a19 h)
                  refine zl_w2 (fun a17 a18 => zv_V S D cA p l e (zv_rm d 0 0) s mi args below meth c 9 (MQ below (zv_Q S D cA (zq_i SH0 P)) args s 0 0 (zv_fr S)) 0 0 124 [(0, .ref (S.heap.size + 68)), (1, .int p1), (2, .int p2), (3, .int a17), (4, .int ((m.1 68 1) * (m.1 68 1))), (5, .int a4), (6, .int a11), (7, .int a18)] [] SH0 m) (fM_goes_l124 p1 p2 m a4 a11) _ (fun P16 hl16 hr16 a17 a18 h => ?_) zFU a10 0 (zw_b1 h)
                  rw [fM_goes_l124] at h
                  refine zr_iload X dX11_goes_124 7 rfl ?_
                  refine zr_iload X dX11_goes_126 6 rfl ?_
                  refine zr_icmp_ge (tgt := 231) X dX11_goes_128 (by decide) (fun q => ?_) (fun q => ?_)
                  · rw [if_neg q] at h
                    have h := hr16 _ h
                    exact zr_sub [0, 1, 2, 3, 4, 5, 6] rfl (hR16 a17 h)
                  · rw [if_pos q] at h
                    refine zr_aload_n X dX11_goes_131 0 rfl ?_
                    refine zr_iload_n X dX11_goes_132 1 rfl ?_
                    refine zr_iload X dX11_goes_133 7 rfl ?_
                    refine zr_callV_i (As := [.int p1, .int a18]) (st := []) (d := d - 1) X dX11_goes_135 wm_X11_323 my_X11_has mv_X11_has zo_68 rfl (Nat.le_of_ble_eq_true rfl) (zRm (by omega)) ⟨Nat.le_refl _, Nat.le_refl _⟩ (x_fM_has hG (d - 1) (by omega) p1 a18 m _ (zw_b1 h)) (fun r20 m21 q => ?_)
                    obtain ⟨rfl, h⟩ := q
                    have hJ225 : ∀ (a22 : Int32), zw (fM_goes_j225 a18 a22) P16 → zv_V S D cA p l e (zv_rm d 0 0) s mi args below meth c 9 (MQ below (zv_Q S D cA (zq_i SH0 P)) args s 0 0 (zv_fr S)) 0 0 225 [(0, .ref (S.heap.size + 68)), (1, .int p1), (2, .int p2), (3, .int a22), (4, .int ((m.1 68 1) * (m.1 68 1))), (5, .int a4), (6, .int a11), (7, .int a18)] [] SH0 m := by
                      intro a22 h
                      rw [fM_goes_j225] at h
                      refine zr_iinc (v := a18 + 1) (lo' := [(7, .int (a18 + 1)), (0, .ref (S.heap.size + 68)), (1, .int p1), (2, .int p2), (3, .int a22), (4, .int ((m.1 68 1) * (m.1 68 1))), (5, .int a4), (6, .int a11)]) X dX11_goes_225 7 rfl rfl (by decide) rfl ?_
                      refine zr_goto (tgt := 124) X dX11_goes_228 (by decide) ?_
                      have h := hl16 _ h
                      exact zr_sub [1, 2, 3, 4, 5, 6, 7, 0] rfl h
                    refine zr_if_ne (tgt := 144) X dX11_goes_138 (by decide) (fun q => ?_) (fun q => ?_)
                    · rw [if_neg q] at h
                      refine zr_iload_n X dX11_goes_144 2 rfl ?_
                      refine zr_iconst (v := 3) X dX11_goes_145 (by decide) ?_
                      refine zr_icmp_ne (tgt := 173) X dX11_goes_146 (by decide) (fun q => ?_) (fun q => ?_)
                      · rw [if_neg q] at h
                        refine zr_iconst (v := 0) X dX11_goes_173 (by decide) ?_
                        refine zr_istore (lo' := [(8, .int 0), (0, .ref (S.heap.size + 68)), (1, .int p1), (2, .int p2), (3, .int a17), (4, .int ((m.1 68 1) * (m.1 68 1))), (5, .int a4), (6, .int a11), (7, .int a18)]) X dX11_goes_174 (by decide) rfl ?_
                        refine zr_sub [1, 2, 3, 4, 5, 6, 7, 8, 0] rfl ?_
                        have hR23 : ∀ (a26 : Int32), zw (fM_goes_j225 a18 a26 : Option ((Int32 × Int32) ⊕ (Int32))) P16 → zv_V S D cA p l e (zv_rm d 0 0) s mi args below meth c 9 (MQ below (zv_Q S D cA (zq_i SH0 P)) args s 0 0 (zv_fr S)) 0 0 225 [(0, .ref (S.heap.size + 68)), (1, .int p1), (2, .int p2), (3, .int a26), (4, .int ((m.1 68 1) * (m.1 68 1))), (5, .int a4), (6, .int a11), (7, .int a18)] [] SH0 m := by
                          intro a26 h
                          exact zr_sub [0, 1, 2, 3, 4, 5, 6, 7] rfl (hJ225 a26 h)
                        refine zl_w2 (fun a24 a25 => zv_V S D cA p l e (zv_rm d 0 0) s mi args below meth c 9 (MQ below (zv_Q S D cA (zq_i SH0 P)) args s 0 0 (zv_fr S)) 0 0 176 [(0, .ref (S.heap.size + 68)), (1, .int p1), (2, .int p2), (3, .int a24), (4, .int ((m.1 68 1) * (m.1 68 1))), (5, .int a4), (6, .int a11), (7, .int a18), (8, .int a25)] [] SH0 m) (fM_goes_l176 p1 m a4 a11 a18) _ (fun P23 hl23 hr23 a24 a25 h => ?_) zFU a17 0 (zw_b1 h)
                        rw [fM_goes_l176] at h
                        refine zr_iload X dX11_goes_176 8 rfl ?_
                        refine zr_iload X dX11_goes_178 7 rfl ?_
                        refine zr_icmp_ge (tgt := 225) X dX11_goes_180 (by decide) (fun q => ?_) (fun q => ?_)
                        · rw [if_neg q] at h
                          have h := hr23 _ h
                          exact zr_sub [0, 1, 2, 3, 4, 5, 6, 7] rfl (hR23 a24 h)
                        · rw [if_pos q] at h
                          refine zr_aload_n X dX11_goes_183 0 rfl ?_
                          refine zr_iload_n X dX11_goes_184 1 rfl ?_
                          refine zr_iload X dX11_goes_185 8 rfl ?_
                          refine zr_callV_i (As := [.int p1, .int a25]) (st := []) (d := d - 1) X dX11_goes_187 wm_X11_323 my_X11_has mv_X11_has zo_68 rfl (Nat.le_of_ble_eq_true rfl) (zRm (by omega)) ⟨Nat.le_refl _, Nat.le_refl _⟩ (x_fM_has hG (d - 1) (by omega) p1 a25 m _ (zw_b1 h)) (fun r27 m28 q => ?_)
                          obtain ⟨rfl, h⟩ := q
                          have hJ219 : ∀ (a29 : Int32), zw (fM_goes_j219 a25 a29) P23 → zv_V S D cA p l e (zv_rm d 0 0) s mi args below meth c 9 (MQ below (zv_Q S D cA (zq_i SH0 P)) args s 0 0 (zv_fr S)) 0 0 219 [(0, .ref (S.heap.size + 68)), (1, .int p1), (2, .int p2), (3, .int a29), (4, .int ((m.1 68 1) * (m.1 68 1))), (5, .int a4), (6, .int a11), (7, .int a18), (8, .int a25)] [] SH0 m := by
                            intro a29 h
                            rw [fM_goes_j219] at h
                            refine zr_iinc (v := a25 + 1) (lo' := [(8, .int (a25 + 1)), (0, .ref (S.heap.size + 68)), (1, .int p1), (2, .int p2), (3, .int a29), (4, .int ((m.1 68 1) * (m.1 68 1))), (5, .int a4), (6, .int a11), (7, .int a18)]) X dX11_goes_219 8 rfl rfl (by decide) rfl ?_
                            refine zr_goto (tgt := 176) X dX11_goes_222 (by decide) ?_
                            have h := hl23 _ h
                            exact zr_sub [1, 2, 3, 4, 5, 6, 7, 8, 0] rfl h
                          refine zr_if_eq (tgt := 219) X dX11_goes_190 (by decide) (fun q => ?_) (fun q => ?_)
                          · rw [if_pos q] at h
                            exact zr_sub [0, 1, 2, 3, 4, 5, 6, 7, 8] rfl (hJ219 a24 h)
                          · rw [if_neg q] at h
                            refine zr_aload_n X dX11_goes_193 0 rfl ?_
                            refine zr_iload_n X dX11_goes_194 1 rfl ?_
                            refine zr_iconst (v := 1) X dX11_goes_195 (by decide) ?_
                            refine zr_iload X dX11_goes_196 5 rfl ?_
                            refine zr_ishl X dX11_goes_198 ?_
                            refine zr_iconst (v := 1) X dX11_goes_199 (by decide) ?_
                            refine zr_iload X dX11_goes_200 6 rfl ?_
                            refine zr_ishl X dX11_goes_202 ?_
                            refine zr_ior X dX11_goes_203 ?_
                            refine zr_iconst (v := 1) X dX11_goes_204 (by decide) ?_
                            refine zr_iload X dX11_goes_205 7 rfl ?_
                            refine zr_ishl X dX11_goes_207 ?_
                            refine zr_ior X dX11_goes_208 ?_
                            refine zr_iconst (v := 1) X dX11_goes_209 (by decide) ?_
                            refine zr_iload X dX11_goes_210 8 rfl ?_
                            refine zr_ishl X dX11_goes_212 ?_
                            refine zr_ior X dX11_goes_213 ?_
                            refine zr_iload_n X dX11_goes_214 3 rfl ?_
                            refine zr_callV_i (As := [.int p1, .int ((((1 <<< (a4 &&& 31)) ||| (1 <<< (a11 &&& 31))) ||| (1 <<< (a18 &&& 31))) ||| (1 <<< (a25 &&& 31))), .int a24]) (st := []) (d := d - 1) X dX11_goes_215 wm_X11_393 my_X11_gone mv_X11_gone zo_68 rfl (Nat.le_of_ble_eq_true rfl) (zRm (by omega)) ⟨Nat.le_refl _, Nat.le_refl _⟩ (x_fM_gone hG (d - 1) (by omega) p1 ((((1 <<< (a4 &&& 31)) ||| (1 <<< (a11 &&& 31))) ||| (1 <<< (a18 &&& 31))) ||| (1 <<< (a25 &&& 31))) a24 m _ (zw_b1 h)) (fun r30 m31 q => ?_)
                            obtain ⟨rfl, h⟩ := q
                            refine zr_istore_n (lo' := [(3, .int r30), (0, .ref (S.heap.size + 68)), (1, .int p1), (2, .int p2), (4, .int ((m.1 68 1) * (m.1 68 1))), (5, .int a4), (6, .int a11), (7, .int a18), (8, .int a25)]) X dX11_goes_218 (by decide) rfl ?_
                            exact zr_sub [1, 2, 3, 0, 4, 5, 6, 7, 8] rfl (hJ219 r30 h)
                      · rw [if_pos q] at h
                        refine zr_aload_n X dX11_goes_149 0 rfl ?_
                        refine zr_iload_n X dX11_goes_150 1 rfl ?_
                        refine zr_iconst (v := 1) X dX11_goes_151 (by decide) ?_
                        refine zr_iload X dX11_goes_152 5 rfl ?_
                        refine zr_ishl X dX11_goes_154 ?_
                        refine zr_iconst (v := 1) X dX11_goes_155 (by decide) ?_
                        refine zr_iload X dX11_goes_156 6 rfl ?_
                        refine zr_ishl X dX11_goes_158 ?_
                        refine zr_ior X dX11_goes_159 ?_
                        refine zr_iconst (v := 1) X dX11_goes_160 (by decide) ?_
                        refine zr_iload X dX11_goes_161 7 rfl ?_
                        refine zr_ishl X dX11_goes_163 ?_
                        refine zr_ior X dX11_goes_164 ?_
                        refine zr_iload_n X dX11_goes_165 3 rfl ?_
                        refine zr_callV_i (As := [.int p1, .int (((1 <<< (a4 &&& 31)) ||| (1 <<< (a11 &&& 31))) ||| (1 <<< (a18 &&& 31))), .int a17]) (st := []) (d := d - 1) X dX11_goes_166 wm_X11_393 my_X11_gone mv_X11_gone zo_68 rfl (Nat.le_of_ble_eq_true rfl) (zRm (by omega)) ⟨Nat.le_refl _, Nat.le_refl _⟩ (x_fM_gone hG (d - 1) (by omega) p1 (((1 <<< (a4 &&& 31)) ||| (1 <<< (a11 &&& 31))) ||| (1 <<< (a18 &&& 31))) a17 m _ (zw_b1 h)) (fun r32 m33 q => ?_)
                        obtain ⟨rfl, h⟩ := q
                        refine zr_istore_n (lo' := [(3, .int r32), (0, .ref (S.heap.size + 68)), (1, .int p1), (2, .int p2), (4, .int ((m.1 68 1) * (m.1 68 1))), (5, .int a4), (6, .int a11), (7, .int a18)]) X dX11_goes_169 (by decide) rfl ?_
                        refine zr_goto (tgt := 225) X dX11_goes_170 (by decide) ?_
                        exact zr_sub [1, 2, 3, 0, 4, 5, 6, 7] rfl (hJ225 r32 h)
                    · rw [if_pos q] at h
                      refine zr_goto (tgt := 225) X dX11_goes_141 (by decide) ?_
                      exact zr_sub [0, 1, 2, 3, 4, 5, 6, 7] rfl (hJ225 a17 h)
                · rw [if_pos q] at h
                  refine zr_aload_n X dX11_goes_102 0 rfl ?_
                  refine zr_iload_n X dX11_goes_103 1 rfl ?_
                  refine zr_iconst (v := 1) X dX11_goes_104 (by decide) ?_
                  refine zr_iload X dX11_goes_105 5 rfl ?_
                  refine zr_ishl X dX11_goes_107 ?_
                  refine zr_iconst (v := 1) X dX11_goes_108 (by decide) ?_
                  refine zr_iload X dX11_goes_109 6 rfl ?_
                  refine zr_ishl X dX11_goes_111 ?_
                  refine zr_ior X dX11_goes_112 ?_
                  refine zr_iload_n X dX11_goes_113 3 rfl ?_
                  refine zr_callV_i (As := [.int p1, .int ((1 <<< (a4 &&& 31)) ||| (1 <<< (a11 &&& 31))), .int a10]) (st := []) (d := d - 1) X dX11_goes_114 wm_X11_393 my_X11_gone mv_X11_gone zo_68 rfl (Nat.le_of_ble_eq_true rfl) (zRm (by omega)) ⟨Nat.le_refl _, Nat.le_refl _⟩ (x_fM_gone hG (d - 1) (by omega) p1 ((1 <<< (a4 &&& 31)) ||| (1 <<< (a11 &&& 31))) a10 m _ (zw_b1 h)) (fun r34 m35 q => ?_)
                  obtain ⟨rfl, h⟩ := q
                  refine zr_istore_n (lo' := [(3, .int r34), (0, .ref (S.heap.size + 68)), (1, .int p1), (2, .int p2), (4, .int ((m.1 68 1) * (m.1 68 1))), (5, .int a4), (6, .int a11)]) X dX11_goes_117 (by decide) rfl ?_
                  refine zr_goto (tgt := 231) X dX11_goes_118 (by decide) ?_
                  exact zr_sub [1, 2, 3, 0, 4, 5, 6] rfl (hJ231 r34 h)
              · rw [if_pos q] at h
                refine zr_goto (tgt := 231) X dX11_goes_94 (by decide) ?_
                exact zr_sub [0, 1, 2, 3, 4, 5, 6] rfl (hJ231 a10 h)
          · rw [if_pos q] at h
            refine zr_aload_n X dX11_goes_60 0 rfl ?_
            refine zr_iload_n X dX11_goes_61 1 rfl ?_
            refine zr_iconst (v := 1) X dX11_goes_62 (by decide) ?_
            refine zr_iload X dX11_goes_63 5 rfl ?_
            refine zr_ishl X dX11_goes_65 ?_
            refine zr_iload_n X dX11_goes_66 3 rfl ?_
            refine zr_callV_i (As := [.int p1, .int (1 <<< (a4 &&& 31)), .int a3]) (st := []) (d := d - 1) X dX11_goes_67 wm_X11_393 my_X11_gone mv_X11_gone zo_68 rfl (Nat.le_of_ble_eq_true rfl) (zRm (by omega)) ⟨Nat.le_refl _, Nat.le_refl _⟩ (x_fM_gone hG (d - 1) (by omega) p1 (1 <<< (a4 &&& 31)) a3 m _ (zw_b1 h)) (fun r36 m37 q => ?_)
            obtain ⟨rfl, h⟩ := q
            refine zr_istore_n (lo' := [(3, .int r36), (0, .ref (S.heap.size + 68)), (1, .int p1), (2, .int p2), (4, .int ((m.1 68 1) * (m.1 68 1))), (5, .int a4)]) X dX11_goes_70 (by decide) rfl ?_
            refine zr_goto (tgt := 237) X dX11_goes_71 (by decide) ?_
            exact zr_sub [1, 2, 3, 0, 4, 5] rfl (hJ237 r36 h)
        · rw [if_pos q] at h
          refine zr_goto (tgt := 237) X dX11_goes_52 (by decide) ?_
          exact zr_sub [0, 1, 2, 3, 4, 5] rfl (hJ237 a3 h)
  refine zr_if_ne (tgt := 28) X dX11_goes_15 (by decide) (fun q => ?_) (fun q => ?_)
  · rw [if_neg q] at h
    exact zr_sub [2, 3, 4, 1, 0] rfl (hJ28 (-5) h)
  · rw [if_pos q] at h
    refine zr_aload_n X dX11_goes_18 2 rfl ?_
    refine zr_iload_n X dX11_goes_19 3 rfl ?_
    refine zr_callV_i (As := [.int p1]) (st := []) (d := d - 1) X dX11_goes_20 wm_X11_390 my_X11_isPeaceOf mv_X11_isPeaceOf zo_68 rfl (Nat.le_of_ble_eq_true rfl) (zRm (by omega)) ⟨Nat.le_refl _, Nat.le_refl _⟩ (x_fM_isPeaceOf hG (d - 1) (by omega) p1 m _ (zw_b12 h)) (fun r38 m39 q => ?_)
    obtain ⟨rfl, h⟩ := q
    refine zr_if_eq (tgt := 28) X dX11_goes_23 (by decide) (fun q => ?_) (fun q => ?_)
    · rw [if_pos q] at h
      exact zr_sub [2, 3, 4, 1, 0] rfl (hJ28 (-5) h)
    · rw [if_neg q] at h
      refine zr_iconst (v := 0) X dX11_goes_26 (by decide) ?_
      refine zr_istore_n (lo' := [(3, .int 0), (4, .int ((m.1 68 1) * (m.1 68 1))), (0, .ref (S.heap.size + 68)), (1, .int p1), (2, .int p2)]) X dX11_goes_27 (by decide) rfl ?_
      exact zr_sub [2, 3, 4, 0, 1] rfl (hJ28 0 h)

set_option maxRecDepth 100000 in
set_option maxHeartbeats 4000000 in
theorem x_fM_right {l : Launch} {S : State} {D : va_G} {cA : Nat → ClassId} {tb sx : Nat → Nat} (hG : zv_G S D cA tb sx) (d : Nat) (hd : 8 ≤ d) (p1 : Int32) (m : zv_M) (P : Int32 → zv_M → Prop) (h : zw2 (fM_right p1 m) P) : zv_Met l S D cA d 0 0 yX11_right cX11_right 4 (some .int) [.ref (S.heap.size + 68), .int p1] SH0 m (zq_i SH0 P) := by
  refine zv_met false hG pf_X11_right (fun z => by cases z) (Nat.le_of_ble_eq_true rfl) [(0, .ref (S.heap.size + 68)), (1, .int p1)] rfl (fun p e s mi args below meth c X => ?_)
  rw [fM_right] at h
  refine zr_aload_n X dX11_right_0 0 rfl ?_
  refine zr_iload_n X dX11_right_1 1 rfl ?_
  refine zr_iconst (v := 0) X dX11_right_2 (by decide) ?_
  refine zr_iconst (v := 1) X dX11_right_3 (by decide) ?_
  refine zr_callV_i (As := [.int p1, .int 0, .int 1]) (st := []) (d := d - 1) X dX11_right_4 wm_X11_230 my_X11_in mv_X11_in zo_68 rfl (Nat.le_of_ble_eq_true rfl) (zRm (by omega)) ⟨Nat.le_refl _, Nat.le_refl _⟩ (x_fM_in hG (d - 1) (by omega) p1 0 1 m _ (zw_b12 h)) (fun r1 m2 q => ?_)
  obtain ⟨rfl, h⟩ := q
  refine zr_if_ne (tgt := 12) X dX11_right_7 (by decide) (fun q => ?_) (fun q => ?_)
  · rw [if_neg q] at h
    refine zr_iconst (v := 0) X dX11_right_12 (by decide) ?_
    refine zr_istore_n (lo' := [(2, .int 0), (0, .ref (S.heap.size + 68)), (1, .int p1)]) X dX11_right_13 (by decide) rfl ?_
    refine zr_sub [1, 2, 0] rfl ?_
    have hR3 : ∀ (m6 : zv_M), zw2 (zb1 (fM_men m6) (fun r7 => zb1 (whileN zFU (fM_right_l64 r7) (0, m6)) (fun x => match x with | .inl (a12, m13) => if p1 = 0 then some (a12, m13) else some (m13.1 68 38, m13) | .inr r => some r)) : Option (Int32 × zv_M)) P → zv_V S D cA p l e (zv_rm d 0 0) s mi args below meth c 4 (MQ below (zv_Q S D cA (zq_i SH0 P)) args s 0 0 (zv_fr S)) 0 0 57 [(0, .ref (S.heap.size + 68)), (1, .int p1)] [] SH0 m6 := by
      intro m6 h
      refine zr_aload_n X dX11_right_57 0 rfl ?_
      refine zr_callV_i (As := []) (st := []) (d := d - 1) X dX11_right_58 wm_X11_238 my_X11_men mv_X11_men zo_68 rfl (Nat.le_of_ble_eq_true rfl) (zRm (by omega)) ⟨Nat.le_refl _, Nat.le_refl _⟩ (x_fM_men hG (d - 1) (by omega) m6 _ (zw_b12 h)) (fun r7 m8 q => ?_)
      obtain ⟨rfl, h⟩ := q
      refine zr_istore_n (lo' := [(2, .int r7), (0, .ref (S.heap.size + 68)), (1, .int p1)]) X dX11_right_61 (by decide) rfl ?_
      refine zr_iconst (v := 0) X dX11_right_62 (by decide) ?_
      refine zr_istore_n (lo' := [(3, .int 0), (2, .int r7), (0, .ref (S.heap.size + 68)), (1, .int p1)]) X dX11_right_63 (by decide) rfl ?_
      refine zr_sub [2, 3, 1, 0] rfl ?_
      have hR9 : ∀ (a12 : Int32) (m13 : zv_M), zw2 (if p1 = 0 then some (a12, m13) else some (m13.1 68 38, m13) : Option (Int32 × zv_M)) P → zv_V S D cA p l e (zv_rm d 0 0) s mi args below meth c 4 (MQ below (zv_Q S D cA (zq_i SH0 P)) args s 0 0 (zv_fr S)) 0 0 78 [(0, .ref (S.heap.size + 68)), (1, .int p1), (3, .int a12)] [] SH0 m13 := by
        intro a12 m13 h
        refine zr_iload_n X dX11_right_78 1 rfl ?_
        refine zr_if_ne (tgt := 86) X dX11_right_79 (by decide) (fun q => ?_) (fun q => ?_)
        · rw [if_neg q] at h
          refine zr_aload_n X dX11_right_86 0 rfl ?_
          refine zr_getI X dX11_right_87 zd_X11_127 rfl zo_68 (by rw [zk_11 zo_68]; decide) ?_
          exact zr_iret X dX11_right_90 rfl ⟨Nat.le_refl _, Nat.le_refl _⟩ ⟨rfl, _, rfl, h⟩
        · rw [if_pos q] at h
          refine zr_iload_n X dX11_right_82 2 rfl ?_
          refine zr_goto (tgt := 90) X dX11_right_83 (by decide) ?_
          exact zr_iret X dX11_right_90 rfl ⟨Nat.le_refl _, Nat.le_refl _⟩ ⟨rfl, _, rfl, h⟩
      refine zl_w2 (fun a10 m11 => zv_V S D cA p l e (zv_rm d 0 0) s mi args below meth c 4 (MQ below (zv_Q S D cA (zq_i SH0 P)) args s 0 0 (zv_fr S)) 0 0 64 [(0, .ref (S.heap.size + 68)), (1, .int p1), (2, .int r7), (3, .int a10)] [] SH0 m11) (fM_right_l64 r7) _ (fun P9 hl9 hr9 a10 m11 h => ?_) zFU 0 m6 (zw_b12 h)
      rw [fM_right_l64] at h
      refine zr_iload_n X dX11_right_64 3 rfl ?_
      refine zr_iconst (v := 5) X dX11_right_65 (by decide) ?_
      refine zr_icmp_ge (tgt := 97) X dX11_right_66 (by decide) (fun q => ?_) (fun q => ?_)
      · rw [if_neg q] at h
        refine zr_bipush (v := (-5)) X dX11_right_97 (by decide) ?_
        have h := hr9 _ h
        exact zr_iret X dX11_right_99 rfl ⟨Nat.le_refl _, Nat.le_refl _⟩ ⟨rfl, _, rfl, h⟩
      · rw [if_pos q] at h
        refine zr_aload_n X dX11_right_69 0 rfl ?_
        refine zr_iload_n X dX11_right_70 2 rfl ?_
        refine zr_iload_n X dX11_right_71 3 rfl ?_
        refine zr_callV_i (As := [.int r7, .int a10]) (st := []) (d := d - 1) X dX11_right_72 wm_X11_396 my_X11_goes mv_X11_goes zo_68 rfl (Nat.le_of_ble_eq_true rfl) (zRm (by omega)) ⟨Nat.le_refl _, Nat.le_refl _⟩ (x_fM_goes hG (d - 1) (by omega) r7 a10 m11 _ (zw_b2 h)) (fun r14 m15 q => ?_)
        replace h := q
        refine zr_if_eq (tgt := 91) X dX11_right_75 (by decide) (fun q => ?_) (fun q => ?_)
        · rw [if_pos q] at h
          refine zr_iinc (v := a10 + 1) (lo' := [(3, .int (a10 + 1)), (0, .ref (S.heap.size + 68)), (1, .int p1), (2, .int r7)]) X dX11_right_91 3 rfl rfl (by decide) rfl ?_
          refine zr_goto (tgt := 64) X dX11_right_94 (by decide) ?_
          have h := hl9 _ h
          exact zr_sub [1, 2, 3, 0] rfl h
        · rw [if_neg q] at h
          have h := hr9 _ h
          exact zr_sub [0, 1, 3] rfl (hR9 a10 m15 h)
    refine zl_w2 (fun a4 m5 => zv_V S D cA p l e (zv_rm d 0 0) s mi args below meth c 4 (MQ below (zv_Q S D cA (zq_i SH0 P)) args s 0 0 (zv_fr S)) 0 0 14 [(0, .ref (S.heap.size + 68)), (1, .int p1), (2, .int a4)] [] SH0 m5) fM_right_l14 _ (fun P3 hl3 hr3 a4 m5 h => ?_) zFU 0 m (zw_b12 h)
    rw [fM_right_l14] at h
    refine zr_iload_n X dX11_right_14 2 rfl ?_
    refine zr_aload_n X dX11_right_15 0 rfl ?_
    refine zr_getI X dX11_right_16 zd_X11_13 rfl zo_68 (by rw [zk_11 zo_68]; decide) ?_
    refine zr_aload_n X dX11_right_19 0 rfl ?_
    refine zr_getI X dX11_right_20 zd_X11_13 rfl zo_68 (by rw [zk_11 zo_68]; decide) ?_
    refine zr_imul X dX11_right_23 ?_
    refine zr_icmp_ge (tgt := 57) X dX11_right_24 (by decide) (fun q => ?_) (fun q => ?_)
    · rw [if_neg q] at h
      have h := hr3 _ h
      exact zr_sub [0, 1] rfl (hR3 m5 h)
    · rw [if_pos q] at h
      refine zr_aload_n X dX11_right_27 0 rfl ?_
      refine zr_getR X dX11_right_28 zd_X11_124 rfl zo_68 zl_68_37 ?_
      refine zr_iload_n X dX11_right_31 2 rfl ?_
      refine zr_aload_n X dX11_right_32 0 rfl ?_
      refine zr_getR X dX11_right_33 zd_X11_36 rfl zo_68 zl_68_8 ?_
      refine zr_iload_n X dX11_right_36 2 rfl ?_
      obtain ⟨g0, h⟩ := zg_e h
      refine zr_iald X dX11_right_37 za_72 (zI_in g0) ?_
      have hJ50 : ∀ (v16 : Int32), zw (fM_right_j50 a4 m5 v16) P3 → zv_V S D cA p l e (zv_rm d 0 0) s mi args below meth c 4 (MQ below (zv_Q S D cA (zq_i SH0 P)) args s 0 0 (zv_fr S)) 0 0 50 [(0, .ref (S.heap.size + 68)), (1, .int p1), (2, .int a4)] [.int v16, .int a4, .ref (S.heap.size + 91)] SH0 m5 := by
        intro v16 h
        rw [fM_right_j50] at h
        obtain ⟨g0, h⟩ := zg_e h
        refine zr_iast X dX11_right_50 za_91 (zI_in g0) ?_
        refine zr_iinc (v := a4 + 1) (lo' := [(2, .int (a4 + 1)), (0, .ref (S.heap.size + 68)), (1, .int p1)]) X dX11_right_51 2 rfl rfl (by decide) rfl ?_
        refine zr_goto (tgt := 14) X dX11_right_54 (by decide) ?_
        have h := hl3 _ h
        exact zr_sub [1, 2, 0] rfl h
      refine zr_if_ge (tgt := 45) X dX11_right_38 (by decide) (fun q => ?_) (fun q => ?_)
      · rw [if_neg q] at h
        refine zr_aload_n X dX11_right_45 0 rfl ?_
        refine zr_iload_n X dX11_right_46 2 rfl ?_
        refine zr_callV_i (As := [.int a4]) (st := [.int a4, .ref (S.heap.size + 91)]) (d := d - 1) X dX11_right_47 wm_X11_350 my_X11_quarrels mv_X11_quarrels zo_68 rfl (Nat.le_of_ble_eq_true rfl) (zRm (by omega)) ⟨Nat.le_refl _, Nat.le_refl _⟩ (x_fM_quarrels hG (d - 1) (by omega) a4 m5 _ (zw_b1 h)) (fun r17 m18 q => ?_)
        obtain ⟨rfl, h⟩ := q
        exact zr_sub [0, 1, 2] rfl (hJ50 r17 h)
      · rw [if_pos q] at h
        refine zr_iconst (v := 0) X dX11_right_41 (by decide) ?_
        refine zr_goto (tgt := 50) X dX11_right_42 (by decide) ?_
        exact zr_sub [0, 1, 2] rfl (hJ50 0 h)
  · rw [if_pos q] at h
    refine zr_iconst (v := (-1)) X dX11_right_10 (by decide) ?_
    exact zr_iret X dX11_right_11 rfl ⟨Nat.le_refl _, Nat.le_refl _⟩ ⟨rfl, _, rfl, h⟩

set_option maxRecDepth 100000 in
set_option maxHeartbeats 4000000 in
theorem x_fM_game {l : Launch} {S : State} {D : va_G} {cA : Nat → ClassId} {tb sx : Nat → Nat} (hG : zv_G S D cA tb sx) (d : Nat) (hd : 9 ≤ d) (p1 : Int32) (m : zv_M) (P : Int32 → zv_M → Prop) (h : zw2 (fM_game p1 m) P) : zv_Met l S D cA d 0 0 yX11_game cX11_game 8 (some .int) [.ref (S.heap.size + 68), .int p1] SH0 m (zq_i SH0 P) := by
  refine zv_met false hG pf_X11_game (fun z => by cases z) (Nat.le_of_ble_eq_true rfl) [(0, .ref (S.heap.size + 68)), (1, .int p1)] rfl (fun p e s mi args below meth c X => ?_)
  rw [fM_game] at h
  refine zr_aload_n X dX11_game_0 0 rfl ?_
  refine zr_iload_n X dX11_game_1 1 rfl ?_
  refine zr_callV_i (As := [.int p1]) (st := []) (d := d - 1) X dX11_game_2 wm_X11_234 my_X11_isPlan mv_X11_isPlan zo_68 rfl (Nat.le_of_ble_eq_true rfl) (zRm (by omega)) ⟨Nat.le_refl _, Nat.le_refl _⟩ (x_fM_isPlan hG (d - 1) (by omega) p1 m _ (zw_b12 h)) (fun r1 m2 q => ?_)
  obtain ⟨rfl, h⟩ := q
  refine zr_if_ne (tgt := 10) X dX11_game_5 (by decide) (fun q => ?_) (fun q => ?_)
  · rw [if_neg q] at h
    refine zr_aload_n X dX11_game_10 0 rfl ?_
    refine zr_iload_n X dX11_game_11 1 rfl ?_
    refine zr_callV_i (As := [.int p1]) (st := []) (d := d - 1) X dX11_game_12 wm_X11_387 my_X11_moreOf mv_X11_moreOf zo_68 rfl (Nat.le_of_ble_eq_true rfl) (zRm (by omega)) ⟨Nat.le_refl _, Nat.le_refl _⟩ (x_fM_moreOf hG (d - 1) (by omega) p1 m _ (zw_b12 h)) (fun r3 m4 q => ?_)
    obtain ⟨rfl, h⟩ := q
    refine zr_istore_n (lo' := [(2, .int r3), (0, .ref (S.heap.size + 68)), (1, .int p1)]) X dX11_game_15 (by decide) rfl ?_
    refine zr_aload_n X dX11_game_16 1 rfl ?_
    refine zr_iload_n X dX11_game_17 0 rfl ?_
    refine zr_callV_i (As := [.int r3]) (st := []) (d := d - 1) X dX11_game_18 wm_X11_242 my_X11_ones mv_X11_ones zo_68 rfl (Nat.le_of_ble_eq_true rfl) (zRm (by omega)) ⟨Nat.le_refl _, Nat.le_refl _⟩ (x_fM_ones hG (d - 1) (by omega) r3 m _ (zw_b12 h)) (fun r5 m6 q => ?_)
    obtain ⟨rfl, h⟩ := q
    refine zr_istore_n (lo' := [(3, .int r5), (2, .int r3), (0, .ref (S.heap.size + 68)), (1, .int p1)]) X dX11_game_21 (by decide) rfl ?_
    refine zr_iload_n X dX11_game_22 0 rfl ?_
    refine zr_bipush (v := 9) X dX11_game_23 (by decide) ?_
    refine zr_icmp_le (tgt := 31) X dX11_game_25 (by decide) (fun q => ?_) (fun q => ?_)
    · rw [if_neg q] at h
      refine zr_aload_n X dX11_game_31 2 rfl ?_
      refine zr_iload_n X dX11_game_32 3 rfl ?_
      refine zr_callV_v (As := [.int p1]) (st := []) (d := d - 1) X dX11_game_33 wm_X11_362 my_X11_layBad mv_X11_layBad zo_68 rfl (Nat.le_of_ble_eq_true rfl) (zRm (by omega)) ⟨Nat.le_refl _, Nat.le_refl _⟩ (x_fM_layBad hG (d - 1) (by omega) p1 m _ (zw_b12 h)) (fun m7 q => ?_)
      replace h := q
      refine zr_iconst (v := 0) X dX11_game_36 (by decide) ?_
      refine zr_istore (lo' := [(4, .int 0), (3, .int r5), (2, .int r3), (0, .ref (S.heap.size + 68)), (1, .int p1)]) X dX11_game_37 (by decide) rfl ?_
      refine zr_iload_n X dX11_game_39 2 rfl ?_
      refine zr_istore (lo' := [(5, .int r3), (4, .int 0), (3, .int r5), (2, .int r3), (0, .ref (S.heap.size + 68)), (1, .int p1)]) X dX11_game_40 (by decide) rfl ?_
      refine zr_sub [4, 2, 1, 0] rfl ?_
      have hR8 : ∀ (m12 : zv_M), zw2 (zb1 (whileN zFU (fM_game_l78 r5) (0, m12)) (fun m16 => zb1 (whileN zFU (fM_game_l163 r5) (0, m16)) (fun m20 => zg (zI ((1 <<< (r5 &&& 31)) - 1) 512) (if m20.1 94 ((1 <<< (r5 &&& 31)) - 1).toNatClampNeg = 0 then some (0, m20) else some (1, m20)))) : Option (Int32 × zv_M)) P → zv_V S D cA p l e (zv_rm d 0 0) s mi args below meth c 8 (MQ below (zv_Q S D cA (zq_i SH0 P)) args s 0 0 (zv_fr S)) 0 0 75 [(0, .ref (S.heap.size + 68)), (3, .int r5)] [] SH0 m12 := by
        intro m12 h
        refine zr_iconst (v := 0) X dX11_game_75 (by decide) ?_
        refine zr_istore (lo' := [(5, .int 0), (0, .ref (S.heap.size + 68)), (3, .int r5)]) X dX11_game_76 (by decide) rfl ?_
        refine zr_sub [1, 2, 0] rfl ?_
        have hR13 : ∀ (m16 : zv_M), zw2 (zb1 (whileN zFU (fM_game_l163 r5) (0, m16)) (fun m20 => zg (zI ((1 <<< (r5 &&& 31)) - 1) 512) (if m20.1 94 ((1 <<< (r5 &&& 31)) - 1).toNatClampNeg = 0 then some (0, m20) else some (1, m20))) : Option (Int32 × zv_M)) P → zv_V S D cA p l e (zv_rm d 0 0) s mi args below meth c 8 (MQ below (zv_Q S D cA (zq_i SH0 P)) args s 0 0 (zv_fr S)) 0 0 160 [(0, .ref (S.heap.size + 68)), (3, .int r5)] [] SH0 m16 := by
          intro m16 h
          refine zr_iconst (v := 0) X dX11_game_160 (by decide) ?_
          refine zr_istore (lo' := [(5, .int 0), (0, .ref (S.heap.size + 68)), (3, .int r5)]) X dX11_game_161 (by decide) rfl ?_
          refine zr_sub [1, 2, 0] rfl ?_
          have hR17 : ∀ (m20 : zv_M), zw2 (zg (zI ((1 <<< (r5 &&& 31)) - 1) 512) (if m20.1 94 ((1 <<< (r5 &&& 31)) - 1).toNatClampNeg = 0 then some (0, m20) else some (1, m20)) : Option (Int32 × zv_M)) P → zv_V S D cA p l e (zv_rm d 0 0) s mi args below meth c 8 (MQ below (zv_Q S D cA (zq_i SH0 P)) args s 0 0 (zv_fr S)) 0 0 247 [(0, .ref (S.heap.size + 68)), (3, .int r5)] [] SH0 m20 := by
            intro m20 h
            refine zr_aload_n X dX11_game_247 0 rfl ?_
            refine zr_getR X dX11_game_248 zd_X11_136 rfl zo_68 zl_68_41 ?_
            refine zr_iconst (v := 1) X dX11_game_251 (by decide) ?_
            refine zr_iload_n X dX11_game_252 1 rfl ?_
            refine zr_ishl X dX11_game_253 ?_
            refine zr_iconst (v := 1) X dX11_game_254 (by decide) ?_
            refine zr_isub X dX11_game_255 ?_
            obtain ⟨g0, h⟩ := zg_e2 h
            refine zr_zald X dX11_game_256 za_94 (zI_in g0) ?_
            refine zr_if_eq (tgt := 264) X dX11_game_257 (by decide) (fun q => ?_) (fun q => ?_)
            · rw [if_pos q] at h
              refine zr_iconst (v := 0) X dX11_game_264 (by decide) ?_
              exact zr_iret X dX11_game_265 rfl ⟨Nat.le_refl _, Nat.le_refl _⟩ ⟨rfl, _, rfl, h⟩
            · rw [if_neg q] at h
              refine zr_iconst (v := 1) X dX11_game_260 (by decide) ?_
              refine zr_goto (tgt := 265) X dX11_game_261 (by decide) ?_
              exact zr_iret X dX11_game_265 rfl ⟨Nat.le_refl _, Nat.le_refl _⟩ ⟨rfl, _, rfl, h⟩
          refine zl_w2 (fun a18 m19 => zv_V S D cA p l e (zv_rm d 0 0) s mi args below meth c 8 (MQ below (zv_Q S D cA (zq_i SH0 P)) args s 0 0 (zv_fr S)) 0 0 163 [(0, .ref (S.heap.size + 68)), (3, .int r5), (5, .int a18)] [] SH0 m19) (fM_game_l163 r5) _ (fun P17 hl17 hr17 a18 m19 h => ?_) zFU 0 m16 (zw_b12 h)
          rw [fM_game_l163] at h
          refine zr_iload X dX11_game_163 2 rfl ?_
          refine zr_iconst (v := 1) X dX11_game_165 (by decide) ?_
          refine zr_iload_n X dX11_game_166 1 rfl ?_
          refine zr_ishl X dX11_game_167 ?_
          refine zr_icmp_ge (tgt := 247) X dX11_game_168 (by decide) (fun q => ?_) (fun q => ?_)
          · rw [if_neg q] at h
            have h := hr17 _ h
            exact zr_sub [0, 1] rfl (hR17 m19 h)
          · rw [if_pos q] at h
            refine zr_iconst (v := 0) X dX11_game_171 (by decide) ?_
            refine zr_istore (lo' := [(6, .int 0), (0, .ref (S.heap.size + 68)), (3, .int r5), (5, .int a18)]) X dX11_game_172 (by decide) rfl ?_
            refine zr_iconst (v := 0) X dX11_game_174 (by decide) ?_
            refine zr_istore (lo' := [(7, .int 0), (6, .int 0), (0, .ref (S.heap.size + 68)), (3, .int r5), (5, .int a18)]) X dX11_game_175 (by decide) rfl ?_
            refine zr_sub [2, 3, 4, 1, 0] rfl ?_
            have hR21 : ∀ (a24 : Int32), zw (zg (zI a18 512) (zg (zB a24) (some (.inl (a18 + 1, wI m19 94 a18.toNatClampNeg a24)))) : Option ((Int32 × zv_M) ⊕ (zv_M))) P17 → zv_V S D cA p l e (zv_rm d 0 0) s mi args below meth c 8 (MQ below (zv_Q S D cA (zq_i SH0 P)) args s 0 0 (zv_fr S)) 0 0 232 [(0, .ref (S.heap.size + 68)), (3, .int r5), (5, .int a18), (6, .int a24)] [] SH0 m19 := by
              intro a24 h
              refine zr_aload_n X dX11_game_232 0 rfl ?_
              refine zr_getR X dX11_game_233 zd_X11_136 rfl zo_68 zl_68_41 ?_
              refine zr_iload X dX11_game_236 2 rfl ?_
              refine zr_iload X dX11_game_238 3 rfl ?_
              obtain ⟨g0, h⟩ := zg_e h
              obtain ⟨g1, h⟩ := zg_e h
              refine zr_zast X dX11_game_240 za_94 (zI_in g0) (zB_n g1) ?_
              refine zr_iinc (v := a18 + 1) (lo' := [(5, .int (a18 + 1)), (0, .ref (S.heap.size + 68)), (3, .int r5), (6, .int a24)]) X dX11_game_241 2 rfl rfl (by decide) rfl ?_
              refine zr_goto (tgt := 163) X dX11_game_244 (by decide) ?_
              have h := hl17 _ h
              exact zr_sub [1, 2, 0] rfl h
            refine zl_w2 (fun a22 a23 => zv_V S D cA p l e (zv_rm d 0 0) s mi args below meth c 8 (MQ below (zv_Q S D cA (zq_i SH0 P)) args s 0 0 (zv_fr S)) 0 0 177 [(0, .ref (S.heap.size + 68)), (3, .int r5), (5, .int a18), (6, .int a22), (7, .int a23)] [] SH0 m19) (fM_game_l177 r5 a18 m19) _ (fun P21 hl21 hr21 a22 a23 h => ?_) zFU 0 0 (zw_b1 h)
            rw [fM_game_l177] at h
            refine zr_iload X dX11_game_177 4 rfl ?_
            refine zr_iload_n X dX11_game_179 1 rfl ?_
            refine zr_icmp_ge (tgt := 232) X dX11_game_180 (by decide) (fun q => ?_) (fun q => ?_)
            · rw [if_neg q] at h
              have h := hr21 _ h
              exact zr_sub [0, 1, 2, 3] rfl (hR21 a22 h)
            · rw [if_pos q] at h
              refine zr_iload X dX11_game_183 3 rfl ?_
              refine zr_if_ne (tgt := 232) X dX11_game_185 (by decide) (fun q => ?_) (fun q => ?_)
              · rw [if_neg q] at h
                have h := hr21 _ h
                exact zr_sub [0, 1, 2, 3] rfl (hR21 a22 h)
              · rw [if_pos q] at h
                refine zr_aload_n X dX11_game_188 0 rfl ?_
                refine zr_iload X dX11_game_189 2 rfl ?_
                refine zr_iload X dX11_game_191 4 rfl ?_
                refine zr_callV_i (As := [.int a18, .int a23]) (st := []) (d := d - 1) X dX11_game_193 wm_X11_323 my_X11_has mv_X11_has zo_68 rfl (Nat.le_of_ble_eq_true rfl) (zRm (by omega)) ⟨Nat.le_refl _, Nat.le_refl _⟩ (x_fM_has hG (d - 1) (by omega) a18 a23 m19 _ (zw_b1 h)) (fun r25 m26 q => ?_)
                obtain ⟨rfl, h⟩ := q
                have hJ223 : zw (fM_game_j223 a23) P21 → zv_V S D cA p l e (zv_rm d 0 0) s mi args below meth c 8 (MQ below (zv_Q S D cA (zq_i SH0 P)) args s 0 0 (zv_fr S)) 0 0 223 [(0, .ref (S.heap.size + 68)), (3, .int r5), (5, .int a18), (7, .int a23)] [] SH0 m19 := by
                  intro h
                  rw [fM_game_j223] at h
                  refine zr_iconst (v := 0) X dX11_game_223 (by decide) ?_
                  refine zr_istore (lo' := [(6, .int 0), (0, .ref (S.heap.size + 68)), (3, .int r5), (5, .int a18), (7, .int a23)]) X dX11_game_224 (by decide) rfl ?_
                  refine zr_iinc (v := a23 + 1) (lo' := [(7, .int (a23 + 1)), (6, .int 0), (0, .ref (S.heap.size + 68)), (3, .int r5), (5, .int a18)]) X dX11_game_226 4 rfl rfl (by decide) rfl ?_
                  refine zr_goto (tgt := 177) X dX11_game_229 (by decide) ?_
                  have h := hl21 _ h
                  exact zr_sub [2, 3, 4, 1, 0] rfl h
                have hJ224 : ∀ (v27 : Int32), zw (fM_game_j224 a23 v27) P21 → zv_V S D cA p l e (zv_rm d 0 0) s mi args below meth c 8 (MQ below (zv_Q S D cA (zq_i SH0 P)) args s 0 0 (zv_fr S)) 0 0 224 [(0, .ref (S.heap.size + 68)), (3, .int r5), (5, .int a18), (7, .int a23)] [.int v27] SH0 m19 := by
                  intro v27 h
                  rw [fM_game_j224] at h
                  refine zr_istore (lo' := [(6, .int v27), (0, .ref (S.heap.size + 68)), (3, .int r5), (5, .int a18), (7, .int a23)]) X dX11_game_224 (by decide) rfl ?_
                  refine zr_iinc (v := a23 + 1) (lo' := [(7, .int (a23 + 1)), (6, .int v27), (0, .ref (S.heap.size + 68)), (3, .int r5), (5, .int a18)]) X dX11_game_226 4 rfl rfl (by decide) rfl ?_
                  refine zr_goto (tgt := 177) X dX11_game_229 (by decide) ?_
                  have h := hl21 _ h
                  exact zr_sub [2, 3, 4, 1, 0] rfl h
                refine zr_if_eq (tgt := 223) X dX11_game_196 (by decide) (fun q => ?_) (fun q => ?_)
                · rw [if_pos q] at h
                  exact zr_sub [0, 1, 2, 4] rfl (hJ223 h)
                · rw [if_neg q] at h
                  refine zr_aload_n X dX11_game_199 0 rfl ?_
                  refine zr_getR X dX11_game_200 zd_X11_136 rfl zo_68 zl_68_41 ?_
                  refine zr_iload X dX11_game_203 2 rfl ?_
                  refine zr_aload_n X dX11_game_205 0 rfl ?_
                  refine zr_getR X dX11_game_206 zd_X11_133 rfl zo_68 zl_68_40 ?_
                  refine zr_iload X dX11_game_209 4 rfl ?_
                  obtain ⟨g0, h⟩ := zg_e h
                  refine zr_iald X dX11_game_211 za_93 (zI_in g0) ?_
                  refine zr_iconst (v := (-1)) X dX11_game_212 (by decide) ?_
                  refine zr_ixor X dX11_game_213 ?_
                  refine zr_iand X dX11_game_214 ?_
                  obtain ⟨g0, h⟩ := zg_e h
                  refine zr_zald X dX11_game_215 za_94 (zI_in g0) ?_
                  refine zr_if_ne (tgt := 223) X dX11_game_216 (by decide) (fun q => ?_) (fun q => ?_)
                  · rw [if_neg q] at h
                    exact zr_sub [0, 1, 2, 4] rfl (hJ223 h)
                  · rw [if_pos q] at h
                    refine zr_iconst (v := 1) X dX11_game_219 (by decide) ?_
                    refine zr_goto (tgt := 224) X dX11_game_220 (by decide) ?_
                    exact zr_sub [0, 1, 2, 4] rfl (hJ224 1 h)
        refine zl_w2 (fun a14 m15 => zv_V S D cA p l e (zv_rm d 0 0) s mi args below meth c 8 (MQ below (zv_Q S D cA (zq_i SH0 P)) args s 0 0 (zv_fr S)) 0 0 78 [(0, .ref (S.heap.size + 68)), (3, .int r5), (5, .int a14)] [] SH0 m15) (fM_game_l78 r5) _ (fun P13 hl13 hr13 a14 m15 h => ?_) zFU 0 m12 (zw_b12 h)
        rw [fM_game_l78] at h
        refine zr_iload X dX11_game_78 2 rfl ?_
        refine zr_iload_n X dX11_game_80 1 rfl ?_
        refine zr_icmp_ge (tgt := 160) X dX11_game_81 (by decide) (fun q => ?_) (fun q => ?_)
        · rw [if_neg q] at h
          have h := hr13 _ h
          exact zr_sub [0, 1] rfl (hR13 m15 h)
        · rw [if_pos q] at h
          refine zr_aload_n X dX11_game_84 0 rfl ?_
          refine zr_getR X dX11_game_85 zd_X11_133 rfl zo_68 zl_68_40 ?_
          refine zr_iload X dX11_game_88 2 rfl ?_
          refine zr_iconst (v := 1) X dX11_game_90 (by decide) ?_
          refine zr_iload X dX11_game_91 2 rfl ?_
          refine zr_ishl X dX11_game_93 ?_
          obtain ⟨g0, h⟩ := zg_e h
          refine zr_iast X dX11_game_94 za_93 (zI_in g0) ?_
          refine zr_iconst (v := 0) X dX11_game_95 (by decide) ?_
          refine zr_istore (lo' := [(6, .int 0), (0, .ref (S.heap.size + 68)), (3, .int r5), (5, .int a14)]) X dX11_game_96 (by decide) rfl ?_
          refine zr_sub [1, 2, 3, 0] rfl ?_
          have hR28 : ∀ (m31 : zv_M), zw (some (.inl (a14 + 1, m31)) : Option ((Int32 × zv_M) ⊕ (zv_M))) P13 → zv_V S D cA p l e (zv_rm d 0 0) s mi args below meth c 8 (MQ below (zv_Q S D cA (zq_i SH0 P)) args s 0 0 (zv_fr S)) 0 0 154 [(0, .ref (S.heap.size + 68)), (3, .int r5), (5, .int a14)] [] SH0 m31 := by
            intro m31 h
            refine zr_iinc (v := a14 + 1) (lo' := [(5, .int (a14 + 1)), (0, .ref (S.heap.size + 68)), (3, .int r5)]) X dX11_game_154 2 rfl rfl (by decide) rfl ?_
            refine zr_goto (tgt := 78) X dX11_game_157 (by decide) ?_
            have h := hl13 _ h
            exact zr_sub [1, 2, 0] rfl h
          refine zl_w2 (fun a29 m30 => zv_V S D cA p l e (zv_rm d 0 0) s mi args below meth c 8 (MQ below (zv_Q S D cA (zq_i SH0 P)) args s 0 0 (zv_fr S)) 0 0 98 [(0, .ref (S.heap.size + 68)), (3, .int r5), (5, .int a14), (6, .int a29)] [] SH0 m30) (fM_game_l98 r5 a14) _ (fun P28 hl28 hr28 a29 m30 h => ?_) zFU 0 (wI m15 93 a14.toNatClampNeg (1 <<< (a14 &&& 31))) (zw_b1 h)
          rw [fM_game_l98] at h
          refine zr_iload X dX11_game_98 3 rfl ?_
          refine zr_iload_n X dX11_game_100 1 rfl ?_
          refine zr_icmp_ge (tgt := 154) X dX11_game_101 (by decide) (fun q => ?_) (fun q => ?_)
          · rw [if_neg q] at h
            have h := hr28 _ h
            exact zr_sub [0, 1, 2] rfl (hR28 m30 h)
          · rw [if_pos q] at h
            refine zr_aload_n X dX11_game_104 0 rfl ?_
            refine zr_getR X dX11_game_105 zd_X11_133 rfl zo_68 zl_68_40 ?_
            refine zr_iload X dX11_game_108 2 rfl ?_
            refine zr_dup2 X dX11_game_110 rfl rfl ?_
            obtain ⟨g0, h⟩ := zg_e h
            refine zr_iald X dX11_game_111 za_93 (zI_in g0) ?_
            refine zr_aload_n X dX11_game_112 0 rfl ?_
            refine zr_aload_n X dX11_game_113 0 rfl ?_
            refine zr_getR X dX11_game_114 zd_X11_100 rfl zo_68 zl_68_29 ?_
            refine zr_aload_n X dX11_game_117 0 rfl ?_
            refine zr_getR X dX11_game_118 zd_X11_130 rfl zo_68 zl_68_39 ?_
            refine zr_iload X dX11_game_121 2 rfl ?_
            obtain ⟨g0, h⟩ := zg_e h
            refine zr_iald X dX11_game_123 za_92 (zI_in g0) ?_
            obtain ⟨g0, h⟩ := zg_e h
            refine zr_iald X dX11_game_124 za_85 (zI_in g0) ?_
            refine zr_aload_n X dX11_game_125 0 rfl ?_
            refine zr_getR X dX11_game_126 zd_X11_130 rfl zo_68 zl_68_39 ?_
            refine zr_iload X dX11_game_129 3 rfl ?_
            obtain ⟨g0, h⟩ := zg_e h
            refine zr_iald X dX11_game_131 za_92 (zI_in g0) ?_
            refine zr_callV_i (As := [.int (m30.1 85 (m30.1 92 a14.toNatClampNeg).toNatClampNeg), .int (m30.1 92 a29.toNatClampNeg)]) (st := [.int (m30.1 93 a14.toNatClampNeg), .int a14, .ref (S.heap.size + 93)]) (d := d - 1) X dX11_game_132 wm_X11_323 my_X11_has mv_X11_has zo_68 rfl (Nat.le_of_ble_eq_true rfl) (zRm (by omega)) ⟨Nat.le_refl _, Nat.le_refl _⟩ (x_fM_has hG (d - 1) (by omega) (m30.1 85 (m30.1 92 a14.toNatClampNeg).toNatClampNeg) (m30.1 92 a29.toNatClampNeg) m30 _ (zw_b1 h)) (fun r32 m33 q => ?_)
            obtain ⟨rfl, h⟩ := q
            have hJ146 : ∀ (v34 : Int32), zw (fM_game_j146 a14 a29 m30 v34) P28 → zv_V S D cA p l e (zv_rm d 0 0) s mi args below meth c 8 (MQ below (zv_Q S D cA (zq_i SH0 P)) args s 0 0 (zv_fr S)) 0 0 146 [(0, .ref (S.heap.size + 68)), (3, .int r5), (5, .int a14), (6, .int a29)] [.int v34, .int (m30.1 93 a14.toNatClampNeg), .int a14, .ref (S.heap.size + 93)] SH0 m30 := by
              intro v34 h
              rw [fM_game_j146] at h
              refine zr_ior X dX11_game_146 ?_
              obtain ⟨g0, h⟩ := zg_e h
              refine zr_iast X dX11_game_147 za_93 (zI_in g0) ?_
              refine zr_iinc (v := a29 + 1) (lo' := [(6, .int (a29 + 1)), (0, .ref (S.heap.size + 68)), (3, .int r5), (5, .int a14)]) X dX11_game_148 3 rfl rfl (by decide) rfl ?_
              refine zr_goto (tgt := 98) X dX11_game_151 (by decide) ?_
              have h := hl28 _ h
              exact zr_sub [1, 2, 3, 0] rfl h
            refine zr_if_eq (tgt := 145) X dX11_game_135 (by decide) (fun q => ?_) (fun q => ?_)
            · rw [if_pos q] at h
              refine zr_iconst (v := 0) X dX11_game_145 (by decide) ?_
              exact zr_sub [0, 1, 2, 3] rfl (hJ146 0 h)
            · rw [if_neg q] at h
              refine zr_iconst (v := 1) X dX11_game_138 (by decide) ?_
              refine zr_iload X dX11_game_139 3 rfl ?_
              refine zr_ishl X dX11_game_141 ?_
              refine zr_goto (tgt := 146) X dX11_game_142 (by decide) ?_
              exact zr_sub [0, 1, 2, 3] rfl (hJ146 (1 <<< (a29 &&& 31)) h)
      refine zl_w3 (fun a9 a10 m11 => zv_V S D cA p l e (zv_rm d 0 0) s mi args below meth c 8 (MQ below (zv_Q S D cA (zq_i SH0 P)) args s 0 0 (zv_fr S)) 0 0 42 [(0, .ref (S.heap.size + 68)), (3, .int r5), (4, .int a9), (5, .int a10)] [] SH0 m11) fM_game_l42 _ (fun P8 hl8 hr8 a9 a10 m11 h => ?_) zFU 0 r3 m7 (zw_b12 h)
      rw [fM_game_l42] at h
      refine zr_iload X dX11_game_42 3 rfl ?_
      refine zr_if_eq (tgt := 75) X dX11_game_44 (by decide) (fun q => ?_) (fun q => ?_)
      · rw [if_pos q] at h
        have h := hr8 _ h
        exact zr_sub [0, 1] rfl (hR8 m11 h)
      · rw [if_neg q] at h
        refine zr_aload_n X dX11_game_47 0 rfl ?_
        refine zr_getR X dX11_game_48 zd_X11_130 rfl zo_68 zl_68_39 ?_
        refine zr_iload X dX11_game_51 2 rfl ?_
        refine zr_aload_n X dX11_game_53 0 rfl ?_
        refine zr_iload X dX11_game_54 3 rfl ?_
        refine zr_callV_i (As := [.int a10]) (st := [.int a9, .ref (S.heap.size + 92)]) (d := d - 1) X dX11_game_56 wm_X11_374 my_X11_lowest mv_X11_lowest zo_68 rfl (Nat.le_of_ble_eq_true rfl) (zRm (by omega)) ⟨Nat.le_refl _, Nat.le_refl _⟩ (x_fM_lowest hG (d - 1) (by omega) a10 m11 _ (zw_b1 h)) (fun r35 m36 q => ?_)
        obtain ⟨rfl, h⟩ := q
        obtain ⟨g0, h⟩ := zg_e h
        refine zr_iast X dX11_game_59 za_92 (zI_in g0) ?_
        refine zr_iinc (v := a9 + 1) (lo' := [(4, .int (a9 + 1)), (0, .ref (S.heap.size + 68)), (3, .int r5), (5, .int a10)]) X dX11_game_60 2 rfl rfl (by decide) rfl ?_
        refine zr_iload X dX11_game_63 3 rfl ?_
        refine zr_iload X dX11_game_65 3 rfl ?_
        refine zr_iconst (v := 1) X dX11_game_67 (by decide) ?_
        refine zr_isub X dX11_game_68 ?_
        refine zr_iand X dX11_game_69 ?_
        refine zr_istore (lo' := [(5, .int (a10 &&& (a10 - 1))), (4, .int (a9 + 1)), (0, .ref (S.heap.size + 68)), (3, .int r5)]) X dX11_game_70 (by decide) rfl ?_
        refine zr_goto (tgt := 42) X dX11_game_72 (by decide) ?_
        have h := hl8 _ h
        exact zr_sub [2, 3, 1, 0] rfl h
    · rw [if_pos q] at h
      refine zr_bipush (v := (-9)) X dX11_game_28 (by decide) ?_
      exact zr_iret X dX11_game_30 rfl ⟨Nat.le_refl _, Nat.le_refl _⟩ ⟨rfl, _, rfl, h⟩
  · rw [if_pos q] at h
    refine zr_iconst (v := (-1)) X dX11_game_8 (by decide) ?_
    exact zr_iret X dX11_game_9 rfl ⟨Nat.le_refl _, Nat.le_refl _⟩ ⟨rfl, _, rfl, h⟩

set_option maxRecDepth 100000 in
set_option maxHeartbeats 4000000 in
theorem x_fM_turnedSquare {l : Launch} {S : State} {D : va_G} {cA : Nat → ClassId} {tb sx : Nat → Nat} (hG : zv_G S D cA tb sx) (d : Nat) (hd : 1 ≤ d) (p1 : Int32) (p2 : Int32) (m : zv_M) (P : Int32 → Prop) (h : zw (fM_turnedSquare p1 p2 m) P) : zv_Met l S D cA d 0 0 yX11_turnedSquare cX11_turnedSquare 7 (some .int) [.ref (S.heap.size + 68), .int p1, .int p2] SH0 m (zq_i SH0 (fun v m' => m = m' ∧ P v)) := by
  refine zv_met false hG pf_X11_turnedSquare (fun z => by cases z) (Nat.le_of_ble_eq_true rfl) [(0, .ref (S.heap.size + 68)), (1, .int p1), (2, .int p2)] rfl (fun p e s mi args below meth c X => ?_)
  rw [fM_turnedSquare] at h
  refine zr_iload_n X dX11_turnedSquare_0 2 rfl ?_
  refine zr_iconst (v := 3) X dX11_turnedSquare_1 (by decide) ?_
  have hJ27 : ∀ (v1 : Int32), zw (fM_turnedSquare_j27 p1 p2 m v1) P → zv_V S D cA p l e (zv_rm d 0 0) s mi args below meth c 7 (MQ below (zv_Q S D cA (zq_i SH0 (fun v m' => m = m' ∧ P v))) args s 0 0 (zv_fr S)) 0 0 27 [(0, .ref (S.heap.size + 68)), (1, .int p1), (2, .int p2)] [.int v1] SH0 m := by
    intro v1 h
    rw [fM_turnedSquare_j27] at h
    refine zr_istore_n (lo' := [(3, .int v1), (0, .ref (S.heap.size + 68)), (1, .int p1), (2, .int p2)]) X dX11_turnedSquare_27 (by decide) rfl ?_
    refine zr_iload_n X dX11_turnedSquare_28 2 rfl ?_
    refine zr_aload_n X dX11_turnedSquare_29 1 rfl ?_
    refine zr_getI X dX11_turnedSquare_30 zd_X11_13 rfl zo_68 (by rw [zk_11 zo_68]; decide) ?_
    obtain ⟨g0, h⟩ := zg_e h
    refine zr_idiv X dX11_turnedSquare_33 (zN_ne g0) ?_
    refine zr_istore (lo' := [(4, .int (p1 / (m.1 68 1))), (3, .int v1), (0, .ref (S.heap.size + 68)), (1, .int p1), (2, .int p2)]) X dX11_turnedSquare_34 (by decide) rfl ?_
    refine zr_iconst (v := 0) X dX11_turnedSquare_36 (by decide) ?_
    refine zr_istore (lo' := [(5, .int 0), (4, .int (p1 / (m.1 68 1))), (3, .int v1), (0, .ref (S.heap.size + 68)), (1, .int p1), (2, .int p2)]) X dX11_turnedSquare_37 (by decide) rfl ?_
    refine zr_sub [3, 5, 2, 1, 0] rfl ?_
    refine zl_w3 (fun a3 a4 a5 => zv_V S D cA p l e (zv_rm d 0 0) s mi args below meth c 7 (MQ below (zv_Q S D cA (zq_i SH0 (fun v m' => m = m' ∧ P v))) args s 0 0 (zv_fr S)) 0 0 39 [(0, .ref (S.heap.size + 68)), (2, .int p2), (3, .int a3), (4, .int a4), (5, .int a5)] [] SH0 m) (fM_turnedSquare_l39 p2 m) _ (fun P2 hl2 hr2 a3 a4 a5 h => ?_) zFU v1 (p1 / (m.1 68 1)) 0 (zw_b1 h)
    rw [fM_turnedSquare_l39] at h
    refine zr_iload X dX11_turnedSquare_39 4 rfl ?_
    refine zr_iload_n X dX11_turnedSquare_41 1 rfl ?_
    refine zr_iconst (v := 4) X dX11_turnedSquare_42 (by decide) ?_
    refine zr_irem X dX11_turnedSquare_43 (by decide) ?_
    refine zr_icmp_ge (tgt := 70) X dX11_turnedSquare_44 (by decide) (fun q => ?_) (fun q => ?_)
    · rw [if_neg q] at h
      refine zr_aload_n X dX11_turnedSquare_70 0 rfl ?_
      refine zr_getI X dX11_turnedSquare_71 zd_X11_13 rfl zo_68 (by rw [zk_11 zo_68]; decide) ?_
      refine zr_iload X dX11_turnedSquare_74 3 rfl ?_
      refine zr_imul X dX11_turnedSquare_76 ?_
      refine zr_iload_n X dX11_turnedSquare_77 2 rfl ?_
      refine zr_iadd X dX11_turnedSquare_78 ?_
      have h := hr2 _ h
      exact zr_iret X dX11_turnedSquare_79 rfl ⟨Nat.le_refl _, Nat.le_refl _⟩ ⟨rfl, _, rfl, rfl, h⟩
    · rw [if_pos q] at h
      refine zr_iload_n X dX11_turnedSquare_47 2 rfl ?_
      refine zr_istore (lo' := [(6, .int a3), (0, .ref (S.heap.size + 68)), (2, .int p2), (3, .int a3), (4, .int a4), (5, .int a5)]) X dX11_turnedSquare_48 (by decide) rfl ?_
      refine zr_aload_n X dX11_turnedSquare_50 1 rfl ?_
      refine zr_getI X dX11_turnedSquare_51 zd_X11_13 rfl zo_68 (by rw [zk_11 zo_68]; decide) ?_
      refine zr_iconst (v := 1) X dX11_turnedSquare_54 (by decide) ?_
      refine zr_isub X dX11_turnedSquare_55 ?_
      refine zr_iload X dX11_turnedSquare_56 4 rfl ?_
      refine zr_isub X dX11_turnedSquare_58 ?_
      refine zr_istore_n (lo' := [(3, .int (((m.1 68 1) - 1) - a4)), (6, .int a3), (0, .ref (S.heap.size + 68)), (2, .int p2), (4, .int a4), (5, .int a5)]) X dX11_turnedSquare_59 (by decide) rfl ?_
      refine zr_iload X dX11_turnedSquare_60 1 rfl ?_
      refine zr_istore (lo' := [(4, .int a3), (3, .int (((m.1 68 1) - 1) - a4)), (6, .int a3), (0, .ref (S.heap.size + 68)), (2, .int p2), (5, .int a5)]) X dX11_turnedSquare_62 (by decide) rfl ?_
      refine zr_iinc (v := a5 + 1) (lo' := [(5, .int (a5 + 1)), (4, .int a3), (3, .int (((m.1 68 1) - 1) - a4)), (6, .int a3), (0, .ref (S.heap.size + 68)), (2, .int p2)]) X dX11_turnedSquare_64 5 rfl rfl (by decide) rfl ?_
      refine zr_goto (tgt := 39) X dX11_turnedSquare_67 (by decide) ?_
      have h := hl2 _ h
      exact zr_sub [4, 5, 2, 1, 0] rfl h
  refine zr_icmp_le (tgt := 21) X dX11_turnedSquare_2 (by decide) (fun q => ?_) (fun q => ?_)
  · rw [if_neg q] at h
    refine zr_iload_n X dX11_turnedSquare_21 1 rfl ?_
    refine zr_aload_n X dX11_turnedSquare_22 0 rfl ?_
    refine zr_getI X dX11_turnedSquare_23 zd_X11_13 rfl zo_68 (by rw [zk_11 zo_68]; decide) ?_
    obtain ⟨g0, h⟩ := zg_e h
    refine zr_irem X dX11_turnedSquare_26 (zN_ne g0) ?_
    exact zr_sub [0, 1, 2] rfl (hJ27 (p1 - p1 / (m.1 68 1) * (m.1 68 1)) h)
  · rw [if_pos q] at h
    refine zr_aload_n X dX11_turnedSquare_5 0 rfl ?_
    refine zr_getI X dX11_turnedSquare_6 zd_X11_13 rfl zo_68 (by rw [zk_11 zo_68]; decide) ?_
    refine zr_iconst (v := 1) X dX11_turnedSquare_9 (by decide) ?_
    refine zr_isub X dX11_turnedSquare_10 ?_
    refine zr_iload_n X dX11_turnedSquare_11 1 rfl ?_
    refine zr_aload_n X dX11_turnedSquare_12 0 rfl ?_
    refine zr_getI X dX11_turnedSquare_13 zd_X11_13 rfl zo_68 (by rw [zk_11 zo_68]; decide) ?_
    obtain ⟨g0, h⟩ := zg_e h
    refine zr_irem X dX11_turnedSquare_16 (zN_ne g0) ?_
    refine zr_isub X dX11_turnedSquare_17 ?_
    refine zr_goto (tgt := 27) X dX11_turnedSquare_18 (by decide) ?_
    exact zr_sub [0, 1, 2] rfl (hJ27 (((m.1 68 1) - 1) - (p1 - p1 / (m.1 68 1) * (m.1 68 1))) h)

set_option maxRecDepth 100000 in
set_option maxHeartbeats 4000000 in
theorem x_fM_isAlike {l : Launch} {S : State} {D : va_G} {cA : Nat → ClassId} {tb sx : Nat → Nat} (hG : zv_G S D cA tb sx) (d : Nat) (hd : 2 ≤ d) (p1 : Int32) (m : zv_M) (P : Int32 → Prop) (h : zw (fM_isAlike p1 m) P) : zv_Met l S D cA d 0 0 yX11_isAlike cX11_isAlike 5 (some .boolean) [.ref (S.heap.size + 68), .int p1] SH0 m (zq_i SH0 (fun v m' => m = m' ∧ P v)) := by
  refine zv_met false hG pf_X11_isAlike (fun z => by cases z) (Nat.le_of_ble_eq_true rfl) [(0, .ref (S.heap.size + 68)), (1, .int p1)] rfl (fun p e s mi args below meth c X => ?_)
  rw [fM_isAlike] at h
  refine zr_aload_n X dX11_isAlike_0 0 rfl ?_
  refine zr_callV_i (As := []) (st := []) (d := d - 1) X dX11_isAlike_1 wm_X11_238 my_X11_men mv_X11_men zo_68 rfl (Nat.le_of_ble_eq_true rfl) (zRm (by omega)) ⟨Nat.le_refl _, Nat.le_refl _⟩ (x_fM_men hG (d - 1) (by omega) m _ (zw_b1 h)) (fun r1 m2 q => ?_)
  obtain ⟨rfl, h⟩ := q
  refine zr_istore_n (lo' := [(2, .int r1), (0, .ref (S.heap.size + 68)), (1, .int p1)]) X dX11_isAlike_4 (by decide) rfl ?_
  refine zr_iconst (v := 0) X dX11_isAlike_5 (by decide) ?_
  refine zr_istore_n (lo' := [(3, .int 0), (2, .int r1), (0, .ref (S.heap.size + 68)), (1, .int p1)]) X dX11_isAlike_6 (by decide) rfl ?_
  refine zr_iconst (v := 0) X dX11_isAlike_7 (by decide) ?_
  refine zr_istore (lo' := [(4, .int 0), (3, .int 0), (2, .int r1), (0, .ref (S.heap.size + 68)), (1, .int p1)]) X dX11_isAlike_8 (by decide) rfl ?_
  refine zr_sub [3, 4, 2, 1, 0] rfl ?_
  have hR3 : ∀ (a6 : Int32), zw (if a6 = r1 then some 1 else some 0 : Option (Int32)) P → zv_V S D cA p l e (zv_rm d 0 0) s mi args below meth c 5 (MQ below (zv_Q S D cA (zq_i SH0 (fun v m' => m = m' ∧ P v))) args s 0 0 (zv_fr S)) 0 0 56 [(2, .int r1), (3, .int a6)] [] SH0 m := by
    intro a6 h
    refine zr_iload_n X dX11_isAlike_56 1 rfl ?_
    refine zr_iload_n X dX11_isAlike_57 0 rfl ?_
    refine zr_icmp_ne (tgt := 65) X dX11_isAlike_58 (by decide) (fun q => ?_) (fun q => ?_)
    · rw [if_neg q] at h
      refine zr_iconst (v := 0) X dX11_isAlike_65 (by decide) ?_
      exact zr_iret X dX11_isAlike_66 rfl ⟨Nat.le_refl _, Nat.le_refl _⟩ ⟨rfl, _, rfl, rfl, h⟩
    · rw [if_pos q] at h
      refine zr_iconst (v := 1) X dX11_isAlike_61 (by decide) ?_
      refine zr_goto (tgt := 66) X dX11_isAlike_62 (by decide) ?_
      exact zr_iret X dX11_isAlike_66 rfl ⟨Nat.le_refl _, Nat.le_refl _⟩ ⟨rfl, _, rfl, rfl, h⟩
  refine zl_w2 (fun a4 a5 => zv_V S D cA p l e (zv_rm d 0 0) s mi args below meth c 5 (MQ below (zv_Q S D cA (zq_i SH0 (fun v m' => m = m' ∧ P v))) args s 0 0 (zv_fr S)) 0 0 10 [(0, .ref (S.heap.size + 68)), (1, .int p1), (2, .int r1), (3, .int a4), (4, .int a5)] [] SH0 m) (fM_isAlike_l10 p1 m r1) _ (fun P3 hl3 hr3 a4 a5 h => ?_) zFU 0 0 (zw_b1 h)
  rw [fM_isAlike_l10] at h
  refine zr_iload X dX11_isAlike_10 4 rfl ?_
  refine zr_aload_n X dX11_isAlike_12 0 rfl ?_
  refine zr_getI X dX11_isAlike_13 zd_X11_13 rfl zo_68 (by rw [zk_11 zo_68]; decide) ?_
  refine zr_aload_n X dX11_isAlike_16 0 rfl ?_
  refine zr_getI X dX11_isAlike_17 zd_X11_13 rfl zo_68 (by rw [zk_11 zo_68]; decide) ?_
  refine zr_imul X dX11_isAlike_20 ?_
  refine zr_icmp_ge (tgt := 56) X dX11_isAlike_21 (by decide) (fun q => ?_) (fun q => ?_)
  · rw [if_neg q] at h
    have h := hr3 _ h
    exact zr_sub [2, 3] rfl (hR3 a4 h)
  · rw [if_pos q] at h
    refine zr_iload_n X dX11_isAlike_24 3 rfl ?_
    refine zr_aload_n X dX11_isAlike_25 0 rfl ?_
    refine zr_iload_n X dX11_isAlike_26 2 rfl ?_
    refine zr_iload X dX11_isAlike_27 4 rfl ?_
    refine zr_callV_i (As := [.int r1, .int a5]) (st := [.int a4]) (d := d - 1) X dX11_isAlike_29 wm_X11_323 my_X11_has mv_X11_has zo_68 rfl (Nat.le_of_ble_eq_true rfl) (zRm (by omega)) ⟨Nat.le_refl _, Nat.le_refl _⟩ (x_fM_has hG (d - 1) (by omega) r1 a5 m _ (zw_b1 h)) (fun r7 m8 q => ?_)
    obtain ⟨rfl, h⟩ := q
    have hJ48 : ∀ (v9 : Int32), zw (fM_isAlike_j48 a4 a5 v9) P3 → zv_V S D cA p l e (zv_rm d 0 0) s mi args below meth c 5 (MQ below (zv_Q S D cA (zq_i SH0 (fun v m' => m = m' ∧ P v))) args s 0 0 (zv_fr S)) 0 0 48 [(0, .ref (S.heap.size + 68)), (1, .int p1), (2, .int r1), (4, .int a5)] [.int v9, .int a4] SH0 m := by
      intro v9 h
      rw [fM_isAlike_j48] at h
      refine zr_ior X dX11_isAlike_48 ?_
      refine zr_istore_n (lo' := [(3, .int (a4 ||| v9)), (0, .ref (S.heap.size + 68)), (1, .int p1), (2, .int r1), (4, .int a5)]) X dX11_isAlike_49 (by decide) rfl ?_
      refine zr_iinc (v := a5 + 1) (lo' := [(4, .int (a5 + 1)), (3, .int (a4 ||| v9)), (0, .ref (S.heap.size + 68)), (1, .int p1), (2, .int r1)]) X dX11_isAlike_50 4 rfl rfl (by decide) rfl ?_
      refine zr_goto (tgt := 10) X dX11_isAlike_53 (by decide) ?_
      have h := hl3 _ h
      exact zr_sub [2, 3, 4, 1, 0] rfl h
    refine zr_if_eq (tgt := 47) X dX11_isAlike_32 (by decide) (fun q => ?_) (fun q => ?_)
    · rw [if_pos q] at h
      refine zr_iconst (v := 0) X dX11_isAlike_47 (by decide) ?_
      exact zr_sub [0, 1, 2, 4] rfl (hJ48 0 h)
    · rw [if_neg q] at h
      refine zr_iconst (v := 1) X dX11_isAlike_35 (by decide) ?_
      refine zr_aload_n X dX11_isAlike_36 0 rfl ?_
      refine zr_iload X dX11_isAlike_37 4 rfl ?_
      refine zr_iload_n X dX11_isAlike_39 1 rfl ?_
      refine zr_callV_i (As := [.int a5, .int p1]) (st := [.int 1, .int a4]) (d := d - 1) X dX11_isAlike_40 wm_X11_399 my_X11_turnedSquare mv_X11_turnedSquare zo_68 rfl (Nat.le_of_ble_eq_true rfl) (zRm (by omega)) ⟨Nat.le_refl _, Nat.le_refl _⟩ (x_fM_turnedSquare hG (d - 1) (by omega) a5 p1 m _ (zw_b1 h)) (fun r10 m11 q => ?_)
      obtain ⟨rfl, h⟩ := q
      refine zr_ishl X dX11_isAlike_43 ?_
      refine zr_goto (tgt := 48) X dX11_isAlike_44 (by decide) ?_
      exact zr_sub [0, 1, 2, 4] rfl (hJ48 (1 <<< (r10 &&& 31)) h)

set_option maxRecDepth 100000 in
set_option maxHeartbeats 4000000 in
theorem x_fM_turned {l : Launch} {S : State} {D : va_G} {cA : Nat → ClassId} {tb sx : Nat → Nat} (hG : zv_G S D cA tb sx) (d : Nat) (hd : 3 ≤ d) (p1 : Int32) (m : zv_M) (P : Int32 → Prop) (h : zw (fM_turned p1 m) P) : zv_Met l S D cA d 0 0 yX11_turned cX11_turned 2 (some .int) [.ref (S.heap.size + 68), .int p1] SH0 m (zq_i SH0 (fun v m' => m = m' ∧ P v)) := by
  refine zv_met false hG pf_X11_turned (fun z => by cases z) (Nat.le_of_ble_eq_true rfl) [(0, .ref (S.heap.size + 68)), (1, .int p1)] rfl (fun p e s mi args below meth c X => ?_)
  rw [fM_turned] at h
  refine zr_aload_n X dX11_turned_0 0 rfl ?_
  refine zr_iload_n X dX11_turned_1 1 rfl ?_
  refine zr_iconst (v := 0) X dX11_turned_2 (by decide) ?_
  refine zr_bipush (v := 7) X dX11_turned_3 (by decide) ?_
  refine zr_callV_i (As := [.int p1, .int 0, .int 7]) (st := []) (d := d - 1) X dX11_turned_5 wm_X11_230 my_X11_in mv_X11_in zo_68 rfl (Nat.le_of_ble_eq_true rfl) (zRm (by omega)) ⟨Nat.le_refl _, Nat.le_refl _⟩ (x_fM_in hG (d - 1) (by omega) p1 0 7 m _ (zw_b1 h)) (fun r1 m2 q => ?_)
  obtain ⟨rfl, h⟩ := q
  refine zr_if_ne (tgt := 15) X dX11_turned_8 (by decide) (fun q => ?_) (fun q => ?_)
  · rw [if_neg q] at h
    refine zr_aload_n X dX11_turned_15 0 rfl ?_
    refine zr_iload_n X dX11_turned_16 1 rfl ?_
    refine zr_callV_i (As := [.int p1]) (st := []) (d := d - 1) X dX11_turned_17 wm_X11_402 my_X11_isAlike mv_X11_isAlike zo_68 rfl (Nat.le_of_ble_eq_true rfl) (zRm (by omega)) ⟨Nat.le_refl _, Nat.le_refl _⟩ (x_fM_isAlike hG (d - 1) (by omega) p1 m _ (zw_b1 h)) (fun r3 m4 q => ?_)
    obtain ⟨rfl, h⟩ := q
    refine zr_if_eq (tgt := 27) X dX11_turned_20 (by decide) (fun q => ?_) (fun q => ?_)
    · rw [if_pos q] at h
      refine zr_iconst (v := 0) X dX11_turned_27 (by decide) ?_
      exact zr_iret X dX11_turned_28 rfl ⟨Nat.le_refl _, Nat.le_refl _⟩ ⟨rfl, _, rfl, rfl, h⟩
    · rw [if_neg q] at h
      refine zr_iconst (v := 1) X dX11_turned_23 (by decide) ?_
      refine zr_goto (tgt := 28) X dX11_turned_24 (by decide) ?_
      exact zr_iret X dX11_turned_28 rfl ⟨Nat.le_refl _, Nat.le_refl _⟩ ⟨rfl, _, rfl, rfl, h⟩
  · rw [if_pos q] at h
    refine zr_iconst (v := (-1)) X dX11_turned_11 (by decide) ?_
    refine zr_goto (tgt := 28) X dX11_turned_12 (by decide) ?_
    exact zr_iret X dX11_turned_28 rfl ⟨Nat.le_refl _, Nat.le_refl _⟩ ⟨rfl, _, rfl, rfl, h⟩

set_option maxRecDepth 100000 in
set_option maxHeartbeats 4000000 in
theorem x_fM_alike {l : Launch} {S : State} {D : va_G} {cA : Nat → ClassId} {tb sx : Nat → Nat} (hG : zv_G S D cA tb sx) (d : Nat) (hd : 3 ≤ d) (m : zv_M) (P : Int32 → Prop) (h : zw (fM_alike m) P) : zv_Met l S D cA d 0 0 yX11_alike cX11_alike 3 (some .int) [.ref (S.heap.size + 68)] SH0 m (zq_i SH0 (fun v m' => m = m' ∧ P v)) := by
  refine zv_met false hG pf_X11_alike (fun z => by cases z) (Nat.le_of_ble_eq_true rfl) [(0, .ref (S.heap.size + 68))] rfl (fun p e s mi args below meth c X => ?_)
  rw [fM_alike] at h
  refine zr_iconst (v := 0) X dX11_alike_0 (by decide) ?_
  refine zr_istore_n (lo' := [(1, .int 0), (0, .ref (S.heap.size + 68))]) X dX11_alike_1 (by decide) rfl ?_
  refine zr_iconst (v := 0) X dX11_alike_2 (by decide) ?_
  refine zr_istore_n (lo' := [(2, .int 0), (1, .int 0), (0, .ref (S.heap.size + 68))]) X dX11_alike_3 (by decide) rfl ?_
  refine zr_sub [2, 1, 0] rfl ?_
  refine zl_w2 (fun a2 a3 => zv_V S D cA p l e (zv_rm d 0 0) s mi args below meth c 3 (MQ below (zv_Q S D cA (zq_i SH0 (fun v m' => m = m' ∧ P v))) args s 0 0 (zv_fr S)) 0 0 4 [(0, .ref (S.heap.size + 68)), (1, .int a2), (2, .int a3)] [] SH0 m) (fM_alike_l4 m) _ (fun P1 hl1 hr1 a2 a3 h => ?_) zFU 0 0 (zw_b1 h)
  rw [fM_alike_l4] at h
  refine zr_iload_n X dX11_alike_4 2 rfl ?_
  refine zr_bipush (v := 8) X dX11_alike_5 (by decide) ?_
  refine zr_icmp_ge (tgt := 32) X dX11_alike_7 (by decide) (fun q => ?_) (fun q => ?_)
  · rw [if_neg q] at h
    refine zr_iload_n X dX11_alike_32 1 rfl ?_
    have h := hr1 _ h
    exact zr_iret X dX11_alike_33 rfl ⟨Nat.le_refl _, Nat.le_refl _⟩ ⟨rfl, _, rfl, rfl, h⟩
  · rw [if_pos q] at h
    refine zr_iload_n X dX11_alike_10 1 rfl ?_
    refine zr_aload_n X dX11_alike_11 0 rfl ?_
    refine zr_iload_n X dX11_alike_12 2 rfl ?_
    refine zr_callV_i (As := [.int a3]) (st := [.int a2]) (d := d - 1) X dX11_alike_13 wm_X11_402 my_X11_isAlike mv_X11_isAlike zo_68 rfl (Nat.le_of_ble_eq_true rfl) (zRm (by omega)) ⟨Nat.le_refl _, Nat.le_refl _⟩ (x_fM_isAlike hG (d - 1) (by omega) a3 m _ (zw_b1 h)) (fun r4 m5 q => ?_)
    obtain ⟨rfl, h⟩ := q
    have hJ24 : ∀ (v6 : Int32), zw (fM_alike_j24 a2 a3 v6) P1 → zv_V S D cA p l e (zv_rm d 0 0) s mi args below meth c 3 (MQ below (zv_Q S D cA (zq_i SH0 (fun v m' => m = m' ∧ P v))) args s 0 0 (zv_fr S)) 0 0 24 [(0, .ref (S.heap.size + 68)), (2, .int a3)] [.int v6, .int a2] SH0 m := by
      intro v6 h
      rw [fM_alike_j24] at h
      refine zr_iadd X dX11_alike_24 ?_
      refine zr_istore_n (lo' := [(1, .int (a2 + v6)), (0, .ref (S.heap.size + 68)), (2, .int a3)]) X dX11_alike_25 (by decide) rfl ?_
      refine zr_iinc (v := a3 + 1) (lo' := [(2, .int (a3 + 1)), (1, .int (a2 + v6)), (0, .ref (S.heap.size + 68))]) X dX11_alike_26 2 rfl rfl (by decide) rfl ?_
      refine zr_goto (tgt := 4) X dX11_alike_29 (by decide) ?_
      have h := hl1 _ h
      exact zr_sub [2, 1, 0] rfl h
    refine zr_if_eq (tgt := 23) X dX11_alike_16 (by decide) (fun q => ?_) (fun q => ?_)
    · rw [if_pos q] at h
      refine zr_iconst (v := 0) X dX11_alike_23 (by decide) ?_
      exact zr_sub [0, 2] rfl (hJ24 0 h)
    · rw [if_neg q] at h
      refine zr_iconst (v := 1) X dX11_alike_19 (by decide) ?_
      refine zr_goto (tgt := 24) X dX11_alike_20 (by decide) ?_
      exact zr_sub [0, 2] rfl (hJ24 1 h)

set_option maxRecDepth 100000 in
set_option maxHeartbeats 4000000 in
theorem x_fM_aim {l : Launch} {S : State} {D : va_G} {cA : Nat → ClassId} {tb sx : Nat → Nat} (hG : zv_G S D cA tb sx) (d : Nat) (hd : 3 ≤ d) (p1 : Int32) (m : zv_M) (P : Int32 → zv_M → Prop) (h : zw2 (fM_aim p1 m) P) : zv_Met l S D cA d 0 0 yX11_aim cX11_aim 3 (some .int) [.ref (S.heap.size + 68), .int p1] SH0 m (zq_i SH0 P) := by
  refine zv_met false hG pf_X11_aim (fun z => by cases z) (Nat.le_of_ble_eq_true rfl) [(0, .ref (S.heap.size + 68)), (1, .int p1)] rfl (fun p e s mi args below meth c X => ?_)
  rw [fM_aim] at h
  refine zr_iload_n X dX11_aim_0 1 rfl ?_
  refine zr_iconst (v := (-1)) X dX11_aim_1 (by decide) ?_
  refine zr_icmp_ne (tgt := 12) X dX11_aim_2 (by decide) (fun q => ?_) (fun q => ?_)
  · rw [if_neg q] at h
    refine zr_aload_n X dX11_aim_12 0 rfl ?_
    refine zr_iload_n X dX11_aim_13 1 rfl ?_
    refine zr_callV_i (As := [.int p1]) (st := []) (d := d - 1) X dX11_aim_14 wm_X11_341 my_X11_isSquare mv_X11_isSquare zo_68 rfl (Nat.le_of_ble_eq_true rfl) (zRm (by omega)) ⟨Nat.le_refl _, Nat.le_refl _⟩ (x_fM_isSquare hG (d - 1) (by omega) p1 m _ (zw_b12 h)) (fun r1 m2 q => ?_)
    obtain ⟨rfl, h⟩ := q
    refine zr_if_ne (tgt := 22) X dX11_aim_17 (by decide) (fun q => ?_) (fun q => ?_)
    · rw [if_neg q] at h
      refine zr_iconst (v := 0) X dX11_aim_22 (by decide) ?_
      refine zr_istore_n (lo' := [(2, .int 0), (0, .ref (S.heap.size + 68)), (1, .int p1)]) X dX11_aim_23 (by decide) rfl ?_
      refine zr_sub [1, 2, 0] rfl ?_
      have hR3 : zw2 (if m.1 68 42 = 5 then some ((-4), m) else zg (zI (m.1 68 42) 5) (some ((wI (wI m 95 (m.1 68 42).toNatClampNeg p1) 68 42 (((wI m 95 (m.1 68 42).toNatClampNeg p1).1 68 42) + 1)).1 68 42, wI (wI m 95 (m.1 68 42).toNatClampNeg p1) 68 42 (((wI m 95 (m.1 68 42).toNatClampNeg p1).1 68 42) + 1))) : Option (Int32 × zv_M)) P → zv_V S D cA p l e (zv_rm d 0 0) s mi args below meth c 3 (MQ below (zv_Q S D cA (zq_i SH0 P)) args s 0 0 (zv_fr S)) 0 0 51 [(0, .ref (S.heap.size + 68)), (1, .int p1)] [] SH0 m := by
        intro h
        refine zr_aload_n X dX11_aim_51 0 rfl ?_
        refine zr_getI X dX11_aim_52 zd_X11_139 rfl zo_68 (by rw [zk_11 zo_68]; decide) ?_
        refine zr_iconst (v := 5) X dX11_aim_55 (by decide) ?_
        refine zr_icmp_ne (tgt := 62) X dX11_aim_56 (by decide) (fun q => ?_) (fun q => ?_)
        · rw [if_neg q] at h
          refine zr_aload_n X dX11_aim_62 0 rfl ?_
          refine zr_getR X dX11_aim_63 zd_X11_142 rfl zo_68 zl_68_43 ?_
          refine zr_aload_n X dX11_aim_66 0 rfl ?_
          refine zr_getI X dX11_aim_67 zd_X11_139 rfl zo_68 (by rw [zk_11 zo_68]; decide) ?_
          refine zr_iload_n X dX11_aim_70 1 rfl ?_
          obtain ⟨g0, h⟩ := zg_e2 h
          refine zr_iast X dX11_aim_71 za_95 (zI_in g0) ?_
          refine zr_aload_n X dX11_aim_72 0 rfl ?_
          refine zr_dup X dX11_aim_73 rfl ?_
          refine zr_getI X dX11_aim_74 zd_X11_139 rfl zo_68 (by rw [zk_11 zo_68]; decide) ?_
          refine zr_iconst (v := 1) X dX11_aim_77 (by decide) ?_
          refine zr_iadd X dX11_aim_78 ?_
          refine zr_put X dX11_aim_79 zd_X11_139 rfl rfl rfl zo_68 (by rw [zk_11 zo_68]; decide) ?_
          refine zr_aload_n X dX11_aim_82 0 rfl ?_
          refine zr_getI X dX11_aim_83 zd_X11_139 rfl zo_68 (by rw [zk_11 zo_68]; decide) ?_
          exact zr_iret X dX11_aim_86 rfl ⟨Nat.le_refl _, Nat.le_refl _⟩ ⟨rfl, _, rfl, h⟩
        · rw [if_pos q] at h
          refine zr_bipush (v := (-4)) X dX11_aim_59 (by decide) ?_
          exact zr_iret X dX11_aim_61 rfl ⟨Nat.le_refl _, Nat.le_refl _⟩ ⟨rfl, _, rfl, h⟩
      refine zl_w1 (fun a4 => zv_V S D cA p l e (zv_rm d 0 0) s mi args below meth c 3 (MQ below (zv_Q S D cA (zq_i SH0 P)) args s 0 0 (zv_fr S)) 0 0 24 [(0, .ref (S.heap.size + 68)), (1, .int p1), (2, .int a4)] [] SH0 m) (fM_aim_l24 p1 m) _ (fun P3 hl3 hr3 a4 h => ?_) zFU 0 (zw_b12 h)
      rw [fM_aim_l24] at h
      refine zr_iload_n X dX11_aim_24 2 rfl ?_
      refine zr_aload_n X dX11_aim_25 0 rfl ?_
      refine zr_getI X dX11_aim_26 zd_X11_139 rfl zo_68 (by rw [zk_11 zo_68]; decide) ?_
      refine zr_icmp_ge (tgt := 51) X dX11_aim_29 (by decide) (fun q => ?_) (fun q => ?_)
      · rw [if_neg q] at h
        have h := hr3 _ h
        exact zr_sub [0, 1] rfl (hR3 h)
      · rw [if_pos q] at h
        refine zr_aload_n X dX11_aim_32 0 rfl ?_
        refine zr_getR X dX11_aim_33 zd_X11_142 rfl zo_68 zl_68_43 ?_
        refine zr_iload_n X dX11_aim_36 2 rfl ?_
        obtain ⟨g0, h⟩ := zg_e h
        refine zr_iald X dX11_aim_37 za_95 (zI_in g0) ?_
        refine zr_iload_n X dX11_aim_38 1 rfl ?_
        refine zr_icmp_ne (tgt := 45) X dX11_aim_39 (by decide) (fun q => ?_) (fun q => ?_)
        · rw [if_neg q] at h
          refine zr_iinc (v := a4 + 1) (lo' := [(2, .int (a4 + 1)), (0, .ref (S.heap.size + 68)), (1, .int p1)]) X dX11_aim_45 2 rfl rfl (by decide) rfl ?_
          refine zr_goto (tgt := 24) X dX11_aim_48 (by decide) ?_
          have h := hl3 _ h
          exact zr_sub [1, 2, 0] rfl h
        · rw [if_pos q] at h
          refine zr_bipush (v := (-2)) X dX11_aim_42 (by decide) ?_
          have h := hr3 _ h
          exact zr_iret X dX11_aim_44 rfl ⟨Nat.le_refl _, Nat.le_refl _⟩ ⟨rfl, _, rfl, h⟩
    · rw [if_pos q] at h
      refine zr_iconst (v := (-1)) X dX11_aim_20 (by decide) ?_
      exact zr_iret X dX11_aim_21 rfl ⟨Nat.le_refl _, Nat.le_refl _⟩ ⟨rfl, _, rfl, h⟩
  · rw [if_pos q] at h
    refine zr_aload_n X dX11_aim_5 0 rfl ?_
    refine zr_iconst (v := 0) X dX11_aim_6 (by decide) ?_
    refine zr_put X dX11_aim_7 zd_X11_139 rfl rfl rfl zo_68 (by rw [zk_11 zo_68]; decide) ?_
    refine zr_iconst (v := 0) X dX11_aim_10 (by decide) ?_
    exact zr_iret X dX11_aim_11 rfl ⟨Nat.le_refl _, Nat.le_refl _⟩ ⟨rfl, _, rfl, h⟩

set_option maxRecDepth 100000 in
set_option maxHeartbeats 4000000 in
theorem x_fM_laySteps {l : Launch} {S : State} {D : va_G} {cA : Nat → ClassId} {tb sx : Nat → Nat} (hG : zv_G S D cA tb sx) (d : Nat) (hd : 2 ≤ d) (p1 : Int32) (m : zv_M) (P : zv_M → Prop) (h : zw (fM_laySteps p1 m) P) : zv_Met l S D cA d 0 0 yX11_laySteps cX11_laySteps 5 none [.ref (S.heap.size + 68), .int p1] SH0 m (zq_v SH0 P) := by
  refine zv_met false hG pf_X11_laySteps (fun z => by cases z) (Nat.le_of_ble_eq_true rfl) [(0, .ref (S.heap.size + 68)), (1, .int p1)] rfl (fun p e s mi args below meth c X => ?_)
  rw [fM_laySteps] at h
  refine zr_iconst (v := 0) X dX11_laySteps_0 (by decide) ?_
  refine zr_istore_n (lo' := [(2, .int 0), (0, .ref (S.heap.size + 68)), (1, .int p1)]) X dX11_laySteps_1 (by decide) rfl ?_
  refine zr_sub [1, 2, 0] rfl ?_
  have hR1 : ∀ (m4 : zv_M), zw (zg (zI p1 25) (zb1 (whileN zFU fM_laySteps_l31 (1, wI m4 96 p1.toNatClampNeg 0)) (fun r => some r)) : Option (zv_M)) P → zv_V S D cA p l e (zv_rm d 0 0) s mi args below meth c 5 (MQ below (zv_Q S D cA (zq_v SH0 P)) args s 0 0 (zv_fr S)) 0 0 22 [(0, .ref (S.heap.size + 68)), (1, .int p1)] [] SH0 m4 := by
    intro m4 h
    refine zr_aload_n X dX11_laySteps_22 0 rfl ?_
    refine zr_getR X dX11_laySteps_23 zd_X11_145 rfl zo_68 zl_68_44 ?_
    refine zr_iload_n X dX11_laySteps_26 1 rfl ?_
    refine zr_iconst (v := 0) X dX11_laySteps_27 (by decide) ?_
    obtain ⟨g0, h⟩ := zg_e h
    refine zr_iast X dX11_laySteps_28 za_96 (zI_in g0) ?_
    refine zr_iconst (v := 1) X dX11_laySteps_29 (by decide) ?_
    refine zr_istore_n (lo' := [(2, .int 1), (0, .ref (S.heap.size + 68)), (1, .int p1)]) X dX11_laySteps_30 (by decide) rfl ?_
    refine zr_sub [1, 0] rfl ?_
    refine zl_w2 (fun a6 m7 => zv_V S D cA p l e (zv_rm d 0 0) s mi args below meth c 5 (MQ below (zv_Q S D cA (zq_v SH0 P)) args s 0 0 (zv_fr S)) 0 0 31 [(0, .ref (S.heap.size + 68)), (2, .int a6)] [] SH0 m7) fM_laySteps_l31 _ (fun P5 hl5 hr5 a6 m7 h => ?_) zFU 1 (wI m4 96 p1.toNatClampNeg 0) (zw_b1 h)
    rw [fM_laySteps_l31] at h
    refine zr_iload_n X dX11_laySteps_31 1 rfl ?_
    refine zr_if_eq (tgt := 176) X dX11_laySteps_32 (by decide) (fun q => ?_) (fun q => ?_)
    · rw [if_pos q] at h
      have h := hr5 _ h
      exact zr_vret X dX11_laySteps_176 ⟨Nat.le_refl _, Nat.le_refl _⟩ ⟨rfl, rfl, h⟩
    · rw [if_neg q] at h
      refine zr_iconst (v := 0) X dX11_laySteps_35 (by decide) ?_
      refine zr_istore_n (lo' := [(2, .int 0), (0, .ref (S.heap.size + 68))]) X dX11_laySteps_36 (by decide) rfl ?_
      refine zr_iconst (v := 0) X dX11_laySteps_37 (by decide) ?_
      refine zr_istore_n (lo' := [(3, .int 0), (2, .int 0), (0, .ref (S.heap.size + 68))]) X dX11_laySteps_38 (by decide) rfl ?_
      refine zr_sub [2, 1, 0] rfl ?_
      have hR8 : ∀ (a12 : Int32) (m13 : zv_M), zw (some (.inl (a12, m13)) : Option ((Int32 × zv_M) ⊕ (zv_M))) P5 → zv_V S D cA p l e (zv_rm d 0 0) s mi args below meth c 5 (MQ below (zv_Q S D cA (zq_v SH0 P)) args s 0 0 (zv_fr S)) 0 0 173 [(0, .ref (S.heap.size + 68)), (2, .int a12)] [] SH0 m13 := by
        intro a12 m13 h
        refine zr_goto (tgt := 31) X dX11_laySteps_173 (by decide) ?_
        have h := hl5 _ h
        exact zr_sub [0, 1] rfl h
      refine zl_w3 (fun a9 a10 m11 => zv_V S D cA p l e (zv_rm d 0 0) s mi args below meth c 5 (MQ below (zv_Q S D cA (zq_v SH0 P)) args s 0 0 (zv_fr S)) 0 0 39 [(0, .ref (S.heap.size + 68)), (2, .int a9), (3, .int a10)] [] SH0 m11) fM_laySteps_l39 _ (fun P8 hl8 hr8 a9 a10 m11 h => ?_) zFU 0 0 m7 (zw_b1 h)
      rw [fM_laySteps_l39] at h
      refine zr_iload_n X dX11_laySteps_39 2 rfl ?_
      refine zr_aload_n X dX11_laySteps_40 0 rfl ?_
      refine zr_getI X dX11_laySteps_41 zd_X11_13 rfl zo_68 (by rw [zk_11 zo_68]; decide) ?_
      refine zr_aload_n X dX11_laySteps_44 0 rfl ?_
      refine zr_getI X dX11_laySteps_45 zd_X11_13 rfl zo_68 (by rw [zk_11 zo_68]; decide) ?_
      refine zr_imul X dX11_laySteps_48 ?_
      refine zr_icmp_ge (tgt := 173) X dX11_laySteps_49 (by decide) (fun q => ?_) (fun q => ?_)
      · rw [if_neg q] at h
        have h := hr8 _ h
        exact zr_sub [0, 1] rfl (hR8 a9 m11 h)
      · rw [if_pos q] at h
        refine zr_aload_n X dX11_laySteps_52 0 rfl ?_
        refine zr_aload_n X dX11_laySteps_53 0 rfl ?_
        refine zr_getI X dX11_laySteps_54 zd_X11_19 rfl zo_68 (by rw [zk_11 zo_68]; decide) ?_
        refine zr_iload_n X dX11_laySteps_57 2 rfl ?_
        refine zr_callV_i (As := [.int (m11.1 68 3), .int a10]) (st := []) (d := d - 1) X dX11_laySteps_58 wm_X11_323 my_X11_has mv_X11_has zo_68 rfl (Nat.le_of_ble_eq_true rfl) (zRm (by omega)) ⟨Nat.le_refl _, Nat.le_refl _⟩ (x_fM_has hG (d - 1) (by omega) (m11.1 68 3) a10 m11 _ (zw_b1 h)) (fun r14 m15 q => ?_)
        obtain ⟨rfl, h⟩ := q
        have hJ167 : ∀ (a16 : Int32) (m17 : zv_M), zw (fM_laySteps_j167 a10 a16 m17) P8 → zv_V S D cA p l e (zv_rm d 0 0) s mi args below meth c 5 (MQ below (zv_Q S D cA (zq_v SH0 P)) args s 0 0 (zv_fr S)) 0 0 167 [(0, .ref (S.heap.size + 68)), (2, .int a16), (3, .int a10)] [] SH0 m17 := by
          intro a16 m17 h
          rw [fM_laySteps_j167] at h
          refine zr_iinc (v := a10 + 1) (lo' := [(3, .int (a10 + 1)), (0, .ref (S.heap.size + 68)), (2, .int a16)]) X dX11_laySteps_167 2 rfl rfl (by decide) rfl ?_
          refine zr_goto (tgt := 39) X dX11_laySteps_170 (by decide) ?_
          have h := hl8 _ h
          exact zr_sub [1, 2, 0] rfl h
        refine zr_if_eq (tgt := 67) X dX11_laySteps_61 (by decide) (fun q => ?_) (fun q => ?_)
        · rw [if_pos q] at h
          refine zr_iconst (v := 0) X dX11_laySteps_67 (by decide) ?_
          refine zr_istore (lo' := [(4, .int 0), (0, .ref (S.heap.size + 68)), (2, .int a9), (3, .int a10)]) X dX11_laySteps_68 (by decide) rfl ?_
          refine zr_sub [1, 2, 3, 0] rfl ?_
          have hR18 : ∀ (a22 : Int32) (m23 : zv_M), zw (fM_laySteps_j167 a10 a22 m23 : Option ((Int32 × Int32 × zv_M) ⊕ (Int32 × zv_M))) P8 → zv_V S D cA p l e (zv_rm d 0 0) s mi args below meth c 5 (MQ below (zv_Q S D cA (zq_v SH0 P)) args s 0 0 (zv_fr S)) 0 0 167 [(0, .ref (S.heap.size + 68)), (2, .int a22), (3, .int a10)] [] SH0 m23 := by
            intro a22 m23 h
            exact zr_sub [0, 1, 2] rfl (hJ167 a22 m23 h)
          refine zl_w3 (fun a19 a20 m21 => zv_V S D cA p l e (zv_rm d 0 0) s mi args below meth c 5 (MQ below (zv_Q S D cA (zq_v SH0 P)) args s 0 0 (zv_fr S)) 0 0 70 [(0, .ref (S.heap.size + 68)), (2, .int a19), (3, .int a10), (4, .int a20)] [] SH0 m21) (fM_laySteps_l70 a10) _ (fun P18 hl18 hr18 a19 a20 m21 h => ?_) zFU a9 0 m11 (zw_b1 h)
          rw [fM_laySteps_l70] at h
          refine zr_iload X dX11_laySteps_70 3 rfl ?_
          refine zr_aload_n X dX11_laySteps_72 0 rfl ?_
          refine zr_getI X dX11_laySteps_73 zd_X11_13 rfl zo_68 (by rw [zk_11 zo_68]; decide) ?_
          refine zr_aload_n X dX11_laySteps_76 0 rfl ?_
          refine zr_getI X dX11_laySteps_77 zd_X11_13 rfl zo_68 (by rw [zk_11 zo_68]; decide) ?_
          refine zr_imul X dX11_laySteps_80 ?_
          refine zr_icmp_ge (tgt := 167) X dX11_laySteps_81 (by decide) (fun q => ?_) (fun q => ?_)
          · rw [if_neg q] at h
            have h := hr18 _ h
            exact zr_sub [0, 1, 2] rfl (hR18 a19 m21 h)
          · rw [if_pos q] at h
            refine zr_aload_n X dX11_laySteps_84 0 rfl ?_
            refine zr_iload_n X dX11_laySteps_85 2 rfl ?_
            refine zr_aload_n X dX11_laySteps_86 0 rfl ?_
            refine zr_getI X dX11_laySteps_87 zd_X11_13 rfl zo_68 (by rw [zk_11 zo_68]; decide) ?_
            obtain ⟨g0, h⟩ := zg_e h
            refine zr_irem X dX11_laySteps_90 (zN_ne g0) ?_
            refine zr_iload X dX11_laySteps_91 3 rfl ?_
            refine zr_aload_n X dX11_laySteps_93 0 rfl ?_
            refine zr_getI X dX11_laySteps_94 zd_X11_13 rfl zo_68 (by rw [zk_11 zo_68]; decide) ?_
            obtain ⟨g0, h⟩ := zg_e h
            refine zr_irem X dX11_laySteps_97 (zN_ne g0) ?_
            refine zr_callV_i (As := [.int (a10 - a10 / (m21.1 68 1) * (m21.1 68 1)), .int (a20 - a20 / (m21.1 68 1) * (m21.1 68 1))]) (st := []) (d := d - 1) X dX11_laySteps_98 wm_X11_300 my_X11_apart mv_X11_apart zo_68 rfl (Nat.le_of_ble_eq_true rfl) (zRm (by omega)) ⟨Nat.le_refl _, Nat.le_refl _⟩ (x_fM_apart hG (d - 1) (by omega) (a10 - a10 / (m21.1 68 1) * (m21.1 68 1)) (a20 - a20 / (m21.1 68 1) * (m21.1 68 1)) m21 _ (zw_b1 h)) (fun r24 m25 q => ?_)
            obtain ⟨rfl, h⟩ := q
            refine zr_aload_n X dX11_laySteps_101 0 rfl ?_
            refine zr_iload_n X dX11_laySteps_102 2 rfl ?_
            refine zr_aload_n X dX11_laySteps_103 0 rfl ?_
            refine zr_getI X dX11_laySteps_104 zd_X11_13 rfl zo_68 (by rw [zk_11 zo_68]; decide) ?_
            obtain ⟨g0, h⟩ := zg_e h
            refine zr_idiv X dX11_laySteps_107 (zN_ne g0) ?_
            refine zr_iload X dX11_laySteps_108 3 rfl ?_
            refine zr_aload_n X dX11_laySteps_110 0 rfl ?_
            refine zr_getI X dX11_laySteps_111 zd_X11_13 rfl zo_68 (by rw [zk_11 zo_68]; decide) ?_
            obtain ⟨g0, h⟩ := zg_e h
            refine zr_idiv X dX11_laySteps_114 (zN_ne g0) ?_
            refine zr_callV_i (As := [.int (a10 / (m21.1 68 1)), .int (a20 / (m21.1 68 1))]) (st := [.int r24]) (d := d - 1) X dX11_laySteps_115 wm_X11_300 my_X11_apart mv_X11_apart zo_68 rfl (Nat.le_of_ble_eq_true rfl) (zRm (by omega)) ⟨Nat.le_refl _, Nat.le_refl _⟩ (x_fM_apart hG (d - 1) (by omega) (a10 / (m21.1 68 1)) (a20 / (m21.1 68 1)) m21 _ (zw_b1 h)) (fun r26 m27 q => ?_)
            obtain ⟨rfl, h⟩ := q
            refine zr_iadd X dX11_laySteps_118 ?_
            refine zr_iconst (v := 1) X dX11_laySteps_119 (by decide) ?_
            have hJ161 : ∀ (a28 : Int32) (m29 : zv_M), zw (fM_laySteps_j161 a20 a28 m29) P18 → zv_V S D cA p l e (zv_rm d 0 0) s mi args below meth c 5 (MQ below (zv_Q S D cA (zq_v SH0 P)) args s 0 0 (zv_fr S)) 0 0 161 [(0, .ref (S.heap.size + 68)), (2, .int a28), (3, .int a10), (4, .int a20)] [] SH0 m29 := by
              intro a28 m29 h
              rw [fM_laySteps_j161] at h
              refine zr_iinc (v := a20 + 1) (lo' := [(4, .int (a20 + 1)), (0, .ref (S.heap.size + 68)), (2, .int a28), (3, .int a10)]) X dX11_laySteps_161 3 rfl rfl (by decide) rfl ?_
              refine zr_goto (tgt := 70) X dX11_laySteps_164 (by decide) ?_
              have h := hl18 _ h
              exact zr_sub [1, 2, 3, 0] rfl h
            refine zr_icmp_ne (tgt := 161) X dX11_laySteps_120 (by decide) (fun q => ?_) (fun q => ?_)
            · rw [if_neg q] at h
              exact zr_sub [0, 1, 2, 3] rfl (hJ161 a19 m21 h)
            · rw [if_pos q] at h
              refine zr_aload_n X dX11_laySteps_123 0 rfl ?_
              refine zr_getR X dX11_laySteps_124 zd_X11_145 rfl zo_68 zl_68_44 ?_
              refine zr_iload X dX11_laySteps_127 3 rfl ?_
              obtain ⟨g0, h⟩ := zg_e h
              refine zr_iald X dX11_laySteps_129 za_96 (zI_in g0) ?_
              refine zr_iconst (v := 1) X dX11_laySteps_130 (by decide) ?_
              refine zr_iadd X dX11_laySteps_131 ?_
              refine zr_aload_n X dX11_laySteps_132 0 rfl ?_
              refine zr_getR X dX11_laySteps_133 zd_X11_145 rfl zo_68 zl_68_44 ?_
              refine zr_iload_n X dX11_laySteps_136 2 rfl ?_
              obtain ⟨g0, h⟩ := zg_e h
              refine zr_iald X dX11_laySteps_137 za_96 (zI_in g0) ?_
              refine zr_icmp_lt (tgt := 144) X dX11_laySteps_138 (by decide) (fun q => ?_) (fun q => ?_)
              · rw [if_pos q] at h
                refine zr_aload_n X dX11_laySteps_144 0 rfl ?_
                refine zr_getR X dX11_laySteps_145 zd_X11_145 rfl zo_68 zl_68_44 ?_
                refine zr_iload_n X dX11_laySteps_148 2 rfl ?_
                refine zr_aload_n X dX11_laySteps_149 0 rfl ?_
                refine zr_getR X dX11_laySteps_150 zd_X11_145 rfl zo_68 zl_68_44 ?_
                refine zr_iload X dX11_laySteps_153 3 rfl ?_
                obtain ⟨g0, h⟩ := zg_e h
                refine zr_iald X dX11_laySteps_155 za_96 (zI_in g0) ?_
                refine zr_iconst (v := 1) X dX11_laySteps_156 (by decide) ?_
                refine zr_iadd X dX11_laySteps_157 ?_
                obtain ⟨g0, h⟩ := zg_e h
                refine zr_iast X dX11_laySteps_158 za_96 (zI_in g0) ?_
                refine zr_iconst (v := 1) X dX11_laySteps_159 (by decide) ?_
                refine zr_istore_n (lo' := [(2, .int 1), (0, .ref (S.heap.size + 68)), (3, .int a10), (4, .int a20)]) X dX11_laySteps_160 (by decide) rfl ?_
                exact zr_sub [1, 0, 2, 3] rfl (hJ161 1 (wI m21 96 a10.toNatClampNeg ((m21.1 96 a20.toNatClampNeg) + 1)) h)
              · rw [if_neg q] at h
                refine zr_goto (tgt := 161) X dX11_laySteps_141 (by decide) ?_
                exact zr_sub [0, 1, 2, 3] rfl (hJ161 a19 m21 h)
        · rw [if_neg q] at h
          refine zr_goto (tgt := 167) X dX11_laySteps_64 (by decide) ?_
          exact zr_sub [0, 1, 2] rfl (hJ167 a9 m11 h)
  refine zl_w2 (fun a2 m3 => zv_V S D cA p l e (zv_rm d 0 0) s mi args below meth c 5 (MQ below (zv_Q S D cA (zq_v SH0 P)) args s 0 0 (zv_fr S)) 0 0 2 [(0, .ref (S.heap.size + 68)), (1, .int p1), (2, .int a2)] [] SH0 m3) fM_laySteps_l2 _ (fun P1 hl1 hr1 a2 m3 h => ?_) zFU 0 m (zw_b1 h)
  rw [fM_laySteps_l2] at h
  refine zr_iload_n X dX11_laySteps_2 2 rfl ?_
  refine zr_bipush (v := 25) X dX11_laySteps_3 (by decide) ?_
  refine zr_icmp_ge (tgt := 22) X dX11_laySteps_5 (by decide) (fun q => ?_) (fun q => ?_)
  · rw [if_neg q] at h
    have h := hr1 _ h
    exact zr_sub [0, 1] rfl (hR1 m3 h)
  · rw [if_pos q] at h
    refine zr_aload_n X dX11_laySteps_8 0 rfl ?_
    refine zr_getR X dX11_laySteps_9 zd_X11_145 rfl zo_68 zl_68_44 ?_
    refine zr_iload_n X dX11_laySteps_12 2 rfl ?_
    refine zr_bipush (v := 99) X dX11_laySteps_13 (by decide) ?_
    obtain ⟨g0, h⟩ := zg_e h
    refine zr_iast X dX11_laySteps_15 za_96 (zI_in g0) ?_
    refine zr_iinc (v := a2 + 1) (lo' := [(2, .int (a2 + 1)), (0, .ref (S.heap.size + 68)), (1, .int p1)]) X dX11_laySteps_16 2 rfl rfl (by decide) rfl ?_
    refine zr_goto (tgt := 2) X dX11_laySteps_19 (by decide) ?_
    have h := hl1 _ h
    exact zr_sub [1, 2, 0] rfl h

